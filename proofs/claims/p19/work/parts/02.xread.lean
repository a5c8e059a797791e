section CRX
/-! bits, booleans -/
theorem cr_nb0 : vp_nar .boolean 0 = 0 := by decide
theorem cr_nb1 : vp_nar .boolean 1 = 1 := by decide
theorem cr_nb {x : Int32} (h : x = 0 ∨ x = 1) : vp_nar .boolean x = x := by
  rcases h with rfl | rfl
  · exact cr_nb0
  · exact cr_nb1
theorem cr_nn {x : Int32} (h : x = 0 ∨ x = 1) : narrow .boolean (.int x) = .int x := by
  rcases h with rfl | rfl <;> rfl
theorem cr_10 : ¬ (1 : Int32) = 0 := by decide
def cr_01 (a : Nat → Int32) : Prop := ∀ j, a j = 0 ∨ a j = 1
theorem cr_01u {a : Nat → Int32} {k : Nat} {x : Int32} (h : cr_01 a) (hx : x = 0 ∨ x = 1) : cr_01 (upd a k x) := by
  intro j
  by_cases e : j = k
  · subst e; rw [pk_us]; exact hx
  · rw [pk_un e]; exact h j
theorem cr_ub0 {a : Nat → Int32} {i : Nat} (h : i < 2 ^ 31) : upd a (nI i).toNatClampNeg 0 = upd a i 0 := by rw [nI_clamp h]
theorem cr_ub1 {a : Nat → Int32} {i : Nat} (h : i < 2 ^ 31) : upd a (nI i).toNatClampNeg 1 = upd a i 1 := by rw [nI_clamp h]
theorem cr_ub {a : Nat → Int32} {i : Nat} {x : Int32} (h : i < 2 ^ 31) (hx : x = 0 ∨ x = 1) : upd a (nI i).toNatClampNeg (vp_nar .boolean x) = upd a i x := by rw [nI_clamp h, cr_nb hx]
theorem cr_ui {a : Nat → Int32} {i : Nat} {x : Int32} (h : i < 2 ^ 31) : upd a (nI i).toNatClampNeg x = upd a i x := by rw [nI_clamp h]
theorem cr_b1 : ∀ i, i < 32 → bt 1 i = decide (i = 0) := by decide +kernel
theorem cr_bit1 {s : Int32} {p : Nat} (hp : p < 32) : ((s >>> (nI p &&& 31)) &&& 1) = 1 ↔ bt s p = true := by
  constructor
  · intro h
    have h0 : bt ((s >>> (nI p &&& 31)) &&& 1) 0 = true := by rw [h]; decide
    rw [b_and, b_sshr p hp s (by omega), if_pos (by omega)] at h0
    simp only [Bool.and_eq_true] at h0
    exact h0.1
  · intro h
    apply b_ext
    intro i hi
    rw [b_and, cr_b1 i hi]
    by_cases e : i = 0
    · subst e
      rw [b_sshr p hp s (by omega), if_pos (by omega)]
      simp [h]
    · simp [e]
theorem cr_sl {i p : Nat} (hp : p < 32) (hi : i < 32) : bt ((1 : Int32) <<< (nI p &&& 31)) i = decide (i = p) := by
  rw [b_shl p hp 1 hi, cr_b1 (i - p) (by omega)]
  by_cases e : i = p
  · subst e; simp
  · by_cases e2 : p ≤ i
    · have : ¬ i - p = 0 := by omega
      simp [e, this]
    · simp [e, e2]
theorem cr_bit0 {s : Int32} {p : Nat} (hp : p < 32) : (s &&& ((1 : Int32) <<< (nI p &&& 31))) = 0 ↔ bt s p = false := by
  constructor
  · intro h
    have h0 : bt (s &&& ((1 : Int32) <<< (nI p &&& 31))) p = false := by rw [h, b_0]
    rw [b_and, cr_sl hp hp] at h0
    simpa using h0
  · intro h
    apply b_ext
    intro i hi
    rw [b_and, cr_sl hp hi, b_0]
    by_cases e : i = p
    · subst e; rw [h]; rfl
    · simp [e]
theorem cr_nt {x : Bool} (h : ¬ x = true) : x = false := by cases x <;> first | rfl | exact absurd rfl h
theorem cr_s1' {n : Nat} (h : 0 < n) : nI n - 1 = nI (n - 1) := by
  obtain ⟨m, rfl⟩ : ∃ m, n = m + 1 := ⟨n - 1, by omega⟩
  exact nI_pred m
/-! the leaves' table in X -/
def cr_lf (lv : Nat) (ls tp bs : Nat → Nat) (aL aT aE aB : Nat → Int32) : Prop :=
  lv ≤ 12 ∧ (∀ p, p < lv → aL p = nI (ls p) ∧ aT p = nI (tp p) ∧ aB p = nI (bs p) ∧ (aE p = 0 ∨ aE p = 1) ∧ 1 ≤ tp p ∧ ls p ≤ tp p ∧ bs p + tp p ≤ 224) ∧
  (∀ p q, p < q → q < lv → bs p + tp p ≤ bs q)
/-- leaf p can be left -/
def cr_C (hx : Nat → Int32) (ls tp bs : Nat → Nat) (p : Nat) : Prop := ∃ v, 1 ≤ v ∧ ls p ≤ v ∧ v ≤ tp p ∧ ¬ hx (bs p + v - 1) = 0
variable {xL xW xP xT xC xR xN xH : Int32} {aC aL aT aE aB aF iE iF iL hx : Nat → Int32} {lv : Nat} {ls tp bs : Nat → Nat} {post : Int32 → Prop}
theorem cx_con {s : Int32} {p : Nat} (hp : p < 32) (h1 : bt s p = true → post 1) (h0 : bt s p = false → post 0) : wpX_contains post () s (nI p) := by
  by_cases h : bt s p = true
  · exact br_t ((cr_bit1 hp).mpr h) (h1 h)
  · exact br_f (fun z => h ((cr_bit1 hp).mp z)) (h0 (cr_nt h))
theorem cr_cell {p a b : Nat} (hp : p < 12) (hB : aB p = nI b) (ha : 1 ≤ a) : ((aB (nI p).toNatClampNeg) + nI a) - 1 = nI (b + a - 1) := by
  rw [nI_clamp (by omega), hB, nI_add, cr_s1' (by omega)]
theorem cx_hwl {p b t : Nat} (hp : p < 12) (hB : aB p = nI b) (ht : b + t ≤ 224) : ∀ n a, t + 1 - a < n → 1 ≤ a → a ≤ 225 → ((∃ v, a ≤ v ∧ v ≤ t ∧ ¬ hx (b + v - 1) = 0) → post 1) →
    ((∀ v, a ≤ v → v ≤ t → hx (b + v - 1) = 0) → post 0) → wX_holdsWithin_3 post (nI p) (nI t) xL xW xP xT xC xR xN xH aC aL aT aE aB aF iE iF iL hx n (nI a) := by
  intro n
  induction n with
  | zero => intro a h; omega
  | succ n ih =>
    intro a hn ha ha2 h1 h0
    rcases Nat.lt_or_ge t a with h | h
    · exact br_t (nI_lt h (by omega)) (h0 (fun v hv hv2 => by omega))
    · have e := cr_cell (aB := aB) hp hB ha
      have hi : vp_in (nI p) 12 := vp_in_nI hp (by decide)
      by_cases z : hx (b + a - 1) = 0
      · refine br_f (nI_nlt h (by omega)) ⟨hi, (by rw [e]; exact vp_in_nI (by omega) (by decide)), br_t (by rw [e, nI_clamp (by omega)]; exact z) (nm_r (nI_1 a) (ih (a + 1) (by omega) (by omega) (by omega) (fun ⟨v, v1, v2, v3⟩ => h1 ⟨v, by omega, v2, v3⟩) (fun k => h0 (fun v v1 v2 => ?_))))⟩
        by_cases ev : v = a
        · subst ev; exact z
        · exact k v (by omega) v2
      · exact br_f (nI_nlt h (by omega)) ⟨hi, (by rw [e]; exact vp_in_nI (by omega) (by decide)), br_f (by rw [e, nI_clamp (by omega)]; exact z) (h1 ⟨a, Nat.le_refl a, h, z⟩)⟩
theorem cx_hw {p b t a : Nat} (hp : p < 12) (hB : aB p = nI b) (ht : b + t ≤ 224) (ha : 1 ≤ a) (ha2 : a ≤ 225) (h1 : (∃ v, a ≤ v ∧ v ≤ t ∧ ¬ hx (b + v - 1) = 0) → post 1)
    (h0 : (∀ v, a ≤ v → v ≤ t → hx (b + v - 1) = 0) → post 0) : wpX_holdsWithin post (xL, xW, xP, xT, xC, xR, xN, xH, aC, aL, aT, aE, aB, aF, iE, iF, iL, hx) (nI p) (nI a) (nI t) :=
  ⟨t + 2, cx_hwl hp hB ht (t + 2) a (by omega) ha ha2 h1 h0⟩
theorem cx_cl {p : Nat} (G : cr_lf lv ls tp bs aL aT aE aB) (hp : p < lv) (h1 : cr_C hx ls tp bs p → post 1) (h0 : ¬ cr_C hx ls tp bs p → post 0) : wpX_canLeave post (xL, xW, xP, xT, xC, xR, xN, xH, aC, aL, aT, aE, aB, aF, iE, iF, iL, hx) (nI p) := by
  obtain ⟨g1, g2, g3⟩ := G
  obtain ⟨eL, eT, eB, eE, t1, t2, t3⟩ := g2 p hp
  have hi : vp_in (nI p) 12 := vp_in_nI (by omega) (by decide)
  have cp : (nI p).toNatClampNeg = p := nI_clamp (by omega)
  have main : ∀ a, 1 ≤ a → a ≤ 225 → (∀ v, a ≤ v ↔ 1 ≤ v ∧ ls p ≤ v) → wX_canLeave_20 post (nI p) (nI a) xL xW xP xT xC xR xN xH aC aL aT aE aB aF iE iF iL hx := by
    intro a ha ha2 hv
    refine ⟨hi, ?_⟩
    rw [cp, eT]
    refine cx_hw (by omega) eB t3 ha ha2 (fun ⟨v, v1, v2, v3⟩ => ⟨rfl, h1 ⟨v, ((hv v).mp v1).1, ((hv v).mp v1).2, v2, v3⟩⟩) (fun k => ⟨rfl, h0 (fun ⟨v, v1, v2, v3, v4⟩ => v4 (k v ((hv v).mpr ⟨v1, v2⟩) v3))⟩)
  refine ⟨hi, ?_⟩
  by_cases z : ls p ≤ 1
  · refine br_t (by rw [cp, eL]; exact nI_le (b := 1) z (by decide)) (main 1 (by omega) (by omega) (fun v => by omega))
  · refine br_f (by rw [cp, eL]; exact nI_ge (a := 1) (by omega) (by omega)) ⟨hi, ?_⟩
    rw [cp, eL]
    exact main (ls p) (by omega) (by omega) (fun v => by omega)
/-- the leaves that can be entered, as X reckons them -/
def cr_xe (s0 : Int32) (lv : Nat) (C : Nat → Prop) (aF : Nat → Int32) (p : Nat) : Prop := bt s0 p = true ∨ ∃ q, q < lv ∧ C q ∧ bt (aF q) p = true
theorem cx_enl {s0 : Int32} (G : cr_lf lv ls tp bs aL aT aE aB) (hp : ∀ x, (∀ p, p < 32 → (bt x p = true ↔ cr_xe s0 lv (cr_C hx ls tp bs) aF p)) → post x) :
    ∀ n i x, lv - i < n → i ≤ lv → (∀ p, p < 32 → (bt x p = true ↔ cr_xe s0 i (cr_C hx ls tp bs) aF p)) → wX_enterableLeaves_20 post xL xW xP xT (nI lv) xR xN xH aC aL aT aE aB aF iE iF iL hx n x (nI i) := by
  have g1 := G.1
  intro n
  induction n with
  | zero => intro i x h; omega
  | succ n ih =>
    intro i x hn hi hx'
    rcases Nat.lt_or_ge i lv with h | h
    · refine br_f (nI_ge h (by omega)) (cx_cl G h (fun z => br_f cr_10 ⟨vp_in_nI (by omega) (by decide), nm_r (by rw [nI_clamp (by omega)]) (nm_r (nI_1 i) (ih (i + 1) _ (by omega) (by omega) (fun p hp => ?_)))⟩) (fun z => br_t rfl (nm_r (nI_1 i) (ih (i + 1) _ (by omega) (by omega) (fun p hp => ?_)))))
      · rw [b_or, Bool.or_eq_true, hx' p hp]
        constructor
        · rintro ((w | ⟨q, q1, q2, q3⟩) | w)
          · exact Or.inl w
          · exact Or.inr ⟨q, by omega, q2, q3⟩
          · exact Or.inr ⟨i, by omega, z, w⟩
        · rintro (w | ⟨q, q1, q2, q3⟩)
          · exact Or.inl (Or.inl w)
          · by_cases e : q = i
            · subst e; exact Or.inr q3
            · exact Or.inl (Or.inr ⟨q, by omega, q2, q3⟩)
      · rw [hx' p hp]
        constructor
        · rintro (w | ⟨q, q1, q2, q3⟩)
          · exact Or.inl w
          · exact Or.inr ⟨q, by omega, q2, q3⟩
        · rintro (w | ⟨q, q1, q2, q3⟩)
          · exact Or.inl w
          · by_cases e : q = i
            · subst e; exact absurd q2 z
            · exact Or.inr ⟨q, by omega, q2, q3⟩
    · have e : i = lv := by omega
      subst e
      exact br_t (nI_le (Nat.le_refl i) (by omega)) (hp x hx')
theorem cx_st (h1 : xP = 2 ∨ xN = 0 → post 1) (h0 : ¬ (xP = 2 ∨ xN = 0) → post 0) : wpX_canStartHere post (xL, xW, xP, xT, xC, xR, xN, xH, aC, aL, aT, aE, aB, aF, iE, iF, iL, hx) := by
  by_cases a : xP = 2
  · exact br_t a (h1 (Or.inl a))
  · by_cases b : xN = 0
    · exact br_f a (br_t b (h1 (Or.inr b)))
    · exact br_f a (br_f b (h0 (fun z => z.elim a b)))
theorem cx_en (G : cr_lf lv ls tp bs aL aT aE aB) (hp : ∀ x, (∀ p, p < 32 → (bt x p = true ↔ ((xP = 2 ∨ xN = 0) ∧ bt (iF 0) p = true) ∨ ∃ q, q < lv ∧ cr_C hx ls tp bs q ∧ bt (aF q) p = true)) → post x) :
    wpX_enterableLeaves post (xL, xW, xP, xT, nI lv, xR, xN, xH, aC, aL, aT, aE, aB, aF, iE, iF, iL, hx) := by
  unfold wpX_enterableLeaves
  refine cx_st (fun z => ?_) (fun z => ?_)
  · refine br_f cr_10 (nm_e ⟨lv + 1, ?_⟩)
    refine cx_enl (s0 := iF 0) G (fun x h => hp x (fun p h32 => (h p h32).trans ⟨fun w => w.elim (fun w => Or.inl ⟨z, w⟩) Or.inr, fun w => w.elim (fun w => Or.inl w.2) Or.inr⟩)) (lv + 1) 0 (iF 0) (by omega) (by omega) (fun p h32 => ⟨Or.inl, fun w => w.elim id (fun ⟨q, q1, _⟩ => by omega)⟩)
  · refine br_t rfl ⟨lv + 1, ?_⟩
    refine cx_enl (s0 := 0) G (fun x h => hp x (fun p h32 => (h p h32).trans ⟨fun w => w.elim (fun w => absurd w (by rw [b_0]; decide)) Or.inr, fun w => w.elim (fun w => absurd w.1 z) Or.inr⟩)) (lv + 1) 0 0 (by omega) (by omega) (fun p h32 => ⟨Or.inl, fun w => w.elim id (fun ⟨q, q1, _⟩ => by omega)⟩)
theorem cx_acl (G : cr_lf lv ls tp bs aL aT aE aB) (h1 : (∃ q, q < lv ∧ bt (iL 0) q = true ∧ cr_C hx ls tp bs q) → post 1) (h0 : ¬ (∃ q, q < lv ∧ bt (iL 0) q = true ∧ cr_C hx ls tp bs q) → post 0) :
    ∀ n i, lv - i < n → i ≤ lv → (∀ q, q < i → ¬ (bt (iL 0) q = true ∧ cr_C hx ls tp bs q)) → wX_inputAccepted_20 post xL xW xP xT (nI lv) xR xN xH aC aL aT aE aB aF iE iF iL hx n (nI i) := by
  have g1 := G.1
  intro n
  induction n with
  | zero => intro i h; omega
  | succ n ih =>
    intro i hn hi hq
    rcases Nat.lt_or_ge i lv with h | h
    · have next : ¬ (bt (iL 0) i = true ∧ cr_C hx ls tp bs i) → wX_inputAccepted_20 post xL xW xP xT (nI lv) xR xN xH aC aL aT aE aB aF iE iF iL hx n (nI (i + 1)) := by
        intro z
        refine ih (i + 1) (by omega) (by omega) (fun q q1 => ?_)
        by_cases e : q = i
        · subst e; exact z
        · exact hq q (by omega)
      exact br_f (nI_ge h (by omega)) (cx_con (by omega) (fun z => br_f cr_10 (cx_cl G h (fun w => br_f cr_10 (h1 ⟨i, h, z, w⟩)) (fun w => br_t rfl (nm_r (nI_1 i) (next (fun k => w k.2)))))) (fun z => br_t rfl (nm_r (nI_1 i) (next (fun k => by rw [z] at k; exact absurd k.1 (by decide))))))
    · have e : i = lv := by omega
      subst e
      exact br_t (nI_le (Nat.le_refl i) (by omega)) (h0 (fun ⟨q, q1, q2⟩ => hq q q1 q2))
/-- the input is accepted, as X reckons it -/
def cr_xa (xP xN : Int32) (lv : Nat) (C : Nat → Prop) (iE iL : Nat → Int32) : Prop := ((xP = 2 ∨ xN = 0) ∧ ¬ iE 0 = 0) ∨ ∃ q, q < lv ∧ bt (iL 0) q = true ∧ C q
theorem cx_acc (G : cr_lf lv ls tp bs aL aT aE aB) (h1 : cr_xa xP xN lv (cr_C hx ls tp bs) iE iL → post 1) (h0 : ¬ cr_xa xP xN lv (cr_C hx ls tp bs) iE iL → post 0) : wpX_inputAccepted post (xL, xW, xP, xT, nI lv, xR, xN, xH, aC, aL, aT, aE, aB, aF, iE, iF, iL, hx) := by
  have loop : ¬ ((xP = 2 ∨ xN = 0) ∧ ¬ iE 0 = 0) → ∃ n20 : Nat, wX_inputAccepted_20 post xL xW xP xT (nI lv) xR xN xH aC aL aT aE aB aF iE iF iL hx n20 0 := fun z =>
    ⟨lv + 1, cx_acl G (fun w => h1 (Or.inr w)) (fun w => h0 (fun k => k.elim z w)) (lv + 1) 0 (by omega) (by omega) (fun q q1 => by omega)⟩
  by_cases e : iE 0 = 0
  · exact br_t e (loop (fun z => z.2 e))
  · exact br_f e (cx_st (fun z => br_f cr_10 (h1 (Or.inl ⟨z, e⟩))) (fun z => br_t rfl (loop (fun k => z k.1))))
end CRX
