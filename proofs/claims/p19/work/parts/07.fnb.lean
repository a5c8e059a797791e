section CLB
/-! the law's functions on sets of bits -/
variable {L b p k : Nat} {xs : Nat → Int32} {post : Int32 → Prop}
theorem cl_bn (w i : Nat) (hi : i < 32) : bt (nI w) i = w.testBit i := by
  show (BitVec.ofNat 32 w).getLsbD i = w.testBit i
  rw [BitVec.getLsbD_ofNat]
  simp [hi]
theorem cl_nor (a b : Nat) : nI a ||| nI b = nI (a ||| b) := by
  apply b_ext
  intro i hi
  rw [b_or, cl_bn a i hi, cl_bn b i hi, cl_bn _ i hi, Nat.testBit_or]
theorem cl_b15 : ∀ i, i < 32 → bt 15 i = decide (i < 4) := by decide +kernel
/-- bit p of x, as the law asks it -/
theorem cl_bit {s : Int32} {p : Nat} (hp : p < 32) : ((s >>> (nI p &&& 31)) &&& 1) = 0 ↔ bt s p = false := by
  have h1 : ∀ x : Int32, x &&& 1 = 0 ↔ ¬ x &&& 1 = 1 := by
    intro x
    constructor
    · intro z w; rw [z] at w; exact absurd w (by decide)
    · intro z
      apply b_ext
      intro i hi
      rw [b_and, b_0, cr_b1 i hi]
      by_cases e : i = 0
      · subst e
        cases hb : bt x 0
        · rfl
        · refine absurd ?_ z
          apply b_ext
          intro j hj
          rw [b_and, cr_b1 j hj]
          by_cases ej : j = 0
          · subst ej; rw [hb]; rfl
          · simp [ej]
      · simp [e]
  rw [h1, cr_bit1 hp]
  cases bt s p <;> simp
theorem cl_cb {s : Int32} {p : Nat} {A B : Prop} (hp : p < 32) (h0 : bt s p = false → A) (h1 : bt s p = true → B) : (((s >>> (nI p &&& 31)) &&& 1) = 0 → A) ∧ (¬ ((s >>> (nI p &&& 31)) &&& 1) = 0 → B) := by
  rw [cl_bit hp]
  exact ⟨h0, fun z => h1 (by cases h : bt s p; exact absurd h z; rfl)⟩
/-- the first leaves of an item -/
theorem cl_hi {w i : Nat} (hi : i < 32) : bt ((nI w >>> ((4 : Int32) &&& 31)) &&& 15) i = true ↔ i < 4 ∧ w.testBit (4 + i) = true := by
  have e : bt (nI w >>> ((4 : Int32) &&& 31)) i = if 4 + i < 32 then bt (nI w) (4 + i) else bt (nI w) 31 := b_sshr 4 (by decide) (nI w) hi
  rw [b_and, cl_b15 i hi, e, Bool.and_eq_true, decide_eq_true_iff]
  by_cases h : i < 4
  · rw [if_pos (by omega), cl_bn w _ (by omega)]
    exact ⟨fun z => ⟨z.2, z.1⟩, fun z => ⟨z.2, z.1⟩⟩
  · exact ⟨fun z => absurd z.2 h, fun z => absurd z.1 h⟩
theorem cl_lo {w i : Nat} (hi : i < 32) : bt (nI w &&& 15) i = true ↔ i < 4 ∧ w.testBit i = true := by
  rw [b_and, cl_b15 i hi, cl_bn w i hi, Bool.and_eq_true, decide_eq_true_iff]
  exact ⟨fun z => ⟨z.2, z.1⟩, fun z => ⟨z.2, z.1⟩⟩
theorem cl_gt {w : Nat} (hw : w < 512) : (255 : Int32) < nI w ↔ w.testBit 8 = true := by
  have e : (255 : Int32) < nI w ↔ 255 < w := nI_ltI (a := 255) (by decide) (by omega)
  rw [e, Nat.testBit_eq_decide_div_mod_eq, decide_eq_true_iff]
  omega
theorem cl_ge {w : Nat} (hw : w < 512) : nI w ≤ (255 : Int32) ↔ ¬ w.testBit 8 = true := by
  rw [← cl_gt hw, Int32.not_lt]
/-- some count of at least l -/
theorem cl_sh {c l : Nat} (hc : c < 2 ^ 63) (hl : l < 64) : ((lN c).toUInt64 >>> ((nI l).toInt64.toUInt64 &&& Int64.toUInt64 63)).toInt64 = 0 ↔ ¬ ∃ v, l ≤ v ∧ c.testBit v = true := by
  rw [wb_shr (by omega) hl]
  have e : lN (c / 2 ^ l) = 0 ↔ c / 2 ^ l = 0 := pk_lEQ (b := 0) (Nat.lt_of_le_of_lt (Nat.div_le_self _ _) hc) (by decide)
  rw [e]
  constructor
  · rintro z ⟨v, v1, v2⟩
    have : (c / 2 ^ l).testBit (v - l) = true := by
      rw [Nat.testBit_div_two_pow, show v - l + l = v by omega]; exact v2
    rw [z, Nat.zero_testBit] at this
    exact absurd this (by decide)
  · intro z
    by_cases h : c / 2 ^ l = 0
    · exact h
    · obtain ⟨i, hi⟩ := Nat.exists_testBit_of_ne_zero h
      rw [Nat.testBit_div_two_pow] at hi
      exact absurd ⟨i + l, by omega, hi⟩ z
theorem cl_exl {c : Nat → Nat} (hL : L ≤ 260) (hb : b < 1000) (hc : ∀ p, p < 4 → c p < 2 ^ 63) (H : ∀ r, (∀ i, i < 32 → (bt r i = true ↔ i < 4 ∧ ∃ v, cl_l L xs b i ≤ v ∧ (c i).testBit v = true)) → post r) :
    ∀ n p x, 4 - p < n → p ≤ 4 → (∀ i, i < 32 → (bt x i = true ↔ i < p ∧ ∃ v, cl_l L xs b i ≤ v ∧ (c i).testBit v = true)) →
    wL_exits_6 post L xs (nI b) (lN (c 0)) (lN (c 1)) (lN (c 2)) (lN (c 3)) n x (nI p) := by
  intro n
  induction n with
  | zero => intro p x h; omega
  | succ n ih =>
    intro p x hn hp hx
    rcases Nat.lt_or_ge p 4 with h | h
    · have hlb := cl_lb (L := L) (xs := xs) (b := b) (p := p)
      have hs := cl_sh (hc p h) (show cl_l L xs b p < 64 by omega)
      have n1 : 4 - (p + 1) < n := by clear hx hs; omega
      refine br_f (nI_ge (b := 4) h (by decide)) (cl_pick h (cl_least hL hb h ?_))
      by_cases z : ∃ v, cl_l L xs b p ≤ v ∧ (c p).testBit v = true
      · refine br_f (fun w => hs.mp w z) (nm_e (nm_r (nI_1 p) (ih (p + 1) _ n1 h (fun i hi => ?_))))
        rw [b_or, Bool.or_eq_true, cr_sl (by clear hx hs; omega) hi, decide_eq_true_iff, hx i hi]
        constructor
        · rintro (⟨w1, w2⟩ | w)
          · exact ⟨by clear hx hs w2; omega, w2⟩
          · subst w; exact ⟨by clear hx hs; omega, z⟩
        · rintro ⟨w1, w2⟩
          by_cases e : i = p
          · exact Or.inr e
          · exact Or.inl ⟨by clear hx hs w2; omega, w2⟩
      · refine br_t (hs.mpr z) (nm_r (nI_1 p) (ih (p + 1) _ n1 h (fun i hi => ?_)))
        rw [hx i hi]
        constructor
        · rintro ⟨w1, w2⟩
          exact ⟨by clear hx hs w2; omega, w2⟩
        · rintro ⟨w1, w2⟩
          by_cases e : i = p
          · subst e; exact absurd w2 z
          · exact ⟨by clear hx hs w2; omega, w2⟩
    · have e : p = 4 := by clear hx; omega
      subst e
      exact br_t (by decide) (H x hx)
theorem cl_ex {c : Nat → Nat} (hL : L ≤ 260) (hb : b < 1000) (hc : ∀ p, p < 4 → c p < 2 ^ 63) (H : ∀ r, (∀ i, i < 32 → (bt r i = true ↔ i < 4 ∧ ∃ v, cl_l L xs b i ≤ v ∧ (c i).testBit v = true)) → post r) :
    wpL_exits post L xs () (nI b) (lN (c 0)) (lN (c 1)) (lN (c 2)) (lN (c 3)) :=
  ⟨5, cl_exl hL hb hc H 5 0 0 (by omega) (by omega) (fun i hi => by rw [b_0]; exact ⟨fun z => absurd z (by decide), fun z => absurd z.1 (by omega)⟩)⟩
theorem cl_a15 {ex : Int32} {w : Nat} : ((ex &&& nI w) &&& 15) = 0 ↔ ¬ ∃ q, q < 4 ∧ bt ex q = true ∧ w.testBit q = true := by
  constructor
  · rintro z ⟨q, q1, q2, q3⟩
    have h : bt ((ex &&& nI w) &&& 15) q = false := by rw [z, b_0]
    rw [b_and, b_and, cl_bn w q (by omega), cl_b15 q (by omega), q2, q3, decide_eq_true q1] at h
    exact absurd h (by decide)
  · intro z
    apply b_ext
    intro i hi
    rw [b_and, b_and, cl_bn w i hi, cl_b15 i hi, b_0]
    by_cases h : i < 4
    · cases h1 : bt ex i
      · rfl
      · cases h2 : w.testBit i
        · rfl
        · exact absurd ⟨i, h, h1, h2⟩ z
    · simp [h]
theorem cl_acc {ex o : Int32} {w : Nat} (hw : w < 512) (h1 : (¬ o = 0 ∧ w.testBit 8 = true) ∨ (∃ q, q < 4 ∧ bt ex q = true ∧ w.testBit q = true) → post 1)
    (h0 : ¬ ((¬ o = 0 ∧ w.testBit 8 = true) ∨ ∃ q, q < 4 ∧ bt ex q = true ∧ w.testBit q = true) → post 0) : wpL_accepted post () (nI w) o ex := by
  have a11 : ¬ (¬ o = 0 ∧ w.testBit 8 = true) → wL_accepted_11 post (nI w) ex := by
    intro z
    by_cases y : ∃ q, q < 4 ∧ bt ex q = true ∧ w.testBit q = true
    · exact br_f (fun k => cl_a15.mp k y) (h1 (Or.inr y))
    · exact br_t (cl_a15.mpr y) (h0 (fun k => k.elim z y))
  by_cases e : o = 0
  · exact br_t e (a11 (fun z => z.1 e))
  · refine br_f e ?_
    by_cases t : w.testBit 8 = true
    · exact br_t ((cl_gt hw).mpr t) (h1 (Or.inl ⟨e, t⟩))
    · exact br_f (fun k => t ((cl_gt hw).mp k)) (a11 (fun z => t z.2))
theorem cl_4 (q : Nat) : (4 : Int32) * nI q = nI (4 * q) := pk_mul 4 q
theorem cl_fol {ex fol : Int32} (H : ∀ r, (∀ i, i < 32 → (bt r i = true ↔ i < 4 ∧ ∃ q, q < 4 ∧ bt ex q = true ∧ bt fol (4 * q + i) = true)) → post r) : wpL_follow post () ex fol := by
  have loop : ∀ n q x, 4 - q < n → q ≤ 4 → (∀ i, i < 32 → (bt x i = true ↔ i < 4 ∧ ∃ r, r < q ∧ bt ex r = true ∧ bt fol (4 * r + i) = true)) → wL_follow_4 post ex fol n x (nI q) := by
    intro n
    induction n with
    | zero => intro q x h; omega
    | succ n ih =>
      intro q x hn hq hx
      rcases Nat.lt_or_ge q 4 with h | h
      · have n1 : 4 - (q + 1) < n := by clear hx; omega
        refine br_f (nI_ge (b := 4) h (by decide)) (cl_cb (by clear hx; omega) (fun z => nm_r (nI_1 q) (ih (q + 1) _ n1 h (fun i hi => ?_))) (fun z => nm_e (nm_r (nI_1 q) (ih (q + 1) _ n1 h (fun i hi => ?_)))))
        · rw [hx i hi]
          constructor
          · rintro ⟨a, r, r1, r2⟩
            exact ⟨a, r, by clear hx r2; omega, r2⟩
          · rintro ⟨a, r, r1, r2, r3⟩
            refine ⟨a, r, ?_, r2, r3⟩
            by_cases e : r = q
            · subst e; rw [z] at r2; exact absurd r2 (by decide)
            · clear hx r2 r3; omega
        · rw [cl_4, b_or, Bool.or_eq_true, b_and, cl_b15 i hi, Bool.and_eq_true, decide_eq_true_iff, b_sshr (4 * q) (by clear hx; omega) fol hi, hx i hi]
          constructor
          · rintro (⟨a, r, r1, r2⟩ | ⟨a, a4⟩)
            · exact ⟨a, r, by clear hx r2; omega, r2⟩
            · rw [if_pos (by clear hx; omega)] at a
              exact ⟨a4, q, by clear hx; omega, z, a⟩
          · rintro ⟨a, r, r1, r2, r3⟩
            by_cases e : r = q
            · subst e
              refine Or.inr ⟨?_, a⟩
              rw [if_pos (by clear hx r2 r3; omega)]; exact r3
            · exact Or.inl ⟨a, r, by clear hx r2 r3; omega, r2, r3⟩
      · have e : q = 4 := by clear hx; omega
        subst e
        exact br_t (by decide) (H x hx)
  exact ⟨5, loop 5 0 0 (by omega) (by omega) (fun i hi => by rw [b_0]; exact ⟨fun z => absurd z (by decide), fun ⟨_, r, r1, _⟩ => absurd r1 (by omega)⟩)⟩
theorem cl_cro {la fi : Int32} (hf : ∀ i, 4 ≤ i → i < 32 → bt fi i = false) (H : ∀ r, (∀ q p, q < 4 → p < 4 → (bt r (4 * q + p) = true ↔ bt la q = true ∧ bt fi p = true)) → post r) : wpL_cross post () la fi := by
  have loop : ∀ n q x, 4 - q < n → q ≤ 4 → (∀ r p, r < 4 → p < 4 → (bt x (4 * r + p) = true ↔ r < q ∧ bt la r = true ∧ bt fi p = true)) → wL_cross_4 post la fi n x (nI q) := by
    intro n
    induction n with
    | zero => intro q x h; omega
    | succ n ih =>
      intro q x hn hq hx
      rcases Nat.lt_or_ge q 4 with h | h
      · have n1 : 4 - (q + 1) < n := by clear hx; omega
        refine br_f (nI_ge (b := 4) h (by decide)) (cl_cb (by clear hx; omega) (fun z => nm_r (nI_1 q) (ih (q + 1) _ n1 h (fun r p hr hp => ?_))) (fun z => nm_e (nm_r (nI_1 q) (ih (q + 1) _ n1 h (fun r p hr hp => ?_)))))
        · rw [hx r p hr hp]
          constructor
          · rintro ⟨a, b⟩
            exact ⟨by clear hx b; omega, b⟩
          · rintro ⟨a, b1, b2⟩
            refine ⟨?_, b1, b2⟩
            by_cases e : r = q
            · subst e; rw [z] at b1; exact absurd b1 (by decide)
            · clear hx b1 b2; omega
        · rw [cl_4, b_or, Bool.or_eq_true, b_shl (4 * q) (by clear hx; omega) fi (by clear hx; omega), Bool.and_eq_true, decide_eq_true_iff, hx r p hr hp]
          constructor
          · rintro (⟨a, b⟩ | ⟨a, b⟩)
            · exact ⟨by clear hx b; omega, b⟩
            · by_cases e : r = q
              · subst e
                rw [show 4 * r + p - 4 * r = p by clear hx b; omega] at b
                exact ⟨by clear hx b; omega, z, b⟩
              · rw [hf (4 * r + p - 4 * q) (by clear hx b; omega) (by clear hx b; omega)] at b
                exact absurd b (by decide)
          · rintro ⟨a, b1, b2⟩
            by_cases e : r = q
            · subst e
              refine Or.inr ⟨by clear hx b1 b2; omega, ?_⟩
              rw [show 4 * r + p - 4 * r = p by clear hx b1 b2; omega]; exact b2
            · exact Or.inl ⟨by clear hx b1 b2; omega, b1, b2⟩
      · have e : q = 4 := by clear hx; omega
        subst e
        exact br_t (by decide) (H x (fun r p hr hp => (hx r p hr hp).trans ⟨fun k => k.2, fun k => ⟨hr, k⟩⟩))
  exact ⟨5, loop 5 0 0 (by omega) (by omega) (fun r p hr hp => by rw [b_0]; exact ⟨fun z => absurd z (by decide), fun k => absurd k.1 (by omega)⟩)⟩
end CLB
