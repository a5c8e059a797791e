section CRS
/-! X's step: a leaf moves on, a leaf is dropped, a letter is appended -/
variable {xL xW xP xT xC xR xN xH : Int32} {aC aL aT aE aB aF iE iF iL hx : Nat → Int32} {lv : Nat} {ls tp bs : Nat → Nat} {post : St2 → Prop}
theorem cx_drl : ∀ n i g, 224 - i < n → i ≤ 224 → cr_01 g → (∀ j, j < i → g j = 0) → (∀ g', cr_01 g' → (∀ j, j < 224 → g' j = 0) → post (xL, xW, xP, xT, xC, xR, xN, xH, aC, aL, aT, aE, aB, aF, iE, iF, iL, g')) →
    wX_dropInput_12 post xL xW xP xT xC xR xN xH n (nI i) aC aL aT aE aB aF iE iF iL g := by
  intro n
  induction n with
  | zero => intro i g h; omega
  | succ n ih =>
    intro i g hn hi h01 h0 hp
    rcases Nat.lt_or_ge i 224 with h | h
    · refine br_f (nI_ge (b := 224) h (by decide)) ⟨vp_in_nI h (by decide), nm_r (cr_ub0 (by omega)) (nm_r (nI_1 i) (ih (i + 1) _ (by omega) (by omega) (cr_01u h01 (Or.inl rfl)) (fun j hj => ?_) hp))⟩
      by_cases e : j = i
      · subst e; exact pk_us
      · rw [pk_un e]; exact h0 j (by omega)
    · exact br_t (nI_le (a := 224) h (by omega)) (hp g h01 (fun j hj => h0 j (by omega)))
theorem cx_dr (h01 : cr_01 hx) (hp : ∀ g', cr_01 g' → (∀ j, j < 224 → g' j = 0) → post (xL, xW, xP, xT, xC, xR, 0, -1, aC, aL, aT, aE, aB, aF, iE, iF, iL, g')) : wpX_dropInput post (xL, xW, xP, xT, xC, xR, xN, xH, aC, aL, aT, aE, aB, aF, iE, iF, iL, hx) :=
  ⟨225, cx_drl (xN := 0) (xH := -1) 225 0 hx (by omega) (by omega) h01 (fun j hj => by omega) hp⟩
/-- what a leaf's cells become -/
def cr_mv (hx g : Nat → Int32) (b t : Nat) (e : Prop) (s : Prop) : Prop :=
  (∀ j, j < b ∨ b + t ≤ j → g j = hx j) ∧ (∀ v, 1 ≤ v → v ≤ t → (¬ g (b + v - 1) = 0 ↔ (v = 1 ∧ e) ∨ (1 < v ∧ ¬ hx (b + v - 2) = 0) ∨ (s ∧ v = t ∧ ¬ hx (b + v - 1) = 0)))
theorem cx_mvl {b t : Nat} {e s : Int32} (t1 : 1 ≤ t) (t2 : b + t ≤ 224) (he : e = 0 ∨ e = 1) {S : Prop} (hs : ¬ s = 0 ↔ S ∧ ¬ hx (b + t - 1) = 0) : ∀ n c g, c - b < n → b ≤ c → c ≤ b + t - 1 → cr_01 g → (∀ j, j ≤ c → g j = hx j) → (∀ j, c < j → j ≤ b + t - 1 → g j = hx (j - 1)) → (∀ j, b + t ≤ j → g j = hx j) →
    (∀ g', cr_01 g' → cr_mv hx g' b t (¬ e = 0) S → post (xL, xW, xP, xT, xC, xR, xN, xH, aC, aL, aT, aE, aB, aF, iE, iF, iL, g')) → wX_moveOn_49 post e (nI b) (nI (b + t - 1)) s xL xW xP xT xC xR xN xH n (nI c) aC aL aT aE aB aF iE iF iL g := by
  intro n
  induction n with
  | zero => intro c g h; omega
  | succ n ih =>
    intro c g hn hc1 hc2 h01 g1 g2 g3 hp
    rcases Nat.lt_or_ge b c with h | h
    · have em : nI c - 1 = nI (c - 1) := cr_s1' (by omega)
      have em2 : nI c + (-1) = nI (c - 1) := by
        obtain ⟨m, rfl⟩ : ∃ m, c = m + 1 := ⟨c - 1, by omega⟩
        exact pk_m1 m
      refine br_f (nI_ge h (by omega)) ⟨(by rw [em]; exact vp_in_nI (by omega) (by decide)), vp_in_nI (by omega) (by decide), nm_r (e' := upd g c (g (c - 1))) ?_ (nm_r em2 (ih (c - 1) _ (by omega) (by omega) (by omega) (cr_01u h01 (h01 _)) (fun j hj => ?_) (fun j hj hj2 => ?_) (fun j hj => ?_) hp))⟩
      · rw [em, nI_clamp (by omega), nI_clamp (by omega), cr_nb (h01 _)]
      · rw [pk_un (by omega)]; exact g1 j (by omega)
      · by_cases ej : j = c
        · subst ej; rw [pk_us]; exact g1 _ (by omega)
        · rw [pk_un ej]; exact g2 j (by omega) hj2
      · rw [pk_un (by omega)]; exact g3 j hj
    · have ec : c = b := by omega
      subst ec
      refine br_t (nI_le (Nat.le_refl c) (by omega)) ⟨vp_in_nI (by omega) (by decide), nm_r (cr_ub (by omega) he) ?_⟩
      have h01' : cr_01 (upd g c e) := cr_01u h01 he
      by_cases z : s = 0
      · refine br_t z (hp _ h01' ⟨fun j hj => ?_, fun v v1 v2 => ?_⟩)
        · rw [pk_un (by omega)]
          rcases hj with hj | hj
          · exact g1 j (by omega)
          · exact g3 j hj
        · have ns : ¬ (S ∧ ¬ hx (c + t - 1) = 0) := fun k => hs.mpr k z
          by_cases ev : v = 1
          · subst ev
            have ej : c + 1 - 1 = c := by omega
            rw [ej, pk_us]
            constructor
            · intro k; exact Or.inl ⟨rfl, k⟩
            · rintro (k | k | ⟨k1, k2, k3⟩)
              · exact k.2
              · omega
              · rw [← k2] at ns; rw [ej] at ns; exact absurd ⟨k1, k3⟩ ns
          · rw [pk_un (by omega), g2 (c + v - 1) (by omega) (by omega), show c + v - 1 - 1 = c + v - 2 by omega]
            constructor
            · intro k; exact Or.inr (Or.inl ⟨by omega, k⟩)
            · rintro (k | k | ⟨k1, k2, k3⟩)
              · omega
              · exact k.2
              · rw [← k2] at ns; exact absurd ⟨k1, k3⟩ ns
      · obtain ⟨z1, z2⟩ := hs.mp z
        refine br_f z ⟨vp_in_nI (by omega) (by decide), nm_r (cr_ub1 (by omega)) (hp _ (cr_01u h01' (Or.inr rfl)) ⟨fun j hj => ?_, fun v v1 v2 => ?_⟩)⟩
        · rw [pk_un (by omega), pk_un (by omega)]
          rcases hj with hj | hj
          · exact g1 j (by omega)
          · exact g3 j hj
        · by_cases et : v = t
          · subst et
            rw [pk_us]
            exact ⟨fun _ => Or.inr (Or.inr ⟨z1, rfl, z2⟩), fun _ => cr_10⟩
          · rw [pk_un (by omega)]
            by_cases ev : v = 1
            · subst ev
              have ej : c + 1 - 1 = c := by omega
              rw [ej, pk_us]
              constructor
              · intro k; exact Or.inl ⟨rfl, k⟩
              · rintro (k | k | ⟨k1, k2, k3⟩)
                · exact k.2
                · omega
                · exact absurd k2 et
            · rw [pk_un (by omega), g2 (c + v - 1) (by omega) (by omega), show c + v - 1 - 1 = c + v - 2 by omega]
              constructor
              · intro k; exact Or.inr (Or.inl ⟨by omega, k⟩)
              · rintro (k | k | ⟨k1, k2, k3⟩)
                · omega
                · exact k.2
                · exact absurd k2 et
theorem cx_mv {p : Nat} {e : Int32} (G : cr_lf lv ls tp bs aL aT aE aB) (hp : p < lv) (h01 : cr_01 hx) (he : e = 0 ∨ e = 1)
    (H : ∀ g', cr_01 g' → cr_mv hx g' (bs p) (tp p) (¬ e = 0) (¬ aE p = 0) → post (xL, xW, xP, xT, xC, xR, xN, xH, aC, aL, aT, aE, aB, aF, iE, iF, iL, g')) : wpX_moveOn post (xL, xW, xP, xT, xC, xR, xN, xH, aC, aL, aT, aE, aB, aF, iE, iF, iL, hx) (nI p) e := by
  obtain ⟨g1, g2, g3⟩ := G
  obtain ⟨eL, eT, eB, eE, t1, t2, t3⟩ := g2 p hp
  have hi : vp_in (nI p) 12 := vp_in_nI (by omega) (by decide)
  have cp : (nI p).toNatClampNeg = p := nI_clamp (by omega)
  have loop : ∀ s : Int32, (¬ s = 0 ↔ ¬ aE p = 0 ∧ ¬ hx (bs p + tp p - 1) = 0) → ∃ n49 : Nat, wX_moveOn_49 post e (nI (bs p)) (nI (bs p + tp p - 1)) s xL xW xP xT xC xR xN xH n49 (nI (bs p + tp p - 1)) aC aL aT aE aB aF iE iF iL hx := fun s hs =>
    ⟨tp p + 1, cx_mvl t1 t3 he hs (tp p + 1) (bs p + tp p - 1) hx (by omega) (by omega) (by omega) h01 (fun j _ => rfl) (fun j a b => by omega) (fun j _ => rfl) H⟩
  refine ⟨hi, nm_r (e' := nI (bs p)) (by rw [cp, eB]) ⟨hi, nm_r (e' := nI (bs p + tp p - 1)) (by rw [cp, eT, nI_add, cr_s1' (by omega)]) ⟨hi, ?_⟩⟩⟩
  by_cases z : aE p = 0
  · exact br_t (by rw [cp]; exact z) (loop 0 ⟨fun k => absurd rfl k, fun k => absurd z k.1⟩)
  · refine br_f (by rw [cp]; exact z) ⟨vp_in_nI (by omega) (by decide), ?_⟩
    by_cases w : hx (bs p + tp p - 1) = 0
    · exact br_t (by rw [nI_clamp (by omega)]; exact w) (loop 0 ⟨fun k => absurd rfl k, fun k => absurd w k.2⟩)
    · exact br_f (by rw [nI_clamp (by omega)]; exact w) (loop 1 ⟨fun _ => ⟨z, w⟩, fun _ => cr_10⟩)
theorem cx_dpl {p : Nat} (G : cr_lf lv ls tp bs aL aT aE aB) (hp : p < lv) : ∀ n a g, tp p + 1 - a < n → 1 ≤ a → a ≤ tp p + 1 → cr_01 g → (∀ j, j < bs p ∨ bs p + tp p ≤ j → g j = hx j) → (∀ v, 1 ≤ v → v < a → g (bs p + v - 1) = 0) →
    (∀ g', cr_01 g' → (∀ j, j < bs p ∨ bs p + tp p ≤ j → g' j = hx j) → (∀ v, 1 ≤ v → v ≤ tp p → g' (bs p + v - 1) = 0) → post (xL, xW, xP, xT, xC, xR, xN, xH, aC, aL, aT, aE, aB, aF, iE, iF, iL, g')) → wX_dropPairs_2 post (nI p) xL xW xP xT xC xR xN xH n (nI a) aC aL aT aE aB aF iE iF iL g := by
  obtain ⟨g1, g2, g3⟩ := G
  obtain ⟨eL, eT, eB, eE, t1, t2, t3⟩ := g2 p hp
  have hi : vp_in (nI p) 12 := vp_in_nI (by omega) (by decide)
  have cp : (nI p).toNatClampNeg = p := nI_clamp (by omega)
  intro n
  induction n with
  | zero => intro a g h; omega
  | succ n ih =>
    intro a g hn ha1 ha2 h01 o1 o2 H
    rcases Nat.lt_or_ge (tp p) a with h | h
    · exact ⟨hi, br_t (by rw [cp, eT]; exact nI_lt h (by omega)) (H g h01 o1 (fun v v1 v2 => o2 v v1 (by omega)))⟩
    · have e := cr_cell (aB := aB) (show p < 12 by omega) eB ha1
      refine ⟨hi, br_f (by rw [cp, eT]; exact nI_nlt h (by omega)) ⟨hi, (by rw [e]; exact vp_in_nI (by omega) (by decide)), nm_r (e' := upd g (bs p + a - 1) 0) (by rw [e]; exact cr_ub0 (by omega)) (nm_r (nI_1 a) (ih (a + 1) _ (by omega) (by omega) (by omega) (cr_01u h01 (Or.inl rfl)) (fun j hj => ?_) (fun v v1 v2 => ?_) H))⟩⟩
      · rw [pk_un (by omega)]; exact o1 j hj
      · by_cases ev : v = a
        · subst ev; exact pk_us
        · rw [pk_un (by omega)]; exact o2 v v1 (by omega)
theorem cx_dp {p : Nat} (G : cr_lf lv ls tp bs aL aT aE aB) (hp : p < lv) (h01 : cr_01 hx)
    (H : ∀ g', cr_01 g' → (∀ j, j < bs p ∨ bs p + tp p ≤ j → g' j = hx j) → (∀ v, 1 ≤ v → v ≤ tp p → g' (bs p + v - 1) = 0) → post (xL, xW, xP, xT, xC, xR, xN, xH, aC, aL, aT, aE, aB, aF, iE, iF, iL, g')) : wpX_dropPairs post (xL, xW, xP, xT, xC, xR, xN, xH, aC, aL, aT, aE, aB, aF, iE, iF, iL, hx) (nI p) :=
  ⟨tp p + 1, cx_dpl G hp (tp p + 1) 1 hx (by omega) (by omega) (by omega) h01 (fun j _ => rfl) (fun v a b => by omega) H⟩
/-- (p,v) is held after one letter x more -/
def cr_W (aC aE hx : Nat → Int32) (tp bs : Nat → Nat) (en : Nat → Prop) (x p v : Nat) : Prop :=
  bt (aC p) x = true ∧ ((v = 1 ∧ en p) ∨ (1 < v ∧ ¬ hx (bs p + v - 2) = 0) ∨ (¬ aE p = 0 ∧ v = tp p ∧ ¬ hx (bs p + v - 1) = 0))
theorem cr_far (G : cr_lf lv ls tp bs aL aT aE aB) {p q v : Nat} (hp : p < lv) (hq : q < lv) (hn : q ≠ p) (v1 : 1 ≤ v) (v2 : v ≤ tp q) : bs q + v - 1 < bs p ∨ bs p + tp p ≤ bs q + v - 1 := by
  rcases Nat.lt_or_ge q p with h | h
  · have := G.2.2 q p h hp; omega
  · have := G.2.2 p q (by omega) hq; omega
theorem cx_apl {x : Nat} {en : Int32} (hx8 : x < 8) (G : cr_lf lv ls tp bs aL aT aE aB) : ∀ n i g, lv - i < n → i ≤ lv → cr_01 g →
    (∀ q, q < i → ∀ v, 1 ≤ v → v ≤ tp q → (¬ g (bs q + v - 1) = 0 ↔ cr_W aC aE hx tp bs (fun p => bt en p = true) x q v)) →
    (∀ q, i ≤ q → q < lv → ∀ v, 1 ≤ v → v ≤ tp q → g (bs q + v - 1) = hx (bs q + v - 1)) →
    (∀ g', cr_01 g' → (∀ q, q < lv → ∀ v, 1 ≤ v → v ≤ tp q → (¬ g' (bs q + v - 1) = 0 ↔ cr_W aC aE hx tp bs (fun p => bt en p = true) x q v)) → post (xL, xW, xP, xT, nI lv, xR, xN + 1, xH, aC, aL, aT, aE, aB, aF, iE, iF, iL, g')) →
    wX_append_7 post (nI x) en n (nI i) xL xW xP xT (nI lv) xR xN xH aC aL aT aE aB aF iE iF iL g := by
  have g1 := G.1
  intro n
  induction n with
  | zero => intro i g h; omega
  | succ n ih =>
    intro i g hn hi h01 o1 o2 H
    rcases Nat.lt_or_ge i lv with h | h
    · have cp : (nI i).toNatClampNeg = i := nI_clamp (by omega)
      refine br_f (nI_ge h (by omega)) ⟨vp_in_nI (by omega) (by decide), cx_con (by omega) (fun z => br_f cr_10 ?_) (fun z => br_t rfl ?_)⟩
      · rw [cp] at z
        have mv : ∀ e : Int32, (e = 0 ∨ e = 1) → (¬ e = 0 ↔ bt en i = true) → ∀ g', cr_01 g' → cr_mv g g' (bs i) (tp i) (¬ e = 0) (¬ aE i = 0) → wX_append_7 post (nI x) en n (nI (i + 1)) xL xW xP xT (nI lv) xR xN xH aC aL aT aE aB aF iE iF iL g' := by
          intro e he hee g' h01' M
          refine ih (i + 1) g' (by omega) (by omega) h01' (fun q hq v v1 v2 => ?_) (fun q hq1 hq2 v v1 v2 => ?_) H
          · by_cases eq : q = i
            · subst eq
              rw [M.2 v v1 v2, hee]
              constructor
              · rintro (k | ⟨k1, k2⟩ | ⟨k1, k2, k3⟩)
                · exact ⟨z, Or.inl k⟩
                · have ev : bs q + v - 2 = bs q + (v - 1) - 1 := by omega
                  rw [ev, o2 q (Nat.le_refl q) h (v - 1) (by omega) (by omega), ← ev] at k2
                  exact ⟨z, Or.inr (Or.inl ⟨k1, k2⟩)⟩
                · rw [o2 q (Nat.le_refl q) h v v1 v2] at k3
                  exact ⟨z, Or.inr (Or.inr ⟨k1, k2, k3⟩)⟩
              · rintro ⟨_, k | ⟨k1, k2⟩ | ⟨k1, k2, k3⟩⟩
                · exact Or.inl k
                · have ev : bs q + v - 2 = bs q + (v - 1) - 1 := by omega
                  refine Or.inr (Or.inl ⟨k1, ?_⟩)
                  rw [ev, o2 q (Nat.le_refl q) h (v - 1) (by omega) (by omega), ← ev]; exact k2
                · refine Or.inr (Or.inr ⟨k1, k2, ?_⟩)
                  rw [o2 q (Nat.le_refl q) h v v1 v2]; exact k3
            · rw [M.1 _ (cr_far G h (by omega) eq v1 v2)]
              exact o1 q (by omega) v v1 v2
          · rw [M.1 _ (cr_far G h hq2 (by omega) v1 v2)]
            exact o2 q (by omega) hq2 v v1 v2
        refine cx_con (by omega) (fun w => ?_) (fun w => ?_)
        · exact cx_mv G h h01 (Or.inr rfl) (fun g' a b => nm_r (nI_1 i) (mv 1 (Or.inr rfl) ⟨fun _ => w, fun _ => cr_10⟩ g' a b))
        · exact cx_mv G h h01 (Or.inl rfl) (fun g' a b => nm_r (nI_1 i) (mv 0 (Or.inl rfl) ⟨fun k => absurd rfl k, fun k => by rw [w] at k; exact absurd k (by decide)⟩ g' a b))
      · rw [cp] at z
        refine cx_dp G h h01 (fun g' h01' p1 p2 => nm_r (nI_1 i) (ih (i + 1) g' (by omega) (by omega) h01' (fun q hq v v1 v2 => ?_) (fun q hq1 hq2 v v1 v2 => ?_) H))
        · by_cases eq : q = i
          · subst eq
            rw [p2 v v1 v2]
            exact ⟨fun k => absurd rfl k, fun k => by rw [k.1] at z; exact absurd z (by decide)⟩
          · rw [p1 _ (cr_far G h (by omega) eq v1 v2)]
            exact o1 q (by omega) v v1 v2
        · rw [p1 _ (cr_far G h hq2 (by omega) v1 v2)]
          exact o2 q (by omega) hq2 v v1 v2
    · exact br_t (nI_le h (by omega)) (nm_e (H g h01 (fun q hq v v1 v2 => o1 q (by omega) v v1 v2)))
/-- the leaves that can be entered, at X's state -/
def cr_xn (xP xN : Int32) (lv : Nat) (C : Nat → Prop) (aF iF : Nat → Int32) (p : Nat) : Prop := ((xP = 2 ∨ xN = 0) ∧ bt (iF 0) p = true) ∨ ∃ q, q < lv ∧ C q ∧ bt (aF q) p = true
theorem cx_ap {x : Nat} (hx8 : x < 8) (G : cr_lf lv ls tp bs aL aT aE aB) (h01 : cr_01 hx)
    (H : ∀ g', cr_01 g' → (∀ q, q < lv → ∀ v, 1 ≤ v → v ≤ tp q → (¬ g' (bs q + v - 1) = 0 ↔ cr_W aC aE hx tp bs (cr_xn xP xN lv (cr_C hx ls tp bs) aF iF) x q v)) → post (xL, xW, xP, xT, nI lv, xR, xN + 1, xH, aC, aL, aT, aE, aB, aF, iE, iF, iL, g')) :
    wpX_append post (xL, xW, xP, xT, nI lv, xR, xN, xH, aC, aL, aT, aE, aB, aF, iE, iF, iL, hx) (nI x) := by
  have g1 := G.1
  refine cx_en G (fun en he => ⟨lv + 1, cx_apl (hx := hx) hx8 G (lv + 1) 0 hx (by omega) (by omega) h01 (fun q hq => by omega) (fun q _ _ v _ _ => rfl) (fun g' h01' k => H g' h01' (fun q hq v v1 v2 => (k q hq v v1 v2).trans ?_))⟩)
  have := he q (by omega)
  unfold cr_W
  dsimp only
  rw [this]
  exact Iff.rfl
end CRS
