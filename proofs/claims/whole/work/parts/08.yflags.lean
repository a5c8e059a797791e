section CRF
/-! Y: one node on the way down, one on the way up -/
def cr_yt (lv h N : Nat) (K A B S ln ls : Nat → Nat) (lea lno sk ki lf rg : Nat → Int32) : Prop :=
  (∀ n, n < N → ki n = nI (K n) ∧ lf n = nI (A n) ∧ rg n = nI (B n)) ∧ (∀ i, i < h → sk i = nI (S i)) ∧ (∀ p, p < lv → lno p = nI (ln p) ∧ lea p = nI (ls p))
/-- leaf q can be left, at Y's state -/
def cr_cy (lv : Nat) (hy : Nat → Int32) (ls : Nat → Nat) (q : Nat) : Prop := q < lv ∧ ∃ v, 1 ≤ v ∧ v < 225 ∧ ls q ≤ v ∧ ¬ hy (q * 225 + v) = 0
def cr_G (st : Prop) (top N c0 : Nat) (K A B : Nat → Nat) (E : Nat → Prop) (F L : Nat → Nat → Prop) (C : Nat → Prop) (be dn : Nat → Int32) (yX : Int32) : Prop :=
  cr_inv st top N K A B E F L C be dn ∧ cr_01 be ∧ cr_01 dn ∧ c0 + (if yX = 0 then 0 else 1) ≤ cr_ct be N + cr_ct dn N
theorem cr_id {a : Nat → Int32} {c : Nat} (h : cr_01 a) (z : ¬ a c = 0) : upd a c 1 = a := by
  funext j
  by_cases e : j = c
  · subst e
    rw [pk_us]
    exact ((h j).elim (fun k => absurd k z) Eq.symm)
  · exact pk_un e
theorem cr_ix (p v : Nat) : nI p * 225 + nI v = nI (p * 225 + v) := (congrArg (· + nI v) (pk_mul p 225)).trans (nI_add _ _)
variable {yM yC yP yT yL yN yR yG yH yX : Int32} {ma lea mo lno sk ki lf rg hy nx be dn : Nat → Int32}
variable {st : Prop} {lv h N top c0 t n : Nat} {K A B S ln ls par : Nat → Nat} {E : Nat → Prop} {F L : Nat → Nat → Prop} {C : Nat → Prop} {post : SY → Prop}
theorem cy_ent {c : Nat} (hc : c < N) (hN : N ≤ 260) (Hg : cr_G st top N c0 K A B E F L C be dn yX) (Hi : cr_inv st top N K A B E F L C (upd be c 1) dn)
    (hp : ∀ be' yX', cr_G st top N c0 K A B E F L C be' dn yX' → ¬ be' c = 0 → (yX' = 0 → be' = be ∧ yX = 0) → (∀ j, ¬ be j = 0 → ¬ be' j = 0) → post (yM, yC, yP, yT, yL, yN, yR, yG, yH, yX', ma, lea, mo, lno, sk, ki, lf, rg, hy, nx, be', dn)) : wpY_enter post (yM, yC, yP, yT, yL, yN, yR, yG, yH, yX, ma, lea, mo, lno, sk, ki, lf, rg, hy, nx, be, dn) (nI c) := by
  obtain ⟨g1, g2, g3, g4⟩ := Hg
  have hi : vp_in (nI c) 260 := vp_in_nI (by omega) (by decide)
  have cp : (nI c).toNatClampNeg = c := nI_clamp (by omega)
  refine ⟨hi, ?_⟩
  by_cases z : be c = 0
  · refine br_t (by rw [cp]; exact z) ⟨hi, nm_r (cr_ub1 (by omega)) (hp (upd be c 1) 1 ⟨Hi, cr_01u g2 (Or.inr rfl), g3, ?_⟩ (by rw [pk_us]; exact cr_10) (fun k => absurd k cr_10) (fun j hj => cr_mono hj))⟩
    rw [if_neg cr_10, cr_ct_up z N hc]
    have := Nat.le_trans (Nat.le_add_right _ _) g4
    omega
  · exact br_f (by rw [cp]; exact z) ⟨hi, nm_r (e' := be) ((cr_ub1 (by omega)).trans (cr_id g2 z)) (hp be yX ⟨g1, g2, g3, g4⟩ z (fun k => ⟨rfl, k⟩) (fun _ k => k))⟩
theorem cy_d89 (T : cr_tr lv h N K A B S ln ls par E F L) (Q : cr_yt lv h N K A B S ln ls lea lno sk ki lf rg) (hN : N ≤ 260) (ht : par top = 1000 + t) (hn : n < N) (Hg : cr_G st top N c0 K A B E F L C be dn yX)
    (hp : ∀ be' yX', cr_G st top N c0 K A B E F L C be' dn yX' → (yX' = 0 → be' = be ∧ yX = 0 ∧ (K n = 1 → ¬ dn (A n) = 0 → ¬ be (B n) = 0)) → post (yM, yC, yP, yT, yL, yN, yR, yG, yH, yX', ma, lea, mo, lno, sk, ki, lf, rg, hy, nx, be', dn)) : wY_down_89 post (nI n) (nI (K n)) yM yC yP yT yL yN yR yG yH yX ma lea mo lno sk ki lf rg hy nx be dn := by
  have nd := T.1 n hn
  have k5 := cr_k5 nd
  obtain ⟨eK, eA, eB⟩ := Q.1 n hn
  have hi : vp_in (nI n) 260 := vp_in_nI (by omega) (by decide)
  have cp : (nI n).toNatClampNeg = n := nI_clamp (by omega)
  refine pk_eq (K n) 1 (fun k1 => ?_) (fun k1 => hp be yX Hg (fun z => ⟨rfl, z, fun k => absurd k k1⟩))
  have hA := (cr_ndA nd (by omega)).1
  have hB := (cr_ndB nd (Or.inl k1)).1
  have cA : (nI (A n)).toNatClampNeg = A n := nI_clamp (by omega)
  refine ⟨hi, (by rw [cp, eA]; exact vp_in_nI (by omega) (by decide)), ?_⟩
  by_cases z : dn (A n) = 0
  · exact br_t (by rw [cp, eA, cA]; exact z) (hp be yX Hg (fun w => ⟨rfl, w, fun _ k => absurd z k⟩))
  · refine br_f (by rw [cp, eA, cA]; exact z) ⟨hi, ?_⟩
    rw [cp, eB]
    exact cy_ent (by omega) hN Hg (cr_entB1 T (by omega) ht hn k1 Hg.1 z) (fun be' yX' G' b1 b2 _ => hp be' yX' G' (fun w => ⟨(b2 w).1, (b2 w).2, fun _ _ => by rw [← (b2 w).1]; exact b1⟩))
theorem cy_d65 (T : cr_tr lv h N K A B S ln ls par E F L) (Q : cr_yt lv h N K A B S ln ls lea lno sk ki lf rg) (hN : N ≤ 260) (ht : par top = 1000 + t) (hn : n < N) (Hg : cr_G st top N c0 K A B E F L C be dn yX)
    (hp : ∀ be' yX', cr_G st top N c0 K A B E F L C be' dn yX' → (yX' = 0 → be' = be ∧ yX = 0 ∧ (K n = 1 → ¬ dn (A n) = 0 → ¬ be (B n) = 0) ∧ (K n = 2 → ¬ be n = 0 → ¬ be (B n) = 0)) → post (yM, yC, yP, yT, yL, yN, yR, yG, yH, yX', ma, lea, mo, lno, sk, ki, lf, rg, hy, nx, be', dn)) : wY_down_65 post (nI n) (nI (K n)) yM yC yP yT yL yN yR yG yH yX ma lea mo lno sk ki lf rg hy nx be dn := by
  have nd := T.1 n hn
  have k5 := cr_k5 nd
  obtain ⟨eK, eA, eB⟩ := Q.1 n hn
  have hi : vp_in (nI n) 260 := vp_in_nI (by omega) (by decide)
  have cp : (nI n).toNatClampNeg = n := nI_clamp (by omega)
  refine pk_eq (K n) 2 (fun k2 => ⟨hi, ?_⟩) (fun k2 => cy_d89 T Q hN ht hn Hg (fun be' yX' G' k => hp be' yX' G' (fun w => ⟨(k w).1, (k w).2.1, (k w).2.2, fun z => absurd z k2⟩)))
  have hB := (cr_ndB nd (Or.inr k2)).1
  by_cases z : be n = 0
  · exact br_t (by rw [cp]; exact z) (cy_d89 T Q hN ht hn Hg (fun be' yX' G' k => hp be' yX' G' (fun w => ⟨(k w).1, (k w).2.1, (k w).2.2, fun _ y => absurd z y⟩)))
  · refine br_f (by rw [cp]; exact z) ⟨hi, ?_⟩
    rw [cp, eB]
    refine cy_ent (by omega) hN Hg (cr_entB2 T (by omega) ht hn k2 Hg.1 z) (fun be' yX' G' b1 b2 _ => cy_d89 T Q hN ht hn G' (fun be'' yX'' G'' k => hp be'' yX'' G'' (fun w => ?_)))
    obtain ⟨k1, k2', k3⟩ := k w
    obtain ⟨m1, m2⟩ := b2 k2'
    subst m1
    exact ⟨k1, m2, k3, fun _ _ => b1⟩
theorem cy_d55 (T : cr_tr lv h N K A B S ln ls par E F L) (Q : cr_yt lv h N K A B S ln ls lea lno sk ki lf rg) (hN : N ≤ 260) (ht : par top = 1000 + t) (hn : n < N) (Hg : cr_G st top N c0 K A B E F L C be dn yX)
    (hk : K n ≠ 0) (hj : ¬ be n = 0 ∨ ((K n = 3 ∨ K n = 4) ∧ ¬ dn (A n) = 0))
    (hp : ∀ be' yX', cr_G st top N c0 K A B E F L C be' dn yX' → (yX' = 0 → be' = be ∧ yX = 0 ∧ cr_dc K A B be dn n) → post (yM, yC, yP, yT, yL, yN, yR, yG, yH, yX', ma, lea, mo, lno, sk, ki, lf, rg, hy, nx, be', dn)) : wY_down_55 post (nI n) (nI (K n)) yM yC yP yT yL yN yR yG yH yX ma lea mo lno sk ki lf rg hy nx be dn := by
  have nd := T.1 n hn
  obtain ⟨eK, eA, eB⟩ := Q.1 n hn
  have hi : vp_in (nI n) 260 := vp_in_nI (by omega) (by decide)
  have cp : (nI n).toNatClampNeg = n := nI_clamp (by omega)
  have hA := (cr_ndA nd hk).1
  refine ⟨hi, ?_⟩
  rw [cp, eA]
  refine cy_ent (by omega) hN Hg (cr_entA T (by omega) ht hn hk Hg.1 hj) (fun be' yX' G' b1 b2 _ => cy_d65 T Q hN ht hn G' (fun be'' yX'' G'' k => hp be'' yX'' G'' (fun w => ?_)))
  obtain ⟨k1, k2', k3, k4⟩ := k w
  obtain ⟨m1, m2⟩ := b2 k2'
  subst m1
  exact ⟨k1, m2, fun _ _ => b1, fun _ _ => b1, k4, k3⟩
theorem cy_d41 {z : Int32} (T : cr_tr lv h N K A B S ln ls par E F L) (Q : cr_yt lv h N K A B S ln ls lea lno sk ki lf rg) (hN : N ≤ 260) (ht : par top = 1000 + t) (hn : n < N) (Hg : cr_G st top N c0 K A B E F L C be dn yX)
    (hk : K n ≠ 0) (hz : ¬ z = 0 ↔ ((K n = 3 ∨ K n = 4) ∧ ¬ dn (A n) = 0))
    (hp : ∀ be' yX', cr_G st top N c0 K A B E F L C be' dn yX' → (yX' = 0 → be' = be ∧ yX = 0 ∧ cr_dc K A B be dn n) → post (yM, yC, yP, yT, yL, yN, yR, yG, yH, yX', ma, lea, mo, lno, sk, ki, lf, rg, hy, nx, be', dn)) : wY_down_41 post (nI n) (nI (K n)) z yM yC yP yT yL yN yR yG yH yX ma lea mo lno sk ki lf rg hy nx be dn := by
  have hi : vp_in (nI n) 260 := vp_in_nI (by omega) (by decide)
  have cp : (nI n).toNatClampNeg = n := nI_clamp (by omega)
  refine ⟨hi, ?_⟩
  by_cases b : be n = 0
  · refine br_t (by rw [cp]; exact b) ?_
    by_cases e : z = 0
    · refine br_t e (cy_d65 T Q hN ht hn Hg (fun be' yX' G' k => hp be' yX' G' (fun w => ⟨(k w).1, (k w).2.1, fun _ y => absurd b y, fun y y2 => absurd (hz.mpr ⟨y, y2⟩) (fun q => q e), (k w).2.2.2, (k w).2.2.1⟩)))
    · exact br_f e (cy_d55 T Q hN ht hn Hg hk (Or.inr (hz.mp e)) hp)
  · exact br_f (by rw [cp]; exact b) (cy_d55 T Q hN ht hn Hg hk (Or.inl b) hp)
theorem cy_down (T : cr_tr lv h N K A B S ln ls par E F L) (Q : cr_yt lv h N K A B S ln ls lea lno sk ki lf rg) (hN : N ≤ 260) (ht : par top = 1000 + t) (hn : n < N) (Hg : cr_G st top N c0 K A B E F L C be dn yX)
    (hp : ∀ be' yX', cr_G st top N c0 K A B E F L C be' dn yX' → (yX' = 0 → be' = be ∧ yX = 0 ∧ cr_dc K A B be dn n) → post (yM, yC, yP, yT, yL, yN, yR, yG, yH, yX', ma, lea, mo, lno, sk, ki, lf, rg, hy, nx, be', dn)) : wpY_down post (yM, yC, yP, yT, yL, yN, yR, yG, yH, yX, ma, lea, mo, lno, sk, ki, lf, rg, hy, nx, be, dn) (nI n) := by
  have nd := T.1 n hn
  have k5 := cr_k5 nd
  obtain ⟨eK, eA, eB⟩ := Q.1 n hn
  have hi : vp_in (nI n) 260 := vp_in_nI (by omega) (by decide)
  have cp : (nI n).toNatClampNeg = n := nI_clamp (by omega)
  refine ⟨hi, nm_r (e' := nI (K n)) (by rw [cp, eK]) (pk_eq (K n) 0 (fun k0 => hp be yX Hg (fun w => ⟨rfl, w, fun k => absurd k0 k, fun k => by omega, fun k => by omega, fun k => by omega⟩)) (fun k0 => ?_))⟩
  have hA := (cr_ndA nd k0).1
  have cA : (nI (A n)).toNatClampNeg = A n := nI_clamp (by omega)
  have d22 : K n = 3 ∨ K n = 4 → wY_down_22 post (nI n) (nI (K n)) yM yC yP yT yL yN yR yG yH yX ma lea mo lno sk ki lf rg hy nx be dn := by
    intro k
    refine ⟨hi, (by rw [cp, eA]; exact vp_in_nI (by omega) (by decide)), ?_⟩
    by_cases z : dn (A n) = 0
    · exact br_t (by rw [cp, eA, cA]; exact z) (cy_d41 T Q hN ht hn Hg k0 ⟨fun w => absurd rfl w, fun w => absurd z w.2⟩ hp)
    · exact br_f (by rw [cp, eA, cA]; exact z) (cy_d41 T Q hN ht hn Hg k0 ⟨fun _ => ⟨k, z⟩, fun _ => cr_10⟩ hp)
  exact pk_eq (K n) 3 (fun k => d22 (Or.inl k)) (fun k3 => pk_eq (K n) 4 (fun k => d22 (Or.inr k)) (fun k4 => cy_d41 T Q hN ht hn Hg k0 ⟨fun w => absurd rfl w, fun w => by omega⟩ hp))
/-! up -/
theorem cr_ueuc (H : cr_ue K A B ls C be dn n → ¬ dn n = 0) : cr_uc K A B ls C be dn n :=
  ⟨fun k b l => H (Or.inl ⟨k, Or.inl ⟨b, l⟩⟩), fun k c => H (Or.inl ⟨k, Or.inr c⟩), fun k d => H (Or.inr (Or.inl ⟨k, d⟩)), fun k d => H (Or.inr (Or.inr (Or.inl ⟨k, d⟩))),
   fun k d => H (Or.inr (Or.inr (Or.inr (Or.inl ⟨k, d⟩)))), fun k d => H (Or.inr (Or.inr (Or.inr (Or.inr ⟨k, d⟩))))⟩
theorem cy_u208 {x3 : Int32} (T : cr_tr lv h N K A B S ln ls par E F L) (hN : N ≤ 260) (hn : n < N) (Hg : cr_G st top N c0 K A B E F L C be dn yX) (h3 : ¬ x3 = 0 ↔ cr_ue K A B ls C be dn n)
    (hp : ∀ dn' yX', cr_G st top N c0 K A B E F L C be dn' yX' → (yX' = 0 → dn' = dn ∧ yX = 0 ∧ cr_uc K A B ls C be dn n) → post (yM, yC, yP, yT, yL, yN, yR, yG, yH, yX', ma, lea, mo, lno, sk, ki, lf, rg, hy, nx, be, dn')) : wY_up_208 post (nI n) x3 yM yC yP yT yL yN yR yG yH yX ma lea mo lno sk ki lf rg hy nx be dn := by
  have hi : vp_in (nI n) 260 := vp_in_nI (by omega) (by decide)
  have cp : (nI n).toNatClampNeg = n := nI_clamp (by omega)
  by_cases z : x3 = 0
  · exact br_t z (br_t z (hp dn yX Hg (fun w => ⟨rfl, w, cr_ueuc (fun u => absurd z (h3.mpr u))⟩)))
  · have u := h3.mp z
    refine br_f z ⟨hi, ?_⟩
    have Hi := cr_upd T hn Hg.1 u
    obtain ⟨g1, g2, g3, g4⟩ := Hg
    by_cases d : dn n = 0
    · refine br_t (by rw [cp]; exact d) (br_f z ⟨hi, nm_r (cr_ub1 (by omega)) (hp (upd dn n 1) 1 ⟨Hi, g2, cr_01u g3 (Or.inr rfl), ?_⟩ (fun k => absurd k cr_10))⟩)
      rw [if_neg cr_10, cr_ct_up d N hn]
      have := Nat.le_trans (Nat.le_add_right _ _) g4
      omega
    · exact br_f (by rw [cp]; exact d) (br_f z ⟨hi, nm_r (e' := dn) ((cr_ub1 (by omega)).trans (cr_id g3 d)) (hp dn yX ⟨g1, g2, g3, g4⟩ (fun w => ⟨rfl, w, cr_ueuc (fun _ => d)⟩))⟩)
theorem cy_u49 {p : Nat} {e0 : Prop} (Q : cr_yt lv h N K A B S ln ls lea lno sk ki lf rg) (hl : lv ≤ 12) (hp : p < lv) (hs : ls p ≤ 224) : ∀ m v x3, 225 - v < m → 1 ≤ v → v ≤ 225 →
    (¬ x3 = 0 ↔ e0 ∨ ∃ w, 1 ≤ w ∧ w < v ∧ ls p ≤ w ∧ ¬ hy (p * 225 + w) = 0) → (∀ x3', (¬ x3' = 0 ↔ e0 ∨ ∃ w, 1 ≤ w ∧ w < 225 ∧ ls p ≤ w ∧ ¬ hy (p * 225 + w) = 0) → wY_up_208 post (nI n) x3' yM yC yP yT yL yN yR yG yH yX ma lea mo lno sk ki lf rg hy nx be dn) →
    wY_up_49 post (nI n) (nI p) yM yC yP yT yL yN yR yG yH yX ma lea mo lno sk ki lf rg hy nx be dn m x3 (nI v) := by
  have eL := (Q.2.2 p hp).2
  have cp : (nI p).toNatClampNeg = p := nI_clamp (by omega)
  intro m
  induction m with
  | zero => intro v x3 h; omega
  | succ m ih =>
    intro v x3 hm v1 v2 h3 H
    rcases Nat.lt_or_ge v 225 with h | h
    · have e := cr_ix p v
      have ce : (nI (p * 225 + v)).toNatClampNeg = p * 225 + v := nI_clamp (by omega)
      refine br_f (nI_ge (b := 225) h (by decide)) ⟨(by rw [e]; exact vp_in_nI (by omega) (by decide)), ?_⟩
      by_cases z : hy (p * 225 + v) = 0
      · refine br_t (by rw [e, ce]; exact z) (nm_r (nI_1 v) (ih (v + 1) x3 (by omega) (by omega) (by omega) (h3.trans ?_) H))
        constructor
        · rintro (k | ⟨w, w1, w2, w3⟩)
          · exact Or.inl k
          · exact Or.inr ⟨w, w1, by omega, w3⟩
        · rintro (k | ⟨w, w1, w2, w3, w4⟩)
          · exact Or.inl k
          · by_cases ew : w = v
            · subst ew; exact absurd z w4
            · exact Or.inr ⟨w, w1, by omega, w3, w4⟩
      · refine br_f (by rw [e, ce]; exact z) ⟨vp_in_nI (by omega) (by decide), ?_⟩
        by_cases l : v < ls p
        · refine br_t (by rw [cp, eL]; exact nI_lt l (by omega)) (nm_r (nI_1 v) (ih (v + 1) x3 (by omega) (by omega) (by omega) (h3.trans ?_) H))
          constructor
          · rintro (k | ⟨w, w1, w2, w3⟩)
            · exact Or.inl k
            · exact Or.inr ⟨w, w1, by omega, w3⟩
          · rintro (k | ⟨w, w1, w2, w3, w4⟩)
            · exact Or.inl k
            · exact Or.inr ⟨w, w1, by omega, w3, w4⟩
        · exact br_f (by rw [cp, eL]; exact nI_nlt (by omega) (by omega)) (nm_r (nI_1 v) (ih (v + 1) 1 (by omega) (by omega) (by omega) ⟨fun _ => Or.inr ⟨v, v1, by omega, by omega, z⟩, fun _ => cr_10⟩ H))
    · have e : v = 225 := by omega
      subst e
      exact br_t (nI_le (a := 225) (Nat.le_refl _) (by decide)) (H x3 h3)
theorem cy_up (T : cr_tr lv h N K A B S ln ls par E F L) (Q : cr_yt lv h N K A B S ln ls lea lno sk ki lf rg) (hN : N ≤ 260) (hl : lv ≤ 12) (hs : ∀ p, p < lv → ls p ≤ 224) (hn : n < N)
    (Hg : cr_G st top N c0 K A B E F L (cr_cy lv hy ls) be dn yX)
    (hp : ∀ dn' yX', cr_G st top N c0 K A B E F L (cr_cy lv hy ls) be dn' yX' → (yX' = 0 → dn' = dn ∧ yX = 0 ∧ cr_uc K A B ls (cr_cy lv hy ls) be dn n) → post (yM, yC, yP, yT, yL, yN, yR, yG, yH, yX', ma, lea, mo, lno, sk, ki, lf, rg, hy, nx, be, dn')) : wpY_up post (yM, yC, yP, yT, yL, yN, yR, yG, yH, yX, ma, lea, mo, lno, sk, ki, lf, rg, hy, nx, be, dn) (nI n) := by
  have nd := T.1 n hn
  have k5 := cr_k5 nd
  obtain ⟨eK, eA, eB⟩ := Q.1 n hn
  have hi : vp_in (nI n) 260 := vp_in_nI (by omega) (by decide)
  have cp : (nI n).toNatClampNeg = n := nI_clamp (by omega)
  have u208 : ∀ x3, (¬ x3 = 0 ↔ cr_ue K A B ls (cr_cy lv hy ls) be dn n) → wY_up_208 post (nI n) x3 yM yC yP yT yL yN yR yG yH yX ma lea mo lno sk ki lf rg hy nx be dn := fun x3 h3 => cy_u208 T hN hn Hg h3 hp
  refine ⟨hi, nm_r (e' := nI (K n)) (by rw [cp, eK]) (pk_eq (K n) 0 (fun k0 => ?_) (fun k0 => ?_))⟩
  · obtain ⟨a1, a2, aE, aF, aL⟩ := cr_nd0 nd k0
    have cA : (nI (A n)).toNatClampNeg = A n := nI_clamp (by omega)
    have eL := (Q.2.2 (A n) a1).2
    have loop : ∀ x3, (¬ x3 = 0 ↔ ¬ be n = 0 ∧ ls (A n) = 0) → ∃ n49 : Nat, wY_up_49 post (nI n) (nI (A n)) yM yC yP yT yL yN yR yG yH yX ma lea mo lno sk ki lf rg hy nx be dn n49 x3 1 := by
      intro x3 h3
      refine ⟨226, cy_u49 (e0 := ¬ be n = 0 ∧ ls (A n) = 0) Q hl a1 (hs _ a1) 226 1 x3 (by omega) (by omega) (by omega) (h3.trans ⟨Or.inl, fun k => k.elim id (fun ⟨w, w1, w2, _⟩ => by omega)⟩) (fun x3' h3' => u208 x3' (h3'.trans ?_))⟩
      constructor
      · rintro (k | k)
        · exact Or.inl ⟨k0, Or.inl k⟩
        · exact Or.inl ⟨k0, Or.inr ⟨a1, k⟩⟩
      · rintro (⟨_, k⟩ | ⟨k, _⟩ | ⟨k, _⟩ | ⟨k, _⟩ | ⟨k, _⟩)
        · exact k.elim Or.inl (fun k => Or.inr k.2)
        · omega
        · omega
        · omega
        · omega
    refine ⟨hi, nm_r (e' := nI (A n)) (by rw [cp, eA]) ⟨hi, ?_⟩⟩
    by_cases b : be n = 0
    · exact br_t (by rw [cp]; exact b) (loop 0 ⟨fun k => absurd rfl k, fun k => absurd b k.1⟩)
    · refine br_f (by rw [cp]; exact b) ⟨vp_in_nI (by omega) (by decide), ?_⟩
      by_cases l : ls (A n) = 0
      · exact br_t (by rw [cA, eL, l]; rfl) (loop 1 ⟨fun _ => ⟨b, l⟩, fun _ => cr_10⟩)
      · have := hs _ a1
        exact br_f (by rw [cA, eL]; exact nI_ne0 (by omega) (by omega)) (loop 0 ⟨fun k => absurd rfl k, fun k => absurd k.2 l⟩)
  · have hA := (cr_ndA nd k0).1
    have cA : (nI (A n)).toNatClampNeg = A n := nI_clamp (by omega)
    have iA : vp_in (lf (nI n).toNatClampNeg) 260 := by rw [cp, eA]; exact vp_in_nI (by omega) (by decide)
    refine pk_eq (K n) 1 (fun k1 => ?_) (fun k1 => pk_eq (K n) 2 (fun k2 => ?_) (fun k2 => pk_eq (K n) 4 (fun k4 => ?_) (fun k4 => ?_)))
    · have hB := (cr_ndB nd (Or.inl k1)).1
      have cB : (nI (B n)).toNatClampNeg = B n := nI_clamp (by omega)
      have iB : vp_in (rg (nI n).toNatClampNeg) 260 := by rw [cp, eB]; exact vp_in_nI (by omega) (by decide)
      refine ⟨hi, iB, nm_r (e' := dn (B n)) (by rw [cp, eB, cB]) (u208 _ ⟨fun k => Or.inr (Or.inl ⟨k1, k⟩), ?_⟩)⟩
      rintro (⟨k, _⟩ | ⟨_, k⟩ | ⟨k, _⟩ | ⟨k, _⟩ | ⟨k, _⟩)
      · omega
      · exact k
      · omega
      · omega
      · omega
    · have hB := (cr_ndB nd (Or.inr k2)).1
      have cB : (nI (B n)).toNatClampNeg = B n := nI_clamp (by omega)
      have iB : vp_in (rg (nI n).toNatClampNeg) 260 := by rw [cp, eB]; exact vp_in_nI (by omega) (by decide)
      have back : cr_ue K A B ls (cr_cy lv hy ls) be dn n → ¬ dn (A n) = 0 ∨ ¬ dn (B n) = 0 := by
        rintro (⟨k, _⟩ | ⟨k, _⟩ | ⟨_, k⟩ | ⟨k, _⟩ | ⟨k, _⟩)
        · omega
        · omega
        · exact k
        · omega
        · omega
      refine ⟨hi, iA, ?_⟩
      by_cases dA : dn (A n) = 0
      · refine br_t (by rw [cp, eA, cA]; exact dA) ⟨hi, iB, ?_⟩
        by_cases dB : dn (B n) = 0
        · exact br_t (by rw [cp, eB, cB]; exact dB) (u208 0 ⟨fun k => absurd rfl k, fun k => (back k).elim (fun q => absurd dA q) (fun q => absurd dB q)⟩)
        · exact br_f (by rw [cp, eB, cB]; exact dB) (u208 1 ⟨fun _ => Or.inr (Or.inr (Or.inl ⟨k2, Or.inr dB⟩)), fun _ => cr_10⟩)
      · exact br_f (by rw [cp, eA, cA]; exact dA) (u208 1 ⟨fun _ => Or.inr (Or.inr (Or.inl ⟨k2, Or.inl dA⟩)), fun _ => cr_10⟩)
    · refine ⟨hi, iA, nm_r (e' := dn (A n)) (by rw [cp, eA, cA]) (u208 _ ⟨fun k => Or.inr (Or.inr (Or.inr (Or.inl ⟨k4, k⟩))), ?_⟩)⟩
      rintro (⟨k, _⟩ | ⟨k, _⟩ | ⟨k, _⟩ | ⟨_, k⟩ | ⟨k, _⟩)
      · omega
      · omega
      · omega
      · exact k
      · omega
    · have k35 : K n = 3 ∨ K n = 5 := by omega
      have back : cr_ue K A B ls (cr_cy lv hy ls) be dn n → ¬ be n = 0 ∨ ¬ dn (A n) = 0 := by
        rintro (⟨k, _⟩ | ⟨k, _⟩ | ⟨k, _⟩ | ⟨k, _⟩ | ⟨_, k⟩)
        · omega
        · omega
        · omega
        · omega
        · exact k
      refine ⟨hi, ?_⟩
      by_cases b : be n = 0
      · refine br_t (by rw [cp]; exact b) ⟨hi, iA, ?_⟩
        by_cases dA : dn (A n) = 0
        · exact br_t (by rw [cp, eA, cA]; exact dA) (u208 0 ⟨fun k => absurd rfl k, fun k => (back k).elim (fun q => absurd b q) (fun q => absurd dA q)⟩)
        · exact br_f (by rw [cp, eA, cA]; exact dA) (u208 1 ⟨fun _ => Or.inr (Or.inr (Or.inr (Or.inr ⟨k35, Or.inr dA⟩))), fun _ => cr_10⟩)
      · exact br_f (by rw [cp]; exact b) (u208 1 ⟨fun _ => Or.inr (Or.inr (Or.inr (Or.inr ⟨k35, Or.inl b⟩))), fun _ => cr_10⟩)
end CRF
