section CRD
/-! Y: spread -/
variable {yM yC yP yT yL yN yR yG yH yX : Int32} {ma lea mo lno sk ki lf rg hy nx be dn : Nat → Int32}
variable {st : Prop} {lv h N top c0 t n : Nat} {K A B S ln ls par : Nat → Nat} {E : Nat → Prop} {F L : Nat → Nat → Prop} {C : Nat → Prop} {post : SY → Prop}
abbrev cr_TJ : Type := Int32 → Int32 → Int32 → Int32 → Int32 → Int32 → Int32 → Int32 → Int32 → Int32 → Int32 → (Nat → Int32) → (Nat → Int32) → (Nat → Int32) → (Nat → Int32) → (Nat → Int32) → (Nat → Int32) → (Nat → Int32) → (Nat → Int32) → (Nat → Int32) → (Nat → Int32) → (Nat → Int32) → (Nat → Int32) → Prop
theorem cy_116 {J : cr_TJ} {x1 : Int32} (T : cr_tr lv h N K A B S ln ls par E F L) (Q : cr_yt lv h N K A B S ln ls lea lno sk ki lf rg) (hN : N ≤ 260) (hl : lv ≤ 12) (hs : ∀ p, p < lv → ls p ≤ 224) :
    ∀ m i dn yX, N - i < m → i ≤ N → cr_G st top N c0 K A B E F L (cr_cy lv hy ls) be dn yX → (yX = 0 → (∀ j, j < N → cr_dc K A B be dn j) ∧ ∀ j, j < i → cr_uc K A B ls (cr_cy lv hy ls) be dn j) →
    (∀ dn' yX', cr_G st top N c0 K A B E F L (cr_cy lv hy ls) be dn' yX' → (yX' = 0 → (∀ j, j < N → cr_dc K A B be dn' j) ∧ ∀ j, j < N → cr_uc K A B ls (cr_cy lv hy ls) be dn' j) → J (x1 + 1) yM yC yP yT yL (nI N) yR yG yH yX' ma lea mo lno sk ki lf rg hy nx be dn') →
    wY_spread_116 post J x1 m (nI i) yM yC yP yT yL (nI N) yR yG yH yX ma lea mo lno sk ki lf rg hy nx be dn := by
  intro m
  induction m with
  | zero => intro i dn yX h; omega
  | succ m ih =>
    intro i dn yX hm hi Hg Hc H
    rcases Nat.lt_or_ge i N with hlt | hge
    · refine br_f (nI_ge hlt (by omega)) (cy_up T Q hN hl hs hlt Hg (fun dn' yX' G' k => nm_r (nI_1 i) (ih (i + 1) dn' yX' (by omega) (by omega) G' (fun w => ?_) H)))
      obtain ⟨k1, k2, k3⟩ := k w
      subst k1
      refine ⟨(Hc k2).1, fun j hj => ?_⟩
      by_cases e : j = i
      · subst e; exact k3
      · exact (Hc k2).2 j (by omega)
    · exact br_t (nI_le hge (by omega)) (nm_e (H dn yX Hg (fun w => ⟨(Hc w).1, fun j hj => (Hc w).2 j (by omega)⟩)))
theorem cy_99 {J : cr_TJ} {x1 : Int32} (T : cr_tr lv h N K A B S ln ls par E F L) (Q : cr_yt lv h N K A B S ln ls lea lno sk ki lf rg) (hN : N ≤ 260) (hl : lv ≤ 12) (hs : ∀ p, p < lv → ls p ≤ 224) (ht : par top = 1000 + t) :
    ∀ i m be yX, i < m → i ≤ N → cr_G st top N c0 K A B E F L (cr_cy lv hy ls) be dn yX → (yX = 0 → ∀ j, i ≤ j → j < N → cr_dc K A B be dn j) →
    (∀ be' dn' yX', cr_G st top N c0 K A B E F L (cr_cy lv hy ls) be' dn' yX' → (yX' = 0 → (∀ j, j < N → cr_dc K A B be' dn' j) ∧ ∀ j, j < N → cr_uc K A B ls (cr_cy lv hy ls) be' dn' j) → J (x1 + 1) yM yC yP yT yL (nI N) yR yG yH yX' ma lea mo lno sk ki lf rg hy nx be' dn') →
    wY_spread_99 post J x1 m (nI i - 1) yM yC yP yT yL (nI N) yR yG yH yX ma lea mo lno sk ki lf rg hy nx be dn := by
  intro i
  induction i with
  | zero =>
    intro m be yX hm hi Hg Hc H
    obtain ⟨m, rfl⟩ : ∃ m', m = m' + 1 := ⟨m - 1, by omega⟩
    exact br_t (by decide) ⟨N + 1, cy_116 T Q hN hl hs (N + 1) 0 dn yX (by omega) (by omega) Hg (fun w => ⟨fun j hj => Hc w j (by omega) hj, fun j hj => by omega⟩) (fun dn' yX' G' k => H be dn' yX' G' k)⟩
  | succ i ih =>
    intro m be yX hm hi Hg Hc H
    obtain ⟨m, rfl⟩ : ∃ m', m = m' + 1 := ⟨m - 1, by omega⟩
    rw [nI_pred]
    refine br_f (nI_pos (by omega)) (cy_down T Q hN ht (show i < N by omega) Hg (fun be' yX' G' k => nm_r (e' := nI i - 1) (Int32.sub_eq_add_neg _ _).symm (ih m be' yX' (by omega) (by omega) G' (fun w j hj hjN => ?_) H)))
    obtain ⟨k1, k2, k3⟩ := k w
    subst k1
    by_cases e : j = i
    · subst e; exact k3
    · exact Hc k2 j (by omega) hjN
theorem cy_73 (T : cr_tr lv h N K A B S ln ls par E F L) (Q : cr_yt lv h N K A B S ln ls lea lno sk ki lf rg) (hN : N ≤ 260) (hl : lv ≤ 12) (hs : ∀ p, p < lv → ls p ≤ 224) (ht : par top = 1000 + t) (htN : top < N)
    (H : ∀ be' dn' yX', cr_01 be' → cr_01 dn' → (¬ dn' top = 0 ↔ (st ∧ E top) ∨ ∃ q, L top q ∧ cr_cy lv hy ls q) → (∀ p, p < lv → (¬ be' (ln p) = 0 ↔ cr_en st top N K A B F L (cr_cy lv hy ls) p)) → post (yM, yC, yP, yT, yL, nI N, yR, yG, yH, yX', ma, lea, mo, lno, sk, ki, lf, rg, hy, nx, be', dn')) :
    ∀ m r be dn yX, 521 - r < m → r ≤ 521 → cr_inv st top N K A B E F L (cr_cy lv hy ls) be dn → cr_01 be → cr_01 dn → (¬ yX = 0 → r ≤ cr_ct be N + cr_ct dn N) →
    (yX = 0 → (∀ j, j < N → cr_dc K A B be dn j) ∧ ∀ j, j < N → cr_uc K A B ls (cr_cy lv hy ls) be dn j) → wY_spread_73 post m (nI r) yM yC yP yT yL (nI N) yR yG yH yX ma lea mo lno sk ki lf rg hy nx be dn := by
  intro m
  induction m with
  | zero => intro r be dn yX h; omega
  | succ m ih =>
    intro r be dn yX hm hr Hi b01 d01 Hr Hc
    have fin : yX = 0 → post (yM, yC, yP, yT, yL, nI N, yR, yG, yH, yX, ma, lea, mo, lno, sk, ki, lf, rg, hy, nx, be, dn) := fun z => H be dn yX b01 d01 (cr_R1 T (Hc z).1 (Hc z).2 Hi htN) (fun p hp => cr_R2 T (Hc z).1 (Hc z).2 Hi htN hp)
    rcases Nat.lt_or_ge r 521 with hlt | hge
    · refine br_f (nI_ge (b := 521) hlt (by decide)) ?_
      by_cases z : yX = 0
      · exact br_t z (fin z)
      · refine br_f z (nm_r (e' := nI N - 1) rfl ⟨N + 1, cy_99 (c0 := cr_ct be N + cr_ct dn N) T Q hN hl hs ht N (N + 1) be 0 (by omega) (Nat.le_refl N) ⟨Hi, b01, d01, ?_⟩ (fun _ j h1 h2 => by omega) (fun be' dn' yX' G' k => ?_)⟩)
        · rw [if_pos rfl]; omega
        · obtain ⟨g1, g2, g3, g4⟩ := G'
          rw [nI_1]
          refine ih (r + 1) be' dn' yX' (by omega) (by omega) g1 g2 g3 (fun w => ?_) k
          rw [if_neg w] at g4
          have := Hr z
          omega
    · refine br_t (nI_le (a := 521) hge (by omega)) (fin ?_)
      by_cases z : yX = 0
      · exact z
      · have := Hr z
        have h1 := cr_ct_le be N
        have h2 := cr_ct_le dn N
        omega
/-- the start of an input, as Y reckons it -/
def cr_ys (yP yG : Int32) : Prop := ¬ yP = 1 ∨ yG = 0
theorem cy_sp (T : cr_tr lv (h + 1) N K A B S ln ls par E F L) (Q : cr_yt lv (h + 1) N K A B S ln ls lea lno sk ki lf rg) (hN : N ≤ 260) (hl : lv ≤ 12) (hh : h < 16) (hs : ∀ p, p < lv → ls p ≤ 224) (b01 : cr_01 be) (d01 : cr_01 dn)
    (H : ∀ be' dn' yX', cr_01 be' → cr_01 dn' → (¬ dn' (S h) = 0 ↔ (cr_ys yP yG ∧ E (S h)) ∨ ∃ q, L (S h) q ∧ cr_cy lv hy ls q) → (∀ p, p < lv → (¬ be' (ln p) = 0 ↔ cr_en (cr_ys yP yG) (S h) N K A B F L (cr_cy lv hy ls) p)) →
      post (yM, yC, yP, nI (h + 1), yL, nI N, yR, yG, yH, yX', ma, lea, mo, lno, sk, ki, lf, rg, hy, nx, be', dn')) : wpY_spread post (yM, yC, yP, nI (h + 1), yL, nI N, yR, yG, yH, yX, ma, lea, mo, lno, sk, ki, lf, rg, hy, nx, be, dn) := by
  obtain ⟨s1, s2⟩ := T.2.1 h (by omega)
  have eS := Q.2.1 h (by omega)
  have eh : nI (h + 1) - 1 = nI h := nI_pred h
  have ch : (nI h).toNatClampNeg = h := nI_clamp (by omega)
  have cS : (nI (S h)).toNatClampNeg = S h := nI_clamp (by omega)
  have go : ∀ be dn : Nat → Int32, cr_01 be → cr_01 dn → (∀ j, j < N → be j = 0) → (∀ j, j < N → dn j = 0) → ∀ x : Int32, (x = 0 ∨ x = 1) → (¬ x = 0 ↔ cr_ys yP yG) →
      ∃ n73 : Nat, wY_spread_73 post n73 0 yM yC yP (nI (h + 1)) yL (nI N) yR yG yH 1 ma lea mo lno sk ki lf rg hy nx (upd be (S h) x) dn := by
    intro be dn b01 d01 b0 d0 x hx01 hx
    refine ⟨522, cy_73 (yT := nI (h + 1)) (st := cr_ys yP yG) T Q hN hl hs s2 s1 H 522 0 (upd be (S h) x) dn 1 (by omega) (by omega) (cr_inv0 T (by omega) s2 (fun j hj hne => ?_) d0 ?_) (cr_01u b01 hx01) d01 (fun _ => by omega) (fun k => absurd k cr_10)⟩
    · rw [pk_un hne]; exact b0 j hj
    · rw [pk_us]; exact hx
  have loop : ∀ m i be dn, N - i < m → i ≤ N → cr_01 be → cr_01 dn → (∀ j, j < i → be j = 0) → (∀ j, j < i → dn j = 0) → wY_spread_2 post yM yC yP (nI (h + 1)) yL (nI N) yR yG yH yX m (nI i) ma lea mo lno sk ki lf rg hy nx be dn := by
    intro m
    induction m with
    | zero => intro i be dn hm; omega
    | succ m ih =>
      intro i be dn hm hi b01 d01 b0 d0
      rcases Nat.lt_or_ge i N with hlt | hge
      · have hin : vp_in (nI i) 260 := vp_in_nI (by omega) (by decide)
        refine br_f (nI_ge hlt (by omega)) ⟨hin, nm_r (cr_ub0 (by omega)) ⟨hin, nm_r (cr_ub0 (by omega)) (nm_r (nI_1 i) (ih (i + 1) _ _ (by omega) (by omega) (cr_01u b01 (Or.inl rfl)) (cr_01u d01 (Or.inl rfl)) (fun j hj => ?_) (fun j hj => ?_)))⟩⟩
        · by_cases e : j = i
          · subst e; exact pk_us
          · rw [pk_un e]; exact b0 j (by omega)
        · by_cases e : j = i
          · subst e; exact pk_us
          · rw [pk_un e]; exact d0 j (by omega)
      · have b0' : ∀ j, j < N → be j = 0 := fun j hj => b0 j (by omega)
        have d0' : ∀ j, j < N → dn j = 0 := fun j hj => d0 j (by omega)
        have s60 : cr_ys yP yG → wY_spread_60 post (sk (nI (h + 1) - 1).toNatClampNeg) yM yC yP (nI (h + 1)) yL (nI N) yR yG yH yX ma lea mo lno sk ki lf rg hy nx be dn := by
          intro z
          rw [eh, ch, eS]
          exact ⟨vp_in_nI (by omega) (by decide), nm_r (cr_ub1 (by omega)) (go be dn b01 d01 b0' d0' 1 (Or.inr rfl) ⟨fun _ => z, fun _ => cr_10⟩)⟩
        refine br_t (nI_le hge (by omega)) ⟨(by rw [eh]; exact vp_in_nI (by omega) (by decide)), ?_⟩
        by_cases a : yP = 1
        · refine br_t a ?_
          by_cases b : yG = 0
          · exact br_t b (s60 (Or.inr b))
          · exact br_f b ⟨(by rw [eh, ch, eS]; exact vp_in_nI (by omega) (by decide)), nm_r (e' := upd be (S h) 0) (by rw [eh, ch, eS]; exact cr_ub0 (by omega)) (go be dn b01 d01 b0' d0' 0 (Or.inl rfl) ⟨fun k => absurd rfl k, fun k => k.elim (fun k => absurd a k) (fun k => absurd k b)⟩)⟩
        · exact br_f a (s60 (Or.inl a))
  exact ⟨N + 1, loop (N + 1) 0 be dn (by omega) (by omega) b01 d01 (fun j hj => by omega) (fun j hj => by omega)⟩
end CRD
