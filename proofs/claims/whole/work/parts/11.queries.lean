section CRQ
/-! what both sides answer of the held pairs -/
variable {xL xW xP xT xC xR xN xH : Int32} {aC aL aT aE aB aF iE iF iL hx : Nat → Int32}
variable {yM yC yP yT yL yN yR yG yH yX : Int32} {ma lea mo lno sk ki lf rg hy nx be dn : Nat → Int32}
variable {lv h N : Nat} {K A B S ln ls tp bs par : Nat → Nat} {E : Nat → Prop} {F L : Nat → Nat → Prop}
/-! counts -/
theorem cr_ctc {f g : Nat → Int32} : ∀ n, (∀ j, j < n → f j = g j) → cr_ct f n = cr_ct g n := by
  intro n
  induction n with
  | zero => exact fun _ => rfl
  | succ n ih =>
    intro hj
    show cr_ct f n + (if f n = 0 then 0 else 1) = cr_ct g n + (if g n = 0 then 0 else 1)
    rw [ih (fun j h => hj j (by omega)), hj n (by omega)]
theorem cr_ctz {f : Nat → Int32} {n : Nat} : ∀ d, (∀ j, n ≤ j → j < n + d → f j = 0) → cr_ct f (n + d) = cr_ct f n := by
  intro d
  induction d with
  | zero => exact fun _ => rfl
  | succ d ih =>
    intro hj
    show cr_ct f (n + d) + (if f (n + d) = 0 then 0 else 1) = cr_ct f n
    rw [ih (fun j a b => hj j a (by omega)), hj (n + d) (by omega) (by omega), if_pos rfl, Nat.add_zero]
theorem cx_szl {post : Int32 → Prop} {p : Nat} (G : cr_lf lv ls tp bs aL aT aE aB) (hp : p < lv) (H : post (nI (cr_ct (fun j => hx (bs p + j)) (tp p)))) : ∀ n i, tp p - i < n → i ≤ tp p →
    wX_size_14 post (nI p) xL xW xP xT xC xR xN xH aC aL aT aE aB aF iE iF iL hx n (nI (cr_ct (fun j => hx (bs p + j)) i)) (nI (i + 1)) := by
  obtain ⟨g1, g2, g3⟩ := G
  obtain ⟨eL, eT, eB, eE, t1, t2, t3⟩ := g2 p hp
  have hi : vp_in (nI p) 12 := vp_in_nI (by omega) (by decide)
  have cp : (nI p).toNatClampNeg = p := nI_clamp (by omega)
  intro n
  induction n with
  | zero => intro i h; omega
  | succ n ih =>
    intro i hn hit
    rcases Nat.lt_or_ge i (tp p) with h | h
    · have e : ((aB (nI p).toNatClampNeg) + nI (i + 1)) - 1 = nI (bs p + i) := cr_cell (aB := aB) (show p < 12 by omega) eB (by omega)
      have ce : (nI (bs p + i)).toNatClampNeg = bs p + i := nI_clamp (by omega)
      have hv : vp_in (((aB (nI p).toNatClampNeg) + nI (i + 1)) - 1) 224 := by rw [e]; exact vp_in_nI (by omega) (by decide)
      have ih' := ih (i + 1) (by omega) (by omega)
      have es : cr_ct (fun j => hx (bs p + j)) (i + 1) = cr_ct (fun j => hx (bs p + j)) i + (if hx (bs p + i) = 0 then 0 else 1) := rfl
      refine ⟨hi, br_f (by rw [cp, eT]; exact nI_nlt (by omega) (by omega)) ⟨hi, hv, ?_⟩⟩
      by_cases z : hx (bs p + i) = 0
      · rw [es, if_pos z, Nat.add_zero] at ih'
        exact br_t (by rw [e, ce]; exact z) (nm_r (nI_1 (i + 1)) ih')
      · rw [es, if_neg z] at ih'
        exact br_f (by rw [e, ce]; exact z) (nm_r (nI_1 _) (nm_r (nI_1 (i + 1)) ih'))
    · have e : i = tp p := by omega
      subst e
      exact ⟨hi, br_t (by rw [cp, eT]; exact nI_lt (by omega) (by omega)) H⟩
theorem cy_szl {post : Int32 → Prop} {p : Nat} (hp : p < 12) (H : post (nI (cr_ct (fun j => hy (p * 225 + (j + 1))) 224))) : ∀ n i, 224 - i < n → i ≤ 224 →
    wY_size_18 post (nI p) yM yC yP yT yL yN yR yG yH yX ma lea mo lno sk ki lf rg hy nx be dn n (nI (cr_ct (fun j => hy (p * 225 + (j + 1))) i)) (nI (i + 1)) := by
  intro n
  induction n with
  | zero => intro i h; omega
  | succ n ih =>
    intro i hn hit
    rcases Nat.lt_or_ge i 224 with h | h
    · have e := cr_ix p (i + 1)
      have ce : (nI (p * 225 + (i + 1))).toNatClampNeg = p * 225 + (i + 1) := nI_clamp (by omega)
      have ih' := ih (i + 1) (by omega) (by omega)
      have es : cr_ct (fun j => hy (p * 225 + (j + 1))) (i + 1) = cr_ct (fun j => hy (p * 225 + (j + 1))) i + (if hy (p * 225 + (i + 1)) = 0 then 0 else 1) := rfl
      refine br_f (nI_ge (b := 225) (by omega) (by decide)) ⟨(by rw [e]; exact vp_in_nI (by omega) (by decide)), ?_⟩
      by_cases z : hy (p * 225 + (i + 1)) = 0
      · rw [es, if_pos z, Nat.add_zero] at ih'
        exact br_t (by rw [e, ce]; exact z) (nm_r (nI_1 (i + 1)) ih')
      · rw [es, if_neg z] at ih'
        exact br_f (by rw [e, ce]; exact z) (nm_r (nI_1 _) (nm_r (nI_1 (i + 1)) ih'))
    · have e : i = 224 := by omega
      subst e
      exact br_t (nI_le (a := 225) (by omega) (by decide)) H
/-! the greatest, the least -/
def cr_mx (f : Nat → Int32) (n m : Nat) : Prop := m ≤ n ∧ (m = 0 ∨ ¬ f m = 0) ∧ ∀ v, m < v → v ≤ n → f v = 0
def cr_mn (f : Nat → Int32) (n m : Nat) : Prop := (m = 0 ∧ ∀ v, 1 ≤ v → v ≤ n → f v = 0) ∨ (1 ≤ m ∧ m ≤ n ∧ ¬ f m = 0 ∧ ∀ v, 1 ≤ v → v < m → f v = 0)
theorem cr_mxu {f g : Nat → Int32} {n k m m' : Nat} (hnk : n ≤ k) (e1 : ∀ v, 1 ≤ v → v ≤ n → f v = g v) (e2 : ∀ v, n < v → v ≤ k → g v = 0) (a : cr_mx f n m) (b : cr_mx g k m') : m' = m := by
  obtain ⟨a1, a2, a3⟩ := a
  obtain ⟨b1, b2, b3⟩ := b
  rcases Nat.lt_trichotomy m m' with h | h | h
  · have n1 : ¬ g m' = 0 := b2.elim (fun z => by omega) id
    rcases Nat.lt_or_ge n m' with k1 | k1
    · exact absurd (e2 m' k1 b1) n1
    · exact absurd ((e1 m' (by omega) k1).symm.trans (a3 m' h k1)) n1
  · exact h.symm
  · have n1 : ¬ f m = 0 := a2.elim (fun z => by omega) id
    exact absurd ((e1 m (by omega) a1).trans (b3 m h (by omega))) n1
theorem cr_mnu {f g : Nat → Int32} {n k m m' : Nat} (hnk : n ≤ k) (e1 : ∀ v, 1 ≤ v → v ≤ n → f v = g v) (e2 : ∀ v, n < v → v ≤ k → g v = 0) (a : cr_mn f n m) (b : cr_mn g k m') : m' = m := by
  rcases a with ⟨a1, a2⟩ | ⟨a1, a2, a3, a4⟩
  · rcases b with ⟨b1, b2⟩ | ⟨b1, b2, b3, b4⟩
    · omega
    · rcases Nat.lt_or_ge n m' with k1 | k1
      · exact absurd (e2 m' k1 b2) b3
      · exact absurd ((e1 m' b1 k1).symm.trans (a2 m' b1 k1)) b3
  · rcases b with ⟨b1, b2⟩ | ⟨b1, b2, b3, b4⟩
    · exact absurd ((e1 m a1 a2).trans (b2 m a1 (by omega))) a3
    · rcases Nat.lt_trichotomy m m' with h | h | h
      · exact absurd ((e1 m a1 a2).trans (b4 m a1 h)) a3
      · exact h.symm
      · exact absurd ((e1 m' b1 (by omega)).symm.trans (a4 m' b1 h)) b3
theorem cx_lgl {post : Int32 → Prop} {p : Nat} (G : cr_lf lv ls tp bs aL aT aE aB) (hp : p < lv) (H : ∀ m, cr_mx (fun v => hx (bs p + v - 1)) (tp p) m → post (nI m)) : ∀ i n, i < n → i ≤ tp p → (∀ v, i < v → v ≤ tp p → hx (bs p + v - 1) = 0) →
    wX_largest_17 post (nI p) xL xW xP xT xC xR xN xH aC aL aT aE aB aF iE iF iL hx n (nI i) := by
  obtain ⟨g1, g2, g3⟩ := G
  obtain ⟨eL, eT, eB, eE, t1, t2, t3⟩ := g2 p hp
  have hi : vp_in (nI p) 12 := vp_in_nI (by omega) (by decide)
  intro i
  induction i with
  | zero =>
    intro n hn hit h0
    obtain ⟨n, rfl⟩ : ∃ n', n = n' + 1 := ⟨n - 1, by omega⟩
    exact br_t (by decide) (H 0 ⟨by omega, Or.inl rfl, h0⟩)
  | succ i ih =>
    intro n hn hit h0
    obtain ⟨n, rfl⟩ : ∃ n', n = n' + 1 := ⟨n - 1, by omega⟩
    have e := cr_cell (aB := aB) (a := i + 1) (show p < 12 by omega) eB (by omega)
    have ce : (nI (bs p + (i + 1) - 1)).toNatClampNeg = bs p + (i + 1) - 1 := nI_clamp (by omega)
    refine br_f (nI_nlt (b := 1) (by omega) (by omega)) ⟨hi, (by rw [e]; exact vp_in_nI (by omega) (by decide)), ?_⟩
    by_cases z : hx (bs p + (i + 1) - 1) = 0
    · refine br_t (by rw [e, ce]; exact z) (nm_r (pk_m1 i) (ih n (by omega) (by omega) (fun v v1 v2 => ?_)))
      by_cases ev : v = i + 1
      · subst ev; exact z
      · exact h0 v (by omega) v2
    · exact br_f (by rw [e, ce]; exact z) (H (i + 1) ⟨hit, Or.inr z, h0⟩)
theorem cy_lgl {post : Int32 → Prop} {p : Nat} (hp : p < 12) (H : ∀ m, cr_mx (fun v => hy (p * 225 + v)) 224 m → post (nI m)) : ∀ n i m, 225 - i < n → 1 ≤ i → i ≤ 225 → cr_mx (fun v => hy (p * 225 + v)) (i - 1) m →
    wY_largest_18 post (nI p) yM yC yP yT yL yN yR yG yH yX ma lea mo lno sk ki lf rg hy nx be dn n (nI m) (nI i) := by
  intro n
  induction n with
  | zero => intro i m h; omega
  | succ n ih =>
    intro i m hn i1 hit hm
    rcases Nat.lt_or_ge i 225 with h | h
    · have e := cr_ix p i
      have ce : (nI (p * 225 + i)).toNatClampNeg = p * 225 + i := nI_clamp (by omega)
      refine br_f (nI_ge (b := 225) (by omega) (by decide)) ⟨(by rw [e]; exact vp_in_nI (by omega) (by decide)), ?_⟩
      obtain ⟨a1, a2, a3⟩ := hm
      by_cases z : hy (p * 225 + i) = 0
      · refine br_t (by rw [e, ce]; exact z) (nm_r (nI_1 i) (ih (i + 1) m (by omega) (by omega) (by omega) ⟨by omega, a2, fun v v1 v2 => ?_⟩))
        by_cases ev : v = i
        · subst ev; exact z
        · exact a3 v v1 (by omega)
      · exact br_f (by rw [e, ce]; exact z) (nm_r (nI_1 i) (ih (i + 1) i (by omega) (by omega) (by omega) ⟨by omega, Or.inr z, fun v v1 v2 => by omega⟩))
    · have e : i = 225 := by omega
      subst e
      exact br_t (nI_le (a := 225) (by omega) (by decide)) (H m hm)
theorem cx_sml {post : Int32 → Prop} {p : Nat} (G : cr_lf lv ls tp bs aL aT aE aB) (hp : p < lv) (H : ∀ m, cr_mn (fun v => hx (bs p + v - 1)) (tp p) m → post (nI m)) : ∀ n i, tp p + 1 - i < n → 1 ≤ i → i ≤ tp p + 1 → (∀ v, 1 ≤ v → v < i → hx (bs p + v - 1) = 0) →
    wX_smallest_12 post (nI p) xL xW xP xT xC xR xN xH aC aL aT aE aB aF iE iF iL hx n (nI i) := by
  obtain ⟨g1, g2, g3⟩ := G
  obtain ⟨eL, eT, eB, eE, t1, t2, t3⟩ := g2 p hp
  have hi : vp_in (nI p) 12 := vp_in_nI (by omega) (by decide)
  have cp : (nI p).toNatClampNeg = p := nI_clamp (by omega)
  intro n
  induction n with
  | zero => intro i h; omega
  | succ n ih =>
    intro i hn i1 hit h0
    rcases Nat.lt_or_ge (tp p) i with h | h
    · exact ⟨hi, br_t (by rw [cp, eT]; exact nI_lt h (by omega)) (H 0 (Or.inl ⟨rfl, fun v v1 v2 => h0 v v1 (by omega)⟩))⟩
    · have e := cr_cell (aB := aB) (show p < 12 by omega) eB i1
      have ce : (nI (bs p + i - 1)).toNatClampNeg = bs p + i - 1 := nI_clamp (by omega)
      refine ⟨hi, br_f (by rw [cp, eT]; exact nI_nlt h (by omega)) ⟨hi, (by rw [e]; exact vp_in_nI (by omega) (by decide)), ?_⟩⟩
      by_cases z : hx (bs p + i - 1) = 0
      · refine br_t (by rw [e, ce]; exact z) (nm_r (nI_1 i) (ih (i + 1) (by omega) (by omega) (by omega) (fun v v1 v2 => ?_)))
        by_cases ev : v = i
        · subst ev; exact z
        · exact h0 v v1 (by omega)
      · exact br_f (by rw [e, ce]; exact z) (H i (Or.inr ⟨i1, h, z, h0⟩))
theorem cy_sml {post : Int32 → Prop} {p : Nat} (hp : p < 12) (H : ∀ m, cr_mn (fun v => hy (p * 225 + v)) 224 m → post (nI m)) : ∀ i n m, i < n → i ≤ 224 →
    ((m = 0 ∧ ∀ v, i < v → v ≤ 224 → hy (p * 225 + v) = 0) ∨ (i < m ∧ m ≤ 224 ∧ ¬ hy (p * 225 + m) = 0 ∧ ∀ v, i < v → v < m → hy (p * 225 + v) = 0)) →
    wY_smallest_20 post (nI p) yM yC yP yT yL yN yR yG yH yX ma lea mo lno sk ki lf rg hy nx be dn n (nI m) (nI i) := by
  intro i
  induction i with
  | zero =>
    intro n m hn hit hm
    obtain ⟨n, rfl⟩ : ∃ n', n = n' + 1 := ⟨n - 1, by omega⟩
    refine br_t (by decide) (H m ?_)
    rcases hm with ⟨a, b⟩ | ⟨a, b, c, d⟩
    · exact Or.inl ⟨a, fun v v1 v2 => b v (by omega) v2⟩
    · exact Or.inr ⟨a, b, c, fun v v1 v2 => d v (by omega) v2⟩
  | succ i ih =>
    intro n m hn hit hm
    obtain ⟨n, rfl⟩ : ∃ n', n = n' + 1 := ⟨n - 1, by omega⟩
    have e := cr_ix p (i + 1)
    have ce : (nI (p * 225 + (i + 1))).toNatClampNeg = p * 225 + (i + 1) := nI_clamp (by omega)
    refine br_f (nI_nlt (b := 1) (by omega) (by omega)) ⟨(by rw [e]; exact vp_in_nI (by omega) (by decide)), ?_⟩
    by_cases z : hy (p * 225 + (i + 1)) = 0
    · refine br_t (by rw [e, ce]; exact z) (nm_r (pk_m1 i) (ih n m (by omega) (by omega) ?_))
      rcases hm with ⟨a, b⟩ | ⟨a, b, c, d⟩
      · refine Or.inl ⟨a, fun v v1 v2 => ?_⟩
        by_cases ev : v = i + 1
        · subst ev; exact z
        · exact b v (by omega) v2
      · refine Or.inr ⟨by omega, b, c, fun v v1 v2 => ?_⟩
        by_cases ev : v = i + 1
        · subst ev; exact z
        · exact d v (by omega) v2
    · exact br_f (by rw [e, ce]; exact z) (nm_r (pk_m1 i) (ih n (i + 1) (by omega) (by omega) (Or.inr ⟨by omega, hit, z, fun v v1 v2 => by omega⟩)))
/-! allowed -/
theorem cx_all {post : Int32 → Prop} {x : Nat} {en : Int32} (hx8 : x < 8) (G : cr_lf lv ls tp bs aL aT aE aB)
    (h1 : (∃ p, p < lv ∧ bt (aC p) x = true ∧ (bt en p = true ∨ ∃ v, 1 ≤ v ∧ v ≤ tp p ∧ (v < tp p ∨ ¬ aE p = 0) ∧ ¬ hx (bs p + v - 1) = 0)) → post 1)
    (h0 : ¬ (∃ p, p < lv ∧ bt (aC p) x = true ∧ (bt en p = true ∨ ∃ v, 1 ≤ v ∧ v ≤ tp p ∧ (v < tp p ∨ ¬ aE p = 0) ∧ ¬ hx (bs p + v - 1) = 0)) → post 0) :
    ∀ n i, lv - i < n → i ≤ lv → (∀ p, p < i → ¬ (bt (aC p) x = true ∧ (bt en p = true ∨ ∃ v, 1 ≤ v ∧ v ≤ tp p ∧ (v < tp p ∨ ¬ aE p = 0) ∧ ¬ hx (bs p + v - 1) = 0))) →
    wX_allowed_56 post (nI x) en xL xW xP xT (nI lv) xR xN xH aC aL aT aE aB aF iE iF iL hx n (nI i) := by
  have g1 := G.1
  intro n
  induction n with
  | zero => intro i h; omega
  | succ n ih =>
    intro i hn hi hq
    rcases Nat.lt_or_ge i lv with h | h
    · have cp : (nI i).toNatClampNeg = i := nI_clamp (by omega)
      have next : ¬ (bt (aC i) x = true ∧ (bt en i = true ∨ ∃ v, 1 ≤ v ∧ v ≤ tp i ∧ (v < tp i ∨ ¬ aE i = 0) ∧ ¬ hx (bs i + v - 1) = 0)) → wX_allowed_56 post (nI x) en xL xW xP xT (nI lv) xR xN xH aC aL aT aE aB aF iE iF iL hx n (nI (i + 1)) := by
        intro z
        refine ih (i + 1) (by omega) (by omega) (fun q q1 => ?_)
        by_cases e : q = i
        · subst e; exact z
        · exact hq q (by omega)
      refine br_f (nI_ge h (by omega)) ⟨vp_in_nI (by omega) (by decide), cx_con (by omega) (fun z => br_f cr_10 (cx_con (by omega) (fun w => br_f cr_10 (h1 ⟨i, h, (by rw [cp] at z; exact z), Or.inl w⟩)) (fun w => br_t rfl (cx_go G h (fun k => br_f cr_10 (h1 ⟨i, h, (by rw [cp] at z; exact z), Or.inr k⟩)) (fun k => br_t rfl (nm_r (nI_1 i) (next (fun q => q.2.elim (fun q => by rw [w] at q; exact absurd q (by decide)) k)))))))) (fun z => br_t rfl (nm_r (nI_1 i) (next (fun q => by rw [cp] at z; rw [z] at q; exact absurd q.1 (by decide)))))⟩
    · have e : i = lv := by omega
      subst e
      exact br_t (nI_le (Nat.le_refl i) (by omega)) (h0 (fun ⟨q, q1, q2⟩ => hq q q1 q2))
theorem cy_a56 {post : Int32 → SY → Prop} {J : Int32 → Int32 → Prop} {x p : Nat} {P0 : Prop} (Q : cr_yt lv h N K A B S ln ls lea lno sk ki lf rg) (M : cr_mo lv ls tp lea mo) (hl : lv ≤ 12) (hN : N ≤ 260) (hlN : ∀ p, p < lv → ln p < N) (hp : p < lv) (hx : x < 8)
    (H : ∀ r, (r = 0 ∨ r = 1) → (¬ r = 0 ↔ P0 ∨ ∃ w, 1 ≤ w ∧ w ≤ tp p ∧ cr_V ma mo hy tp (fun p => ¬ be (ln p) = 0) x p w) → J r (nI (p + 1))) :
    ∀ m v r, tp p + 1 - v < m → 1 ≤ v → v ≤ tp p + 1 → (r = 0 ∨ r = 1) → (¬ r = 0 ↔ P0 ∨ ∃ w, 1 ≤ w ∧ w < v ∧ cr_V ma mo hy tp (fun p => ¬ be (ln p) = 0) x p w) →
    wY_allowed_56 post J (nI x) (nI p) (nI (tp p)) yM yC yP yT yL yN yR yG yH yX ma lea mo lno sk ki lf rg hy nx be dn m r (nI v) := by
  obtain ⟨m1, m2, m3, m4, m5⟩ := M p hp
  intro m
  induction m with
  | zero => intro v r h; omega
  | succ m ih =>
    intro v r hm v1 v2 r01 hr
    rcases Nat.lt_or_ge (tp p) v with hlt | hge
    · refine br_t (nI_lt hlt (by omega)) (nm_r (nI_1 p) (H r r01 (hr.trans ⟨fun k => k.elim Or.inl (fun ⟨w, w1, w2, w3⟩ => Or.inr ⟨w, w1, by omega, w3⟩), fun k => k.elim Or.inl (fun ⟨w, w1, w2, w3⟩ => Or.inr ⟨w, w1, by omega, w3⟩)⟩)))
    · refine br_f (nI_nlt hge (by omega)) (cy_fol Q M hl hN hlN hp hx v1 (by omega) (fun z => br_f cr_10 (nm_r (nI_1 v) (ih (v + 1) 1 (by omega) (by omega) (by omega) (Or.inr rfl) ⟨fun _ => Or.inr ⟨v, v1, by omega, z⟩, fun _ => cr_10⟩))) (fun z => br_t rfl (nm_r (nI_1 v) (ih (v + 1) r (by omega) (by omega) (by omega) r01 (hr.trans ?_)))))
      constructor
      · rintro (k | ⟨w, w1, w2, w3⟩)
        · exact Or.inl k
        · exact Or.inr ⟨w, w1, by omega, w3⟩
      · rintro (k | ⟨w, w1, w2, w3⟩)
        · exact Or.inl k
        · by_cases e : w = v
          · subst e; exact absurd w3 z
          · exact Or.inr ⟨w, w1, by omega, w3⟩
theorem cy_a27 {post : Int32 → SY → Prop} {x : Nat} (Q : cr_yt lv h N K A B S ln ls lea lno sk ki lf rg) (M : cr_mo lv ls tp lea mo) (hl : lv ≤ 12) (hN : N ≤ 260) (hlN : ∀ p, p < lv → ln p < N) (hx : x < 8)
    (H : ∀ r, (r = 0 ∨ r = 1) → (¬ r = 0 ↔ ∃ q, q < lv ∧ ∃ w, 1 ≤ w ∧ w ≤ tp q ∧ cr_V ma mo hy tp (fun p => ¬ be (ln p) = 0) x q w) → post r (yM, yC, yP, yT, nI lv, yN, yR, yG, yH, yX, ma, lea, mo, lno, sk, ki, lf, rg, hy, nx, be, dn)) :
    ∀ m p r, lv - p < m → p ≤ lv → (r = 0 ∨ r = 1) → (¬ r = 0 ↔ ∃ q, q < p ∧ ∃ w, 1 ≤ w ∧ w ≤ tp q ∧ cr_V ma mo hy tp (fun p => ¬ be (ln p) = 0) x q w) →
    wY_allowed_27 post (nI x) yM yC yP yT (nI lv) yN yR yG yH yX ma lea mo lno sk ki lf rg hy nx be dn m r (nI p) := by
  intro m
  induction m with
  | zero => intro p r h; omega
  | succ m ih =>
    intro p r hm hp r01 hr
    rcases Nat.lt_or_ge p lv with hlt | hge
    · have hi : vp_in (nI p) 12 := vp_in_nI (by omega) (by decide)
      have cp : (nI p).toNatClampNeg = p := nI_clamp (by omega)
      have o1 : lv - (p + 1) < m := by clear hr; omega
      refine br_f (nI_ge hlt (by omega)) ⟨hi, hi, ?_⟩
      rw [cp]
      refine cy_top M hlt ⟨tp p + 1, cy_a56 (P0 := ∃ q, q < p ∧ ∃ w, 1 ≤ w ∧ w ≤ tp q ∧ cr_V ma mo hy tp (fun p => ¬ be (ln p) = 0) x q w) Q M hl hN hlN hlt hx (fun r' r01' hr' => ih (p + 1) r' o1 hlt r01' (hr'.trans ?_)) (tp p + 1) 1 r (by omega) (by omega) (by omega) r01 (hr.trans ⟨Or.inl, fun k => k.elim id (fun ⟨w, w1, w2, _⟩ => by omega)⟩)⟩
      constructor
      · rintro (⟨q, q1, q2⟩ | k)
        · exact ⟨q, by omega, q2⟩
        · exact ⟨p, by omega, k⟩
      · rintro ⟨q, q1, q2⟩
        by_cases e : q = p
        · subst e; exact Or.inr q2
        · exact Or.inl ⟨q, by omega, q2⟩
    · have e : p = lv := by omega
      subst e
      exact br_t (nI_le hge (by omega)) ⟨cr_nn r01, H r r01 hr⟩
theorem cy_al {post : Int32 → SY → Prop} {x : Nat} (T : cr_tr lv (h + 1) N K A B S ln ls par E F L) (Q : cr_yt lv (h + 1) N K A B S ln ls lea lno sk ki lf rg) (M : cr_mo lv ls tp lea mo) (hN : N ≤ 260) (hl : lv ≤ 12) (hh : h < 16) (b01 : cr_01 be) (d01 : cr_01 dn) (hx : x < 8)
    (H : ∀ be' dn' yX' r, cr_01 be' → cr_01 dn' → (r = 0 ∨ r = 1) → (¬ r = 0 ↔ ∃ q, q < lv ∧ ∃ w, 1 ≤ w ∧ w ≤ tp q ∧ cr_V ma mo hy tp (cr_en (cr_ys yP yG) (S h) N K A B F L (cr_cy lv hy ls)) x q w) → post r (yM, yC, yP, nI (h + 1), nI lv, nI N, yR, yG, yH, yX', ma, lea, mo, lno, sk, ki, lf, rg, hy, nx, be', dn')) :
    wpY_allowed post (yM, yC, yP, nI (h + 1), nI lv, nI N, yR, yG, yH, yX, ma, lea, mo, lno, sk, ki, lf, rg, hy, nx, be, dn) (nI x) := by
  have hs : ∀ p, p < lv → ls p ≤ 224 := fun p hp => by have := M p hp; omega
  refine br_f (nI_pos (by omega)) (br_f (nI_nlt (a := 7) (by omega) (by omega)) (br_f (nI_ne0 (by omega) (by omega)) (cy_sp T Q hN hl hh hs b01 d01 (fun be' dn' yX' b' d' r1 r2 => ?_))))
  refine ⟨lv + 1, cy_a27 (yT := nI (h + 1)) (yN := nI N) (be := be') Q M hl hN (fun p hp => (T.2.2 p hp).1) hx (fun r r01 hr => H be' dn' yX' r b' d' r01 (hr.trans ?_)) (lv + 1) 0 0 (by omega) (by omega) (Or.inl rfl) ⟨fun k => absurd rfl k, fun ⟨q, q1, _⟩ => by omega⟩⟩
  constructor
  · rintro ⟨q, q1, w, w1, w2, w3⟩
    exact ⟨q, q1, w, w1, w2, (cr_Vc r2 q1).mp w3⟩
  · rintro ⟨q, q1, w, w1, w2, w3⟩
    exact ⟨q, q1, w, w1, w2, (cr_Vc r2 q1).mpr w3⟩
/-! Y drops all -/
theorem cy_drl {post : SY → Prop} (H : ∀ g, cr_01 g → (∀ j, j < 2700 → g j = 0) → post (yM, yC, yP, yT, yL, yN, yR, yG, yH, yX, ma, lea, mo, lno, sk, ki, lf, rg, g, nx, be, dn)) : ∀ m i g, 2700 - i < m → i ≤ 2700 → cr_01 g → (∀ j, j < i → g j = 0) → wY_dropAll_2 post yM yC yP yT yL yN yR yG yH yX m (nI i) ma lea mo lno sk ki lf rg g nx be dn := by
  intro m
  induction m with
  | zero => intro i g h; omega
  | succ m ih =>
    intro i g hm hi h01 hj
    rcases Nat.lt_or_ge i 2700 with hlt | hge
    · refine br_f (nI_ge (b := 2700) hlt (by decide)) ⟨vp_in_nI hlt (by decide), nm_r (cr_ub0 (by omega)) (nm_r (nI_1 i) (ih (i + 1) _ (by omega) (by omega) (cr_01u h01 (Or.inl rfl)) (fun j hj' => ?_)))⟩
      by_cases e : j = i
      · subst e; exact pk_us
      · rw [pk_un e]; exact hj j (by omega)
    · exact br_t (nI_le (a := 2700) hge (by omega)) (H g h01 (fun j hj' => hj j (by omega)))
theorem cy_dr {post : SY → Prop} (h01 : cr_01 hy) (H : ∀ g, cr_01 g → (∀ j, j < 2700 → g j = 0) → post (yM, yC, yP, yT, yL, yN, yR, yG, yH, yX, ma, lea, mo, lno, sk, ki, lf, rg, g, nx, be, dn)) : wpY_dropAll post (yM, yC, yP, yT, yL, yN, yR, yG, yH, yX, ma, lea, mo, lno, sk, ki, lf, rg, hy, nx, be, dn) :=
  ⟨2701, cy_drl H 2701 0 hy (by omega) (by omega) h01 (fun j hj => by omega)⟩
end CRQ
