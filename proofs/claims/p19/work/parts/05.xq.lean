section CRQ
variable {xL xW xP xT xC xR xN xH : Int32} {aC aL aT aE aB aF iE iF iL hx : Nat → Int32} {lv h rm li ce : Nat} {ls tp bs : Nat → Nat}
def cr_ct (b : Nat → Int32) : Nat → Nat
  | 0 => 0
  | n + 1 => cr_ct b n + (if b n = 0 then 0 else 1)
theorem cr_ct_le (b : Nat → Int32) : ∀ n, cr_ct b n ≤ n := by
  intro n
  induction n with
  | zero => exact Nat.le_refl 0
  | succ n ih =>
    show cr_ct b n + (if b n = 0 then 0 else 1) ≤ n + 1
    split <;> omega
theorem cr_ctc {f g : Nat → Int32} : ∀ n, (∀ j, j < n → f j = g j) → cr_ct f n = cr_ct g n := by
  intro n
  induction n with
  | zero => exact fun _ => rfl
  | succ n ih =>
    intro hj
    show cr_ct f n + (if f n = 0 then 0 else 1) = cr_ct g n + (if g n = 0 then 0 else 1)
    rw [ih (fun j h => hj j (by omega)), hj n (by omega)]
theorem cr_ctz {f : Nat → Int32} {n : Nat} : ∀ d, (∀ j, n ≤ j → j < n + d → f j = 0) → cr_ct f (n + d) = cr_ct f n := by
  intro d
  induction d with
  | zero => exact fun _ => rfl
  | succ d ih =>
    intro hj
    show cr_ct f (n + d) + (if f (n + d) = 0 then 0 else 1) = cr_ct f n
    rw [ih (fun j a b => hj j a (by omega)), hj (n + d) (by omega) (by omega), if_pos rfl, Nat.add_zero]
theorem cx_szl {post : Int32 → Prop} {p : Nat} (G : cr_lf lv ls tp bs aL aT aE aB) (hp : p < lv) (H : post (nI (cr_ct (fun j => hx (bs p + j)) (tp p)))) : ∀ n i, tp p - i < n → i ≤ tp p →
    wX_size_14 post (nI p) xL xW xP xT xC xR xN xH aC aL aT aE aB aF iE iF iL hx n (nI (cr_ct (fun j => hx (bs p + j)) i)) (nI (i + 1)) := by
  obtain ⟨g1, g2, g3⟩ := G
  obtain ⟨eL, eT, eB, eE, t1, t2, t3⟩ := g2 p hp
  have hi : vp_in (nI p) 12 := vp_in_nI (by omega) (by decide)
  have cp : (nI p).toNatClampNeg = p := nI_clamp (by omega)
  intro n
  induction n with
  | zero => intro i h; omega
  | succ n ih =>
    intro i hn hit
    rcases Nat.lt_or_ge i (tp p) with h | h
    · have e : ((aB (nI p).toNatClampNeg) + nI (i + 1)) - 1 = nI (bs p + i) := cr_cell (aB := aB) (show p < 12 by omega) eB (by omega)
      have ce : (nI (bs p + i)).toNatClampNeg = bs p + i := nI_clamp (by omega)
      have hv : vp_in (((aB (nI p).toNatClampNeg) + nI (i + 1)) - 1) 224 := by rw [e]; exact vp_in_nI (by omega) (by decide)
      have ih' := ih (i + 1) (by omega) (by omega)
      have es : cr_ct (fun j => hx (bs p + j)) (i + 1) = cr_ct (fun j => hx (bs p + j)) i + (if hx (bs p + i) = 0 then 0 else 1) := rfl
      refine ⟨hi, br_f (by rw [cp, eT]; exact nI_nlt (by omega) (by omega)) ⟨hi, hv, ?_⟩⟩
      by_cases z : hx (bs p + i) = 0
      · rw [es, if_pos z, Nat.add_zero] at ih'
        exact br_t (by rw [e, ce]; exact z) (nm_r (nI_1 (i + 1)) ih')
      · rw [es, if_neg z] at ih'
        exact br_f (by rw [e, ce]; exact z) (nm_r (nI_1 _) (nm_r (nI_1 (i + 1)) ih'))
    · have e : i = tp p := by omega
      subst e
      exact ⟨hi, br_t (by rw [cp, eT]; exact nI_lt (by omega) (by omega)) H⟩
def cr_mx (f : Nat → Int32) (n m : Nat) : Prop := m ≤ n ∧ (m = 0 ∨ ¬ f m = 0) ∧ ∀ v, m < v → v ≤ n → f v = 0
def cr_mn (f : Nat → Int32) (n m : Nat) : Prop := (m = 0 ∧ ∀ v, 1 ≤ v → v ≤ n → f v = 0) ∨ (1 ≤ m ∧ m ≤ n ∧ ¬ f m = 0 ∧ ∀ v, 1 ≤ v → v < m → f v = 0)
theorem cx_lgl {post : Int32 → Prop} {p : Nat} (G : cr_lf lv ls tp bs aL aT aE aB) (hp : p < lv) (H : ∀ m, cr_mx (fun v => hx (bs p + v - 1)) (tp p) m → post (nI m)) : ∀ i n, i < n → i ≤ tp p → (∀ v, i < v → v ≤ tp p → hx (bs p + v - 1) = 0) →
    wX_largest_17 post (nI p) xL xW xP xT xC xR xN xH aC aL aT aE aB aF iE iF iL hx n (nI i) := by
  obtain ⟨g1, g2, g3⟩ := G
  obtain ⟨eL, eT, eB, eE, t1, t2, t3⟩ := g2 p hp
  have hi : vp_in (nI p) 12 := vp_in_nI (by omega) (by decide)
  intro i
  induction i with
  | zero =>
    intro n hn hit h0
    obtain ⟨n, rfl⟩ : ∃ n', n = n' + 1 := ⟨n - 1, by omega⟩
    exact br_t (by decide) (H 0 ⟨by omega, Or.inl rfl, h0⟩)
  | succ i ih =>
    intro n hn hit h0
    obtain ⟨n, rfl⟩ : ∃ n', n = n' + 1 := ⟨n - 1, by omega⟩
    have e := cr_cell (aB := aB) (a := i + 1) (show p < 12 by omega) eB (by omega)
    have ce : (nI (bs p + (i + 1) - 1)).toNatClampNeg = bs p + (i + 1) - 1 := nI_clamp (by omega)
    refine br_f (nI_nlt (b := 1) (by omega) (by omega)) ⟨hi, (by rw [e]; exact vp_in_nI (by omega) (by decide)), ?_⟩
    by_cases z : hx (bs p + (i + 1) - 1) = 0
    · refine br_t (by rw [e, ce]; exact z) (nm_r (pk_m1 i) (ih n (by omega) (by omega) (fun v v1 v2 => ?_)))
      by_cases ev : v = i + 1
      · subst ev; exact z
      · exact h0 v (by omega) v2
    · exact br_f (by rw [e, ce]; exact z) (H (i + 1) ⟨hit, Or.inr z, h0⟩)
theorem cx_sml {post : Int32 → Prop} {p : Nat} (G : cr_lf lv ls tp bs aL aT aE aB) (hp : p < lv) (H : ∀ m, cr_mn (fun v => hx (bs p + v - 1)) (tp p) m → post (nI m)) : ∀ n i, tp p + 1 - i < n → 1 ≤ i → i ≤ tp p + 1 → (∀ v, 1 ≤ v → v < i → hx (bs p + v - 1) = 0) →
    wX_smallest_12 post (nI p) xL xW xP xT xC xR xN xH aC aL aT aE aB aF iE iF iL hx n (nI i) := by
  obtain ⟨g1, g2, g3⟩ := G
  obtain ⟨eL, eT, eB, eE, t1, t2, t3⟩ := g2 p hp
  have hi : vp_in (nI p) 12 := vp_in_nI (by omega) (by decide)
  have cp : (nI p).toNatClampNeg = p := nI_clamp (by omega)
  intro n
  induction n with
  | zero => intro i h; omega
  | succ n ih =>
    intro i hn i1 hit h0
    rcases Nat.lt_or_ge (tp p) i with h | h
    · exact ⟨hi, br_t (by rw [cp, eT]; exact nI_lt h (by omega)) (H 0 (Or.inl ⟨rfl, fun v v1 v2 => h0 v v1 (by omega)⟩))⟩
    · have e := cr_cell (aB := aB) (show p < 12 by omega) eB i1
      have ce : (nI (bs p + i - 1)).toNatClampNeg = bs p + i - 1 := nI_clamp (by omega)
      refine ⟨hi, br_f (by rw [cp, eT]; exact nI_nlt h (by omega)) ⟨hi, (by rw [e]; exact vp_in_nI (by omega) (by decide)), ?_⟩⟩
      by_cases z : hx (bs p + i - 1) = 0
      · refine br_t (by rw [e, ce]; exact z) (nm_r (nI_1 i) (ih (i + 1) (by omega) (by omega) (by omega) (fun v v1 v2 => ?_)))
        by_cases ev : v = i
        · subst ev; exact z
        · exact h0 v v1 (by omega)
      · exact br_f (by rw [e, ce]; exact z) (H i (Or.inr ⟨i1, h, z, h0⟩))
theorem cr_clamp (x : Int32) {a b : Nat} (hab : a ≤ b) (hb : b < 2 ^ 31) : ∃ j, a ≤ j ∧ j ≤ b ∧ ∀ P : Int32 → Prop, P (nI j) → ((nI a ≤ x → ((x ≤ nI b → P x) ∧ (¬ x ≤ nI b → P (nI b)))) ∧ (¬ nI a ≤ x → P (nI a))) := by
  by_cases h : nI a ≤ x
  · by_cases h2 : x ≤ nI b
    · have h0 : ¬ x < 0 := Int32.not_lt.mpr (Int32.le_trans (nI_pos' (by omega)) h)
      obtain ⟨j, hj, rfl⟩ := nI_of h0
      rw [nI_leI (by omega) hj] at h
      rw [nI_leI hj hb] at h2
      exact ⟨j, h, h2, fun P p => br_t (nI_le h hj) (br_t (nI_le h2 hb) p)⟩
    · exact ⟨b, hab, Nat.le_refl b, fun P p => br_t h (br_f h2 p)⟩
  · exact ⟨a, Nat.le_refl a, hab, fun P p => br_f h p⟩
theorem cx_so {post : St2 → Prop} (h01 : cr_01 hx) (H : ∀ g, cr_01 g → (∀ j, j < 224 → g j = 0) → post (nI li, nI ce, 0, 0, 0, nI ce, 0, -1, aC, aL, aT, aE, aB, aF, iE, iF, iL, g)) : wpX_startOver post (nI li, nI ce, xP, xT, xC, xR, xN, xH, aC, aL, aT, aE, aB, aF, iE, iF, iL, hx) :=
  cx_dr (xN := xN) (xH := xH) h01 H
theorem cx_bf {post : Int32 → Prop} {w : Int32} {l t : Nat} (hl2 : l < 2 ^ 31) (ht2 : t < 2 ^ 31) (t1 : 1 ≤ t) (hl : l ≤ t) (hw : w = -1 ∨ (¬ w = -1 ∧ w = nI t)) (H : post 1) : wpX_boundsFit post () (nI l) w := by
  refine br_t (nI_pos' hl2) ?_
  rcases hw with z | ⟨z, z2⟩
  · exact br_t z H
  · exact br_f z (br_f (by rw [z2]; exact nI_nlt (b := 1) t1 ht2) (br_f (by rw [z2]; exact nI_nlt hl ht2) H))
def cr_w (w : Int32) (l t : Nat) : Prop := (w = -1 ∧ ((l ≤ 1 ∧ t = 1) ∨ (1 < l ∧ t = l))) ∨ (¬ w = -1 ∧ w = nI t)
theorem cr_wt {w : Int32} {l t : Nat} (h : cr_w w l t) : w = -1 ∨ (¬ w = -1 ∧ w = nI t) := h.elim (fun k => Or.inl k.1) Or.inr
theorem cx_to {post : Int32 → Prop} {w : Int32} {l t : Nat} (hl2 : l < 2 ^ 31) (hw : cr_w w l t) (H : post (nI t)) : wpX_topOf post () (nI l) w := by
  rcases hw with ⟨z, z2⟩ | ⟨z, z2⟩
  · refine br_t z (pk_le l 1 (fun q => ?_) (fun q => ?_))
    · rw [show t = 1 by omega] at H; exact H
    · rw [show t = l by omega] at H; exact H
  · rw [← z2] at H
    exact br_f z H
theorem cx_leaf {post : Int32 → St2 → Prop} {m w : Int32} {l t : Nat} (h12 : lv < li) (li12 : li ≤ 12) (hh : h ≤ lv) (hc : rm ≤ ce) (hc2 : ce ≤ 224) (t1 : 1 ≤ t) (ht : t ≤ rm) (hl : l ≤ t) (m1 : ¬ m < 1) (m2 : ¬ 255 < m) (hw : cr_w w l t)
    (H : ∀ e z : Int32, (e = 0 ∨ e = 1) → (¬ e = 0 ↔ w = -1) → (¬ z = 0 ↔ l = 0) → post (nI lv) (nI li, nI ce, 0, nI (h + 1), nI (lv + 1), nI (rm - t), xN, xH, upd aC lv m, upd aL lv (nI l), upd aT lv (nI t), upd aE lv e, upd aB lv (nI (ce - rm)), upd aF lv 0, upd iE h z, upd iF h ((1 : Int32) <<< (nI lv &&& 31)), upd iL h ((1 : Int32) <<< (nI lv &&& 31)), hx)) :
    wpX_leaf post (nI li, nI ce, 0, nI h, nI lv, nI rm, xN, xH, aC, aL, aT, aE, aB, aF, iE, iF, iL, hx) m (nI l) w := by
  have il : vp_in (nI lv) 12 := vp_in_nI (by omega) (by decide)
  have ih : vp_in (nI h) 12 := vp_in_nI (by omega) (by decide)
  have l151 : ∀ e z : Int32, (e = 0 ∨ e = 1) → (¬ e = 0 ↔ w = -1) → (z = 0 ∨ z = 1) → (¬ z = 0 ↔ l = 0) → wX_leaf_151 post (nI t) (nI lv) z (nI h) (nI li) (nI ce) 0 (nI h) (nI lv) (nI rm) xN xH (upd aC lv m) (upd aL lv (nI l)) (upd aT lv (nI t)) (upd aE lv e) (upd aB lv (nI (ce - rm))) (upd aF lv 0) iE iF iL hx := by
    intro e z he hee hz hzz
    exact ⟨ih, nm_r (cr_ub (by omega) hz) ⟨ih, nm_r (cr_ui (by omega)) ⟨ih, nm_r (cr_ui (by omega)) (nm_r (nI_1 h) (nm_r (nI_1 lv) (nm_r (pk_sub ht) (H e z he hee hzz))))⟩⟩⟩
  have l109 : ∀ e : Int32, (e = 0 ∨ e = 1) → (¬ e = 0 ↔ w = -1) → wX_leaf_109 post (nI l) (nI t) (nI lv) e (nI lv) (nI li) (nI ce) 0 (nI h) (nI lv) (nI rm) xN xH (upd aC lv m) (upd aL lv (nI l)) (upd aT lv (nI t)) aE aB aF iE iF iL hx := by
    intro e he hee
    refine ⟨il, nm_r (cr_ub (by omega) he) ⟨il, nm_r (e' := upd aB lv (nI (ce - rm))) (by rw [nI_clamp (by omega), pk_sub hc]) ⟨il, nm_r (cr_ui (by omega)) (pk_eq l 0 (fun z => ?_) (fun z => ?_))⟩⟩⟩
    · exact l151 e 1 he hee (Or.inr rfl) ⟨fun _ => z, fun _ => cr_10⟩
    · exact l151 e 0 he hee (Or.inl rfl) ⟨fun q => absurd rfl q, fun q => absurd q z⟩
  refine br_t rfl (br_f m1 (br_f m2 (cx_bf (by omega) (by omega) t1 hl (cr_wt hw) (br_f cr_10 (cx_to (by omega) hw (br_f (nI_ge h12 (by omega)) (br_t (nI_le ht (by omega)) ⟨il, nm_r (cr_ui (by omega)) ⟨il, nm_r (cr_ui (by omega)) ⟨il, nm_r (cr_ui (by omega)) ?_⟩⟩⟩)))))))
  by_cases z : w = -1
  · exact br_t z (l109 1 (Or.inr rfl) ⟨fun _ => z, fun _ => cr_10⟩)
  · exact br_f z (l109 0 (Or.inl rfl) ⟨fun q => absurd rfl q, fun q => absurd q z⟩)
end CRQ
