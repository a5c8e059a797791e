section CRO
/-! owed: the start, clear, leaf, op -/
theorem i_up {k : Nat} {u : SX} {v : SY} (h : i_Rel k u v) : i_Rel (k + 4) u v := h
theorem cr_clamp (x : Int32) {a b : Nat} (hab : a ≤ b) (hb : b < 2 ^ 31) : ∃ j, a ≤ j ∧ j ≤ b ∧ ∀ P : Int32 → Prop, P (nI j) → ((nI a ≤ x → ((x ≤ nI b → P x) ∧ (¬ x ≤ nI b → P (nI b)))) ∧ (¬ nI a ≤ x → P (nI a))) := by
  by_cases h : nI a ≤ x
  · by_cases h2 : x ≤ nI b
    · have h0 : ¬ x < 0 := Int32.not_lt.mpr (Int32.le_trans (nI_pos' (by omega)) h)
      obtain ⟨j, hj, rfl⟩ := nI_of h0
      rw [nI_leI (by omega) hj] at h
      rw [nI_leI hj hb] at h2
      exact ⟨j, h, h2, fun P p => br_t (nI_le h hj) (br_t (nI_le h2 hb) p)⟩
    · exact ⟨b, hab, Nat.le_refl b, fun P p => br_t h (br_f h2 p)⟩
  · exact ⟨a, Nat.le_refl a, hab, fun P p => br_f h p⟩
variable {k li ce rm lv h N len : Nat} {K A B S ln ls tp bs par : Nat → Nat} {E : Nat → Prop} {F L : Nat → Nat → Prop} {ph hit yX : Int32} {aC aL aT aE aB aF iE iF iL hx mo lno sk ki lf rg hy nx be dn : Nat → Int32}
variable {xP xT xC xR xN xH yM yC yP yT yL yN yR yG yH : Int32} {ma lea : Nat → Int32}
theorem cx_so {post : SX → Prop} (h01 : cr_01 hx) (H : ∀ g, cr_01 g → (∀ j, j < 224 → g j = 0) → post (nI li, nI ce, 0, 0, 0, nI ce, 0, -1, aC, aL, aT, aE, aB, aF, iE, iF, iL, g)) : wpX_startOver post (nI li, nI ce, xP, xT, xC, xR, xN, xH, aC, aL, aT, aE, aB, aF, iE, iF, iL, hx) :=
  cx_dr (xN := xN) (xH := xH) h01 H
theorem cy_cl {post : SY → Prop} (h01 : cr_01 hy) (H : ∀ g, cr_01 g → (∀ j, j < 2700 → g j = 0) → post (nI li, nI ce, 0, 0, 0, 0, nI ce, 0, -1, yX, ma, lea, mo, lno, sk, ki, lf, rg, g, nx, be, dn)) : wpY_clear post (nI li, nI ce, yP, yT, yL, yN, yR, yG, yH, yX, ma, lea, mo, lno, sk, ki, lf, rg, hy, nx, be, dn) :=
  cy_dr h01 H
theorem cr_z01 : cr_01 (fun _ => 0) := fun _ => Or.inl rfl
theorem i_vc0 (k0 : Int32) (k1 : Int32) : wpX_init (fun u => wpY_init (fun v => i_Rel 2 u v) k0 k1) k0 k1 := by
  obtain ⟨li, l1, l2, hl⟩ := cr_clamp k0 (a := 2) (b := 12) (by decide) (by decide)
  obtain ⟨ce, c1, c2, hc⟩ := cr_clamp k1 (a := 8) (b := 224) (by decide) (by decide)
  refine hl (fun r => wpX_clamped (fun r_2 => wpX_startOver (fun u => match u with | (xL, xW, xP, xT, xC, xR, xN, xH, aC, aL, aT, aE, aB, aF, iE, iF, iL, hx) => (fun u => wpY_init (fun v => i_Rel 2 u v) k0 k1) (xL, xW, xP, xT, xC, xR, xN, xH, aC, aL, aT, aE, aB, aF, iE, iF, iL, hx)) (r, r_2, 0, 0, 0, 0, 0, 0, (fun _ => 0), (fun _ => 0), (fun _ => 0), (fun _ => 0), (fun _ => 0), (fun _ => 0), (fun _ => 0), (fun _ => 0), (fun _ => 0), (fun _ => 0))) k1 8 224) ?_
  refine hc (fun r => wpX_startOver (fun u => match u with | (xL, xW, xP, xT, xC, xR, xN, xH, aC, aL, aT, aE, aB, aF, iE, iF, iL, hx) => (fun u => wpY_init (fun v => i_Rel 2 u v) k0 k1) (xL, xW, xP, xT, xC, xR, xN, xH, aC, aL, aT, aE, aB, aF, iE, iF, iL, hx)) (nI li, r, 0, 0, 0, 0, 0, 0, (fun _ => 0), (fun _ => 0), (fun _ => 0), (fun _ => 0), (fun _ => 0), (fun _ => 0), (fun _ => 0), (fun _ => 0), (fun _ => 0), (fun _ => 0))) ?_
  refine cx_so cr_z01 (fun g x01 x0 => ?_)
  refine hl (fun r => wY_init_129 _ k1 r _ _ _ _ _ _ _ _ _ _ _ _ _ _ _ _ _ _ _ _ _ _) ?_
  refine hc (fun r => wY_init_158 _ r _ _ _ _ _ _ _ _ _ _ _ _ _ _ _ _ _ _ _ _ _ _) ?_
  refine cy_cl cr_z01 (fun g' y01 y0 => ?_)
  exact cr_mk (rm := ce) (lv := 0) (h := 0) (N := 0) (len := 0) (K := fun _ => 0) (A := fun _ => 0) (B := fun _ => 0) (S := fun _ => 0) (ln := fun _ => 0) (ls := fun _ => 0) (tp := fun _ => 0) (bs := fun _ => 0) (par := fun _ => 0) (E := fun _ => True) (F := fun _ _ => True) (L := fun _ _ => True)
    (cr_S0 l1 l2 c1 c2) (cr_D0 x01 y01 cr_z01 cr_z01 x0 y0)
theorem i_vc_clear {k : Nat} {u : SX} {v : SY} (I : i_Rel k u v) (hk : k + 4 ≤ 2050) : wpX_clear (fun u' => wpY_clear (fun v' => i_Rel (k + 4) u' v') v) u := by
  obtain ⟨li, ce, rm, lv, h, N, len, K, A, B, S, ln, ls, tp, bs, par, E, F, L, ph, hit, yX, aC, aL, aT, aE, aB, aF, iE, iF, iL, hx, mo, lno, sk, ki, lf, rg, hy, nx, be, dn, rfl, rfl, HS, HD⟩ := I
  obtain ⟨⟨n1, n2, n3, n4, n5, n6, n7, n8⟩, _⟩ := HS
  unfold wpX_clear
  refine cx_so HD.2.1 (fun g x01 x0 => ?_)
  refine cy_cl HD.2.2.1 (fun g' y01 y0 => ?_)
  exact cr_mk (rm := ce) (lv := 0) (h := 0) (N := 0) (len := 0) (K := fun _ => 0) (A := fun _ => 0) (B := fun _ => 0) (S := fun _ => 0) (ln := fun _ => 0) (ls := fun _ => 0) (tp := fun _ => 0) (bs := fun _ => 0) (par := fun _ => 0) (E := fun _ => True) (F := fun _ _ => True) (L := fun _ _ => True)
    (cr_S0 n1 n2 n3 n4) (cr_D0 x01 y01 HD.2.2.2.1 HD.2.2.2.2.1 x0 y0)
/-! leaf -/
theorem cx_bf {post : Int32 → Prop} {w : Int32} {l t : Nat} (hl2 : l < 2 ^ 31) (ht2 : t < 2 ^ 31) (t1 : 1 ≤ t) (hl : l ≤ t) (hw : w = -1 ∨ (¬ w = -1 ∧ w = nI t)) (H : post 1) : wpX_boundsFit post (nI l) w := by
  refine br_t (nI_pos' hl2) ?_
  rcases hw with z | ⟨z, z2⟩
  · exact br_t z H
  · exact br_f z (br_f (by rw [z2]; exact nI_nlt (b := 1) t1 ht2) (br_f (by rw [z2]; exact nI_nlt hl ht2) H))
def cr_w (w : Int32) (l t : Nat) : Prop := (w = -1 ∧ ((l ≤ 1 ∧ t = 1) ∨ (1 < l ∧ t = l))) ∨ (¬ w = -1 ∧ w = nI t)
theorem cr_wt {w : Int32} {l t : Nat} (h : cr_w w l t) : w = -1 ∨ (¬ w = -1 ∧ w = nI t) := h.elim (fun k => Or.inl k.1) Or.inr
theorem cx_to {post : Int32 → Prop} {w : Int32} {l t : Nat} (hl2 : l < 2 ^ 31) (hw : cr_w w l t) (H : post (nI t)) : wpX_topOf post (nI l) w := by
  rcases hw with ⟨z, z2⟩ | ⟨z, z2⟩
  · refine br_t z (pk_le l 1 (fun q => ?_) (fun q => ?_))
    · rw [show t = 1 by omega] at H; exact H
    · rw [show t = l by omega] at H; exact H
  · rw [← z2] at H
    exact br_f z H
theorem cx_leafF {post : Int32 → SX → Prop} {m w : Int32} {l t : Nat} (hl2 : l < 2 ^ 31) (ht2 : t < 2 ^ 31) (t1 : 1 ≤ t) (hl : l ≤ t) (m1 : ¬ m < 1) (m2 : ¬ 255 < m) (hw : cr_w w l t) (hlv : lv < 2 ^ 31) (hli : li < 2 ^ 31) (hrm : rm < 2 ^ 31)
    (hf : li ≤ lv ∨ rm < t) (H : post (-3) (nI li, nI ce, 0, nI h, nI lv, nI rm, xN, xH, aC, aL, aT, aE, aB, aF, iE, iF, iL, hx)) : wpX_leaf post (nI li, nI ce, 0, nI h, nI lv, nI rm, xN, xH, aC, aL, aT, aE, aB, aF, iE, iF, iL, hx) m (nI l) w := by
  refine br_t rfl (br_f m1 (br_f m2 (cx_bf hl2 ht2 t1 hl (cr_wt hw) (br_f cr_10 (cx_to hl2 hw (pk_le li lv (fun _ => H) (fun z => ?_)))))))
  exact pk_le t rm (fun q => by omega) (fun _ => H)
theorem cx_leaf {post : Int32 → SX → Prop} {m w : Int32} {l t : Nat} (h12 : lv < li) (li12 : li ≤ 12) (hh : h ≤ lv) (hc : rm ≤ ce) (hc2 : ce ≤ 224) (t1 : 1 ≤ t) (ht : t ≤ rm) (hl : l ≤ t) (m1 : ¬ m < 1) (m2 : ¬ 255 < m) (hw : cr_w w l t)
    (H : ∀ e z : Int32, (e = 0 ∨ e = 1) → (¬ e = 0 ↔ w = -1) → (¬ z = 0 ↔ l = 0) → post (nI lv) (nI li, nI ce, 0, nI (h + 1), nI (lv + 1), nI (rm - t), xN, xH, upd aC lv m, upd aL lv (nI l), upd aT lv (nI t), upd aE lv e, upd aB lv (nI (ce - rm)), upd aF lv 0, upd iE h z, upd iF h ((1 : Int32) <<< (nI lv &&& 31)), upd iL h ((1 : Int32) <<< (nI lv &&& 31)), hx)) :
    wpX_leaf post (nI li, nI ce, 0, nI h, nI lv, nI rm, xN, xH, aC, aL, aT, aE, aB, aF, iE, iF, iL, hx) m (nI l) w := by
  have il : vp_in (nI lv) 12 := vp_in_nI (by omega) (by decide)
  have ih : vp_in (nI h) 12 := vp_in_nI (by omega) (by decide)
  have l151 : ∀ e z : Int32, (e = 0 ∨ e = 1) → (¬ e = 0 ↔ w = -1) → (z = 0 ∨ z = 1) → (¬ z = 0 ↔ l = 0) → wX_leaf_151 post (nI t) (nI lv) z (nI h) (nI li) (nI ce) 0 (nI h) (nI lv) (nI rm) xN xH (upd aC lv m) (upd aL lv (nI l)) (upd aT lv (nI t)) (upd aE lv e) (upd aB lv (nI (ce - rm))) (upd aF lv 0) iE iF iL hx := by
    intro e z he hee hz hzz
    exact ⟨ih, nm_r (cr_ub (by omega) hz) ⟨ih, nm_r (cr_ui (by omega)) ⟨ih, nm_r (cr_ui (by omega)) (nm_r (nI_1 h) (nm_r (nI_1 lv) (nm_r (pk_sub ht) (H e z he hee hzz))))⟩⟩⟩
  have l109 : ∀ e : Int32, (e = 0 ∨ e = 1) → (¬ e = 0 ↔ w = -1) → wX_leaf_109 post (nI l) (nI t) (nI lv) e (nI lv) (nI li) (nI ce) 0 (nI h) (nI lv) (nI rm) xN xH (upd aC lv m) (upd aL lv (nI l)) (upd aT lv (nI t)) aE aB aF iE iF iL hx := by
    intro e he hee
    refine ⟨il, nm_r (cr_ub (by omega) he) ⟨il, nm_r (e' := upd aB lv (nI (ce - rm))) (by rw [nI_clamp (by omega), pk_sub hc]) ⟨il, nm_r (cr_ui (by omega)) (pk_eq l 0 (fun z => ?_) (fun z => ?_))⟩⟩⟩
    · exact l151 e 1 he hee (Or.inr rfl) ⟨fun _ => z, fun _ => cr_10⟩
    · exact l151 e 0 he hee (Or.inl rfl) ⟨fun q => absurd rfl q, fun q => absurd q z⟩
  refine br_t rfl (br_f m1 (br_f m2 (cx_bf (by omega) (by omega) t1 hl (cr_wt hw) (br_f cr_10 (cx_to (by omega) hw (br_f (nI_ge h12 (by omega)) (br_t (nI_le ht (by omega)) ⟨il, nm_r (cr_ui (by omega)) ⟨il, nm_r (cr_ui (by omega)) ⟨il, nm_r (cr_ui (by omega)) ?_⟩⟩⟩)))))))
  by_cases z : w = -1
  · exact br_t z (l109 1 (Or.inr rfl) ⟨fun _ => z, fun _ => cr_10⟩)
  · exact br_f z (l109 0 (Or.inl rfl) ⟨fun q => absurd rfl q, fun q => absurd q z⟩)
theorem cy_push {post : SY → Prop} {kd a b : Int32} (hN : N < 260) (hh : h < 16) (H : post (yM, yC, yP, nI (h + 1), yL, nI (N + 1), yR, yG, yH, yX, ma, lea, mo, lno, upd sk h (nI N), upd ki N kd, upd lf N a, upd rg N b, hy, nx, be, dn)) : wpY_push post (yM, yC, yP, nI h, yL, nI N, yR, yG, yH, yX, ma, lea, mo, lno, sk, ki, lf, rg, hy, nx, be, dn) kd a b := by
  have iN : vp_in (nI N) 260 := vp_in_nI hN (by decide)
  exact ⟨iN, nm_r (cr_ui (by omega)) ⟨iN, nm_r (cr_ui (by omega)) ⟨iN, nm_r (cr_ui (by omega)) ⟨vp_in_nI hh (by decide), nm_r (cr_ui (by omega)) (nm_r (nI_1 h) (nm_r (nI_1 N) H))⟩⟩⟩⟩
theorem cy_to {post : Int32 → Prop} {w : Int32} {l t : Nat} (hl2 : l < 2 ^ 31) (hw : cr_w w l t) (H : post (nI t)) : wpY_top post (yM, yC, yP, yT, yL, yN, yR, yG, yH, yX, ma, lea, mo, lno, sk, ki, lf, rg, hy, nx, be, dn) (nI l) w := by
  rcases hw with ⟨z, z2⟩ | ⟨z, z2⟩
  · refine br_t z (pk_le l 1 (fun q => ?_) (fun q => ?_))
    · rw [show t = 1 by omega] at H; exact H
    · rw [show t = l by omega] at H; exact H
  · rw [← z2] at H
    exact br_f z H
theorem cy_l46 {post : Int32 → SY → Prop} {m w : Int32} {l t : Nat} (hl2 : l < 2 ^ 31) (ht2 : t < 2 ^ 31) (t1 : 1 ≤ t) (hl : l ≤ t) (m1 : ¬ m < 1) (m2 : ¬ 255 < m) (hw : cr_w w l t) (H : wY_leaf_46 post m (nI l) w yM yC 0 yT yL yN yR yG yH yX ma lea mo lno sk ki lf rg hy nx be dn) : wpY_leaf post (yM, yC, 0, yT, yL, yN, yR, yG, yH, yX, ma, lea, mo, lno, sk, ki, lf, rg, hy, nx, be, dn) m (nI l) w := by
  refine br_t rfl (br_f m1 (br_f m2 (br_t (nI_pos' hl2) ?_)))
  rcases cr_wt hw with z | ⟨z, z2⟩
  · exact br_t z H
  · exact br_f z (br_f (by rw [z2]; exact nI_nlt (b := 1) t1 ht2) (br_t (by rw [z2]; exact nI_le hl ht2) H))
theorem cy_leafF {post : Int32 → SY → Prop} {m w : Int32} {l t : Nat} (hl2 : l < 2 ^ 31) (ht2 : t < 2 ^ 31) (t1 : 1 ≤ t) (hl : l ≤ t) (m1 : ¬ m < 1) (m2 : ¬ 255 < m) (hw : cr_w w l t) (hlv : lv < 2 ^ 31) (hli : li < 2 ^ 31) (hrm : rm < 2 ^ 31)
    (hf : li ≤ lv ∨ rm < t) (H : post (-3) (nI li, nI ce, 0, yT, nI lv, yN, nI rm, yG, yH, yX, ma, lea, mo, lno, sk, ki, lf, rg, hy, nx, be, dn)) : wpY_leaf post (nI li, nI ce, 0, yT, nI lv, yN, nI rm, yG, yH, yX, ma, lea, mo, lno, sk, ki, lf, rg, hy, nx, be, dn) m (nI l) w := by
  refine cy_l46 hl2 ht2 t1 hl m1 m2 hw ?_
  unfold wY_leaf_46
  refine cy_to hl2 hw (pk_le li lv (fun _ => H) (fun z => pk_le t rm (fun q => by omega) (fun _ => H)))
theorem cy_leaf {post : Int32 → SY → Prop} {m w : Int32} {l t : Nat} (h12 : lv < li) (li12 : li ≤ 12) (hh : h < 16) (hN : N < 260) (hc : rm ≤ ce) (hc2 : ce ≤ 224) (t1 : 1 ≤ t) (ht : t ≤ rm) (hl : l ≤ t) (m1 : ¬ m < 1) (m2 : ¬ 255 < m) (hw : cr_w w l t)
    (H : post (nI (lv + 1) - 1) (nI li, nI ce, 0, nI (h + 1), nI (lv + 1), nI (N + 1), nI (rm - t), yG, yH, yX, upd ma lv m, upd lea lv (nI l), upd mo lv w, upd lno lv (nI N), upd sk h (nI N), upd ki N 0, upd lf N (nI lv), upd rg N 0, hy, nx, be, dn)) :
    wpY_leaf post (nI li, nI ce, 0, nI h, nI lv, nI N, nI rm, yG, yH, yX, ma, lea, mo, lno, sk, ki, lf, rg, hy, nx, be, dn) m (nI l) w := by
  have il : vp_in (nI lv) 12 := vp_in_nI (by omega) (by decide)
  refine cy_l46 (by omega) (by omega) t1 hl m1 m2 hw ?_
  unfold wY_leaf_46
  refine cy_to (by omega) hw (br_f (nI_ge h12 (by omega)) (br_t (nI_le ht (by omega)) ⟨il, nm_r (cr_ui (by omega)) ⟨il, nm_r (cr_ui (by omega)) ⟨il, nm_r (cr_ui (by omega)) ⟨il, nm_r (cr_ui (by omega)) ?_⟩⟩⟩⟩))
  exact cy_push hN hh (nm_r (pk_sub ht) (nm_r (nI_1 lv) H))
theorem cr_dy0 {lv : Nat} {ls tp bs : Nat → Nat} (G : cr_lf lv ls tp bs aL aT aE aB) (x0 : ∀ j, j < 224 → hx j = 0) (y0 : ∀ j, j < 2700 → hy j = 0) : cr_dy lv tp bs hx hy := by
  intro p v hp v1 v2
  have := G.1
  have t3 := (G.2.1 p hp).2.2.2.2.2.2
  refine ⟨fun h => ?_, fun _ => y0 _ (by omega)⟩
  rw [x0 _ (by omega), y0 _ (by omega)]
theorem cr_Slf {w e z : Int32} {l t : Nat} (HS : cr_S li ce rm lv h N K A B S ln ls tp bs par E F L aL aT aE aB aF iE iF iL mo lno sk ki lf rg) (h12 : lv < li) (t1 : 1 ≤ t) (ht : t ≤ rm) (hl : l ≤ t) (hw : cr_w w l t) (he : e = 0 ∨ e = 1) (hee : ¬ e = 0 ↔ w = -1) (hz : ¬ z = 0 ↔ l = 0) :
    cr_S li ce (rm - t) (lv + 1) (h + 1) (N + 1) (cr_u K N 0) (cr_u A N lv) (cr_u B N 0) (cr_u S h N) (cr_u ln lv N) (cr_u ls lv l) (cr_u tp lv t) (cr_u bs lv (ce - rm)) (cr_u par N (1000 + h)) (cr_u E N (l = 0)) (cr_u F N (fun p => p = lv)) (cr_u L N (fun p => p = lv)) (upd aL lv (nI l)) (upd aT lv (nI t)) (upd aE lv e) (upd aB lv (nI (ce - rm))) (upd aF lv 0) (upd iE h z) (upd iF h ((1 : Int32) <<< (nI lv &&& 31))) (upd iL h ((1 : Int32) <<< (nI lv &&& 31))) (upd mo lv w) (upd lno lv (nI N)) (upd sk h (nI N)) (upd ki N 0) (upd lf N (nI lv)) (upd rg N 0) := by
  obtain ⟨⟨n1, n2, n3, n4, n5, n6, n7, n8⟩, ⟨g1, g2, g3⟩, HB, HM, HE, HT, HQ, HI, HF⟩ := HS
  refine ⟨⟨n1, n2, n3, n4, by omega, by omega, by omega, by omega⟩, ⟨by omega, fun p hp => ?_, fun p q hpq hq => ?_⟩, fun p hp => ?_, fun p hp => ?_, fun p hp => ?_, cr_push0 HT (by omega), ⟨fun n hn => ?_, fun i hi => ?_, fun p hp => ?_⟩, fun i hi => ?_, fun q hq p hp => ?_⟩
  · by_cases e' : p = lv
    · subst e'
      rw [pk_us, pk_us, pk_us, pk_us, cr_us, cr_us, cr_us]
      exact ⟨rfl, rfl, rfl, he, t1, hl, by omega⟩
    · rw [pk_un e', pk_un e', pk_un e', pk_un e', cr_un e', cr_un e', cr_un e']
      exact g2 p (by omega)
  · have e' : p ≠ lv := by omega
    rw [cr_un e', cr_un e']
    by_cases e2 : q = lv
    · subst e2
      rw [cr_us]
      exact HB p hpq
    · rw [cr_un e2]
      exact g3 p q hpq (by omega)
  · by_cases e' : p = lv
    · subst e'
      rw [cr_us, cr_us]
      omega
    · rw [cr_un e', cr_un e']
      have := HB p (by omega)
      omega
  · by_cases e' : p = lv
    · subst e'
      rw [pk_us, pk_us, cr_us, cr_us]
      exact ⟨rfl, hl, t1, by omega, hw⟩
    · rw [pk_un e', pk_un e', cr_un e', cr_un e']
      exact HM p (by omega)
  · by_cases e' : p = lv
    · subst e'
      rw [pk_us, pk_us]
      exact hee
    · rw [pk_un e', pk_un e']
      exact HE p (by omega)
  · by_cases e' : n = N
    · subst e'
      rw [pk_us, pk_us, pk_us, cr_us, cr_us, cr_us]
      exact ⟨rfl, rfl, rfl⟩
    · rw [pk_un e', pk_un e', pk_un e', cr_un e', cr_un e', cr_un e']
      exact HQ.1 n (by omega)
  · by_cases e' : i = h
    · subst e'
      rw [pk_us, cr_us]
    · rw [pk_un e', cr_un e']
      exact HQ.2.1 i (by omega)
  · by_cases e' : p = lv
    · subst e'
      rw [pk_us, pk_us, cr_us, cr_us]
      exact ⟨rfl, rfl⟩
    · rw [pk_un e', pk_un e', cr_un e', cr_un e']
      exact HQ.2.2 p (by omega)
  · by_cases e' : i = h
    · subst e'
      rw [pk_us, pk_us, pk_us, cr_us, cr_us, cr_us, cr_us]
      refine ⟨hz, fun p hp => ?_, fun p hp => ?_⟩
      · rw [cr_sl (by omega) (by omega), decide_eq_true_iff]
      · rw [cr_sl (by omega) (by omega), decide_eq_true_iff]
    · have hS := (HT.2.1 i (by omega)).1
      have e2 : S i ≠ N := by omega
      rw [pk_un e', pk_un e', pk_un e', cr_un e', cr_un e2, cr_un e2, cr_un e2]
      exact HI i (by omega)
  · rw [cr_foS HT (fun z => absurd rfl z)]
    have nk : ¬ (((0 : Nat) = 1 ∧ L lv q ∧ F 0 p) ∨ (((0 : Nat) = 3 ∨ (0 : Nat) = 4) ∧ L lv q ∧ F lv p)) := by
      rintro (⟨z, _⟩ | ⟨z, _⟩)
      · exact absurd z (by decide)
      · exact absurd z (by decide)
    by_cases e' : q = lv
    · subst e'
      rw [pk_us, b_0]
      exact ⟨fun z => absurd z (by decide), fun z => z.elim (fun z => absurd (cr_foL HT z).1 (by omega)) (fun z => absurd z nk)⟩
    · rw [pk_un e', HF q (by omega) p hp]
      exact ⟨Or.inl, fun z => z.elim id (fun z => absurd z nk)⟩
theorem i_vc_leaf {k : Nat} {u : SX} {v : SY} (I : i_Rel k u v) (hk : k + 4 ≤ 2050) (v1 : Int32) (v2 : Int32) (v3 : Int32) : wpX_leaf (fun r u' => wpY_leaf (fun r' v' => r' = r ∧ i_Rel (k + 4) u' v') v v1 v2 v3) u v1 v2 v3 := by
  obtain ⟨li, ce, rm, lv, h, N, len, K, A, B, S, ln, ls, tp, bs, par, E, F, L, ph, hit, yX, aC, aL, aT, aE, aB, aF, iE, iF, iL, hx, mo, lno, sk, ki, lf, rg, hy, nx, be, dn, rfl, rfl, HS, HD⟩ := I
  obtain ⟨⟨n1, n2, n3, n4, n5, n6, n7, n8⟩, R⟩ := id HS
  by_cases p0 : ph = 0
  · subst p0
    by_cases a1 : v1 < 1
    · exact br_t rfl (br_t a1 (br_t rfl (br_t a1 ⟨rfl, cr_mk HS HD⟩)))
    · by_cases a2 : 255 < v1
      · exact br_t rfl (br_f a1 (br_t a2 (br_t rfl (br_f a1 (br_t a2 ⟨rfl, cr_mk HS HD⟩)))))
      · by_cases a3 : 0 ≤ v2
        · obtain ⟨l, hl2, rfl⟩ := nI_of (Int32.not_lt.mpr a3)
          have good : ∀ t : Nat, t < 2 ^ 31 → 1 ≤ t → l ≤ t → cr_w v3 l t → wpX_leaf (fun r u' => wpY_leaf (fun r' v' => r' = r ∧ i_Rel (k + 4) u' v') (nI li, nI ce, 0, nI h, nI lv, nI N, nI rm, nI len, hit, yX, aC, aL, mo, lno, sk, ki, lf, rg, hy, nx, be, dn) v1 (nI l) v3) (nI li, nI ce, 0, nI h, nI lv, nI rm, nI len, hit, aC, aL, aT, aE, aB, aF, iE, iF, iL, hx) v1 (nI l) v3 := by
            intro t ht2 t1 hl hw
            by_cases hf : li ≤ lv ∨ rm < t
            · exact cx_leafF hl2 ht2 t1 hl a1 a2 hw (by omega) (by omega) (by omega) hf (cy_leafF hl2 ht2 t1 hl a1 a2 hw (by omega) (by omega) (by omega) hf ⟨rfl, cr_mk HS HD⟩)
            · refine cx_leaf (by omega) n2 n7 n5 n4 t1 (by omega) hl a1 a2 hw (fun e z he hee hz => ?_)
              refine cy_leaf (by omega) n2 (by omega) (by omega) n5 n4 t1 (by omega) hl a1 a2 hw ⟨nI_pred lv, ?_⟩
              have HS' := cr_Slf HS (by omega) t1 (by omega) hl hw he hee hz
              obtain ⟨_, x01, y01, b01, d01, l4, q1, q2, q3⟩ := HD
              obtain ⟨x0, y0⟩ := q3 rfl
              exact cr_mk HS' ⟨cr_dy0 HS'.2.1 x0 y0, x01, y01, b01, d01, l4, q1, fun z => absurd rfl z, q3⟩
          by_cases a4 : v3 = -1
          · by_cases a5 : l ≤ 1
            · exact good 1 (by decide) (by omega) a5 (Or.inl ⟨a4, Or.inl ⟨a5, rfl⟩⟩)
            · exact good l hl2 (by omega) (Nat.le_refl l) (Or.inl ⟨a4, Or.inr ⟨by omega, rfl⟩⟩)
          · by_cases a5 : v3 < 1
            · exact br_t rfl (br_f a1 (br_f a2 (br_t a3 (br_f a4 (br_t a5 (br_t rfl (br_t rfl (br_f a1 (br_f a2 (br_t a3 (br_f a4 (br_t a5 ⟨rfl, cr_mk HS HD⟩))))))))))))
            · by_cases a6 : v3 < nI l
              · exact br_t rfl (br_f a1 (br_f a2 (br_t a3 (br_f a4 (br_f a5 (br_t a6 (br_t rfl (br_t rfl (br_f a1 (br_f a2 (br_t a3 (br_f a4 (br_f a5 (br_f (Int32.not_le.mpr a6) ⟨rfl, cr_mk HS HD⟩))))))))))))))
              · have h0 : ¬ v3 < 0 := fun z => a5 (Int32.lt_trans z (by decide))
                obtain ⟨t, ht, rfl⟩ := nI_of h0
                have t1 : 1 ≤ t := by
                  rcases Nat.lt_or_ge t 1 with z | z
                  · exact absurd (nI_lt (b := 1) z (by decide)) a5
                  · exact z
                have t2 : l ≤ t := by
                  rcases Nat.lt_or_ge t l with z | z
                  · exact absurd (nI_lt z hl2) a6
                  · exact z
                exact good t ht t1 t2 (Or.inr ⟨a4, rfl⟩)
        · exact br_t rfl (br_f a1 (br_f a2 (br_f a3 (br_t rfl (br_t rfl (br_f a1 (br_f a2 (br_f a3 ⟨rfl, cr_mk HS HD⟩))))))))
  · exact br_f p0 (br_f p0 ⟨rfl, cr_mk HS HD⟩)
end CRO
