section CRY
/-! Y: acceptance, what may follow, a step -/
variable {yM yC yP yT yL yN yR yG yH yX : Int32} {ma lea mo lno sk ki lf rg hy nx be dn : Nat → Int32}
variable {lv h N : Nat} {K A B S ln ls tp par : Nat → Nat} {E : Nat → Prop} {F L : Nat → Nat → Prop}
/-- the input is accepted, as Y reckons it -/
def cr_ya (yP yG : Int32) (top lv : Nat) (E : Nat → Prop) (L : Nat → Nat → Prop) (hy : Nat → Int32) (ls : Nat → Nat) : Prop := (cr_ys yP yG ∧ E top) ∨ ∃ q, L top q ∧ cr_cy lv hy ls q
theorem cy_acc {post : Int32 → SY → Prop} (T : cr_tr lv (h + 1) N K A B S ln ls par E F L) (Q : cr_yt lv (h + 1) N K A B S ln ls lea lno sk ki lf rg) (hN : N ≤ 260) (hl : lv ≤ 12) (hh : h < 16) (hs : ∀ p, p < lv → ls p ≤ 224) (b01 : cr_01 be) (d01 : cr_01 dn)
    (H : ∀ be' dn' yX' r, cr_01 be' → cr_01 dn' → (r = 0 ∨ r = 1) → (¬ r = 0 ↔ cr_ya yP yG (S h) lv E L hy ls) → post r (yM, yC, yP, nI (h + 1), yL, nI N, yR, yG, yH, yX', ma, lea, mo, lno, sk, ki, lf, rg, hy, nx, be', dn')) : wpY_accepts post (yM, yC, yP, nI (h + 1), yL, nI N, yR, yG, yH, yX, ma, lea, mo, lno, sk, ki, lf, rg, hy, nx, be, dn) := by
  obtain ⟨s1, s2⟩ := T.2.1 h (by omega)
  have eS := Q.2.1 h (by omega)
  have eh : nI (h + 1) - 1 = nI h := nI_pred h
  have ch : (nI h).toNatClampNeg = h := nI_clamp (by omega)
  have cS : (nI (S h)).toNatClampNeg = S h := nI_clamp (by omega)
  refine br_f (nI_ne0 (by omega) (by omega)) (cy_sp T Q hN hl hh hs b01 d01 (fun be' dn' yX' b' d' r1 r2 => ?_))
  have e : dn' (sk (nI (h + 1) - 1).toNatClampNeg).toNatClampNeg = dn' (S h) := by rw [eh, ch, eS, cS]
  refine ⟨(by rw [eh]; exact vp_in_nI (by omega) (by decide)), (by rw [eh, ch, eS]; exact vp_in_nI (by omega) (by decide)), (by rw [e]; exact cr_nn (d' _)), ?_⟩
  rw [e]
  exact H be' dn' yX' (dn' (S h)) b' d' (d' _) r1
/-- the leaves' bounds in Y -/
def cr_mo (lv : Nat) (ls tp : Nat → Nat) (lea mo : Nat → Int32) : Prop :=
  ∀ p, p < lv → lea p = nI (ls p) ∧ ls p ≤ tp p ∧ 1 ≤ tp p ∧ tp p ≤ 224 ∧ ((mo p = -1 ∧ ((ls p ≤ 1 ∧ tp p = 1) ∨ (1 < ls p ∧ tp p = ls p))) ∨ (¬ mo p = -1 ∧ mo p = nI (tp p)))
theorem cy_top {post : Int32 → Prop} {p : Nat} (M : cr_mo lv ls tp lea mo) (hp : p < lv) (H : post (nI (tp p))) : wpY_top post (yM, yC, yP, yT, yL, yN, yR, yG, yH, yX, ma, lea, mo, lno, sk, ki, lf, rg, hy, nx, be, dn) (lea p) (mo p) := by
  obtain ⟨m1, m2, m3, m4, m5⟩ := M p hp
  rw [m1]
  rcases m5 with ⟨z, m5⟩ | ⟨z, m5⟩
  · refine br_t z (pk_le (ls p) 1 (fun k => ?_) (fun k => ?_))
    · rw [show tp p = 1 by omega] at H; exact H
    · rw [show tp p = ls p by omega] at H; exact H
  · rw [← m5] at H
    exact br_f z H
/-- (p,v) is held after one letter x more, as Y reckons it -/
def cr_V (ma mo hy : Nat → Int32) (tp : Nat → Nat) (en : Nat → Prop) (x p v : Nat) : Prop :=
  bt (ma p) x = true ∧ ((v = 1 ∧ en p) ∨ (1 < v ∧ ¬ hy (p * 225 + v - 1) = 0) ∨ (mo p = -1 ∧ v = tp p ∧ ¬ hy (p * 225 + v) = 0))
theorem cy_fol {post : Int32 → Prop} {x p v : Nat} (Q : cr_yt lv h N K A B S ln ls lea lno sk ki lf rg) (M : cr_mo lv ls tp lea mo) (hl : lv ≤ 12) (hN : N ≤ 260) (hlN : ∀ p, p < lv → ln p < N) (hp : p < lv) (hx : x < 8) (v1 : 1 ≤ v) (v2 : v < 225)
    (h1 : cr_V ma mo hy tp (fun p => ¬ be (ln p) = 0) x p v → post 1) (h0 : ¬ cr_V ma mo hy tp (fun p => ¬ be (ln p) = 0) x p v → post 0) : wpY_follows post (yM, yC, yP, yT, yL, yN, yR, yG, yH, yX, ma, lea, mo, lno, sk, ki, lf, rg, hy, nx, be, dn) (nI p) (nI v) (nI x) := by
  have hi : vp_in (nI p) 12 := vp_in_nI (by omega) (by decide)
  have cp : (nI p).toNatClampNeg = p := nI_clamp (by omega)
  have l1 := hlN p hp
  obtain ⟨eN, eL⟩ := Q.2.2 p hp
  obtain ⟨m1, m2, m3, m4, m5⟩ := M p hp
  have cN : (nI (ln p)).toNatClampNeg = ln p := nI_clamp (by omega)
  have e := cr_ix p v
  have ce : (nI (p * 225 + v)).toNatClampNeg = p * 225 + v := nI_clamp (by omega)
  refine ⟨hi, ?_⟩
  by_cases z : bt (ma p) x = true
  · refine br_f (fun w => by rw [cp, cr_bit0 (by omega)] at w; rw [w] at z; exact absurd z (by decide)) ?_
    have f60 : ¬ (v = 1 ∧ ¬ be (ln p) = 0) → ¬ (1 < v ∧ ¬ hy (p * 225 + v - 1) = 0) → wY_follows_60 post (nI p) (nI v) yM yC yP yT yL yN yR yG yH yX ma lea mo lno sk ki lf rg hy nx be dn := by
      intro n1 n2
      refine ⟨hi, ?_⟩
      rw [cp]
      by_cases k : mo p = -1
      · refine br_t k ⟨hi, hi, cy_top M hp (pk_eq v (tp p) (fun et => ⟨(by rw [e]; exact vp_in_nI (by omega) (by decide)), ?_⟩) (fun et => h0 (fun w => w.2.elim n1 (fun w => w.elim n2 (fun w => et w.2.1)))))⟩
        by_cases y : hy (p * 225 + v) = 0
        · exact br_t (by rw [e, ce]; exact y) (h0 (fun w => w.2.elim n1 (fun w => w.elim n2 (fun w => w.2.2 y))))
        · exact br_f (by rw [e, ce]; exact y) (h1 ⟨z, Or.inr (Or.inr ⟨k, et, y⟩)⟩)
      · exact br_f k (h0 (fun w => w.2.elim n1 (fun w => w.elim n2 (fun w => k w.1))))
    have f36 : ¬ (v = 1 ∧ ¬ be (ln p) = 0) → wY_follows_36 post (nI p) (nI v) yM yC yP yT yL yN yR yG yH yX ma lea mo lno sk ki lf rg hy nx be dn := by
      intro n1
      refine pk_le v 1 (fun k => f60 n1 (fun w => by omega)) (fun k => ?_)
      have e1 : nI p * 225 + nI v - 1 = nI (p * 225 + v - 1) := by rw [e, cr_s1' (by omega)]
      have ce1 : (nI (p * 225 + v - 1)).toNatClampNeg = p * 225 + v - 1 := nI_clamp (by omega)
      refine ⟨(by rw [e1]; exact vp_in_nI (by omega) (by decide)), ?_⟩
      by_cases y : hy (p * 225 + v - 1) = 0
      · exact br_t (by rw [e1, ce1]; exact y) (f60 n1 (fun w => w.2 y))
      · exact br_f (by rw [e1, ce1]; exact y) (h1 ⟨z, Or.inr (Or.inl ⟨k, y⟩)⟩)
    refine pk_eq v 1 (fun k => ⟨hi, (by rw [cp, eN]; exact vp_in_nI (by omega) (by decide)), ?_⟩) (fun k => f36 (fun w => k w.1))
    by_cases y : be (ln p) = 0
    · exact br_t (by rw [cp, eN, cN]; exact y) (f36 (fun w => w.2 y))
    · exact br_f (by rw [cp, eN, cN]; exact y) (h1 ⟨z, Or.inl ⟨k, y⟩⟩)
  · exact br_t (by rw [cp, cr_bit0 (by omega)]; exact cr_nt z) (h0 (fun w => z w.1))
/-- the cells of the next table that are reckoned -/
def cr_nx (D V : Nat → Nat → Prop) (nx : Nat → Int32) : Prop := ∀ q v, q < 12 → v < 225 → (D q v → (¬ nx (q * 225 + v) = 0 ↔ V q v)) ∧ (¬ D q v → nx (q * 225 + v) = 0)
theorem cy_97 {post : SY → Prop} (n01 : ∀ j, j < 2700 → nx j = 0 ∨ nx j = 1) (H : ∀ hy', cr_01 hy' → (∀ j, j < 2700 → hy' j = nx j) → post (yM, yC, yP, yT, yL, yN, yR, yG, yH, yX, ma, lea, mo, lno, sk, ki, lf, rg, hy', nx, be, dn)) : ∀ m i hy, 2700 - i < m → i ≤ 2700 → cr_01 hy → (∀ j, j < i → hy j = nx j) →
    wY_step_97 post yM yC yP yT yL yN yR yG yH yX m (nI i) ma lea mo lno sk ki lf rg hy nx be dn := by
  intro m
  induction m with
  | zero => intro i hy h; omega
  | succ m ih =>
    intro i hy hm hi h01 hj
    rcases Nat.lt_or_ge i 2700 with hlt | hge
    · have hin : vp_in (nI i) 2700 := vp_in_nI hlt (by decide)
      refine br_f (nI_ge (b := 2700) hlt (by decide)) ⟨hin, hin, nm_r (e' := upd hy i (nx i)) (by rw [nI_clamp (by omega), cr_nb (n01 i hlt)]) (nm_r (nI_1 i) (ih (i + 1) _ (by omega) (by omega) (cr_01u h01 (n01 i hlt)) (fun j hj' => ?_)))⟩
      by_cases e : j = i
      · subst e; exact pk_us
      · rw [pk_un e]; exact hj j (by omega)
    · exact br_t (nI_le (a := 2700) hge (by omega)) (H hy h01 (fun j hj' => hj j (by omega)))
theorem cy_56 {post : SY → Prop} {x p : Nat} {J : Int32 → (Nat → Int32) → (Nat → Int32) → (Nat → Int32) → (Nat → Int32) → (Nat → Int32) → (Nat → Int32) → (Nat → Int32) → (Nat → Int32) → (Nat → Int32) → (Nat → Int32) → (Nat → Int32) → (Nat → Int32) → Prop} {D : Nat → Nat → Prop}
    (Q : cr_yt lv h N K A B S ln ls lea lno sk ki lf rg) (M : cr_mo lv ls tp lea mo) (hl : lv ≤ 12) (hN : N ≤ 260) (hlN : ∀ p, p < lv → ln p < N) (hp : p < lv) (hx : x < 8) (hD : ∀ v, ¬ D p v)
    (H : ∀ nx', (∀ j, j < 2700 → nx' j = 0 ∨ nx' j = 1) → cr_nx (fun q v => D q v ∨ (q = p ∧ 1 ≤ v ∧ v ≤ tp p)) (cr_V ma mo hy tp (fun p => ¬ be (ln p) = 0) x) nx' → J (nI (p + 1)) ma lea mo lno sk ki lf rg hy nx' be dn) :
    ∀ m v nx, tp p + 1 - v < m → 1 ≤ v → v ≤ tp p + 1 → (∀ j, j < 2700 → nx j = 0 ∨ nx j = 1) → cr_nx (fun q w => D q w ∨ (q = p ∧ 1 ≤ w ∧ w < v)) (cr_V ma mo hy tp (fun p => ¬ be (ln p) = 0) x) nx →
    wY_step_56 post J (nI x) (nI p) (nI (tp p)) yM yC yP yT yL yN yR yG yH yX m (nI v) ma lea mo lno sk ki lf rg hy nx be dn := by
  obtain ⟨m1, m2, m3, m4, m5⟩ := M p hp
  intro m
  induction m with
  | zero => intro v nx h; omega
  | succ m ih =>
    intro v nx hm v1 v2 n01 I
    rcases Nat.lt_or_ge (tp p) v with hlt | hge
    · have ev : v = tp p + 1 := by omega
      subst ev
      refine br_t (nI_lt hlt (by omega)) (nm_r (nI_1 p) (H nx n01 (fun q w hq hw => ⟨fun k => (I q w hq hw).1 ?_, fun k => (I q w hq hw).2 (fun k' => k ?_)⟩)))
      · exact k.elim Or.inl (fun k => Or.inr ⟨k.1, k.2.1, by omega⟩)
      · exact k'.elim Or.inl (fun k => Or.inr ⟨k.1, k.2.1, by omega⟩)
    · have e := cr_ix p v
      have ce : (nI (p * 225 + v)).toNatClampNeg = p * 225 + v := nI_clamp (by omega)
      have put : ∀ r : Int32, (r = 0 ∨ r = 1) → (¬ r = 0 ↔ cr_V ma mo hy tp (fun p => ¬ be (ln p) = 0) x p v) → vp_in (nI p * 225 + nI v) 2700 ∧ ∀ a : Nat → Int32, a = upd nx (nI p * 225 + nI v).toNatClampNeg (vp_nar .boolean r) → ∀ y : Int32, y = nI v + 1 → wY_step_56 post J (nI x) (nI p) (nI (tp p)) yM yC yP yT yL yN yR yG yH yX m y ma lea mo lno sk ki lf rg hy a be dn := by
        intro r hr hV
        refine ⟨(by rw [e]; exact vp_in_nI (by omega) (by decide)), nm_r (e' := upd nx (p * 225 + v) r) (by rw [e]; exact cr_ub (by omega) hr) (nm_r (nI_1 v) (ih (v + 1) _ (by omega) (by omega) (by omega) (fun j hj => ?_) (fun q w hq hw => ?_)))⟩
        · by_cases ej : j = p * 225 + v
          · subst ej; rw [pk_us]; exact hr
          · rw [pk_un ej]; exact n01 j hj
        · by_cases ej : q = p ∧ w = v
          · obtain ⟨rfl, rfl⟩ := ej
            rw [pk_us]
            exact ⟨fun _ => hV, fun k => absurd (Or.inr ⟨rfl, v1, by omega⟩) k⟩
          · rw [pk_un (by omega)]
            obtain ⟨i1, i2⟩ := I q w hq hw
            refine ⟨fun k => i1 (k.elim Or.inl (fun k => Or.inr ⟨k.1, k.2.1, ?_⟩)), fun k => i2 (fun k' => k (k'.elim Or.inl (fun k' => Or.inr ⟨k'.1, k'.2.1, by omega⟩)))⟩
            have : w ≠ v := fun z => ej ⟨k.1, z⟩
            omega
      exact br_f (nI_nlt hge (by omega)) (cy_fol Q M hl hN hlN hp hx v1 (by omega) (fun z => put 1 (Or.inr rfl) ⟨fun _ => z, fun _ => cr_10⟩) (fun z => put 0 (Or.inl rfl) ⟨fun k => absurd rfl k, fun k => absurd k z⟩))
theorem cy_28 {post : SY → Prop} {x : Nat} (Q : cr_yt lv h N K A B S ln ls lea lno sk ki lf rg) (M : cr_mo lv ls tp lea mo) (hl : lv ≤ 12) (hN : N ≤ 260) (hlN : ∀ p, p < lv → ln p < N) (hx : x < 8) (h01 : cr_01 hy)
    (H : ∀ hy' nx', cr_01 hy' → cr_nx (fun q v => q < lv ∧ 1 ≤ v ∧ v ≤ tp q) (cr_V ma mo hy tp (fun p => ¬ be (ln p) = 0) x) hy' → post (yM, yC, yP, yT, nI lv, yN, yR, yG, yH, yX, ma, lea, mo, lno, sk, ki, lf, rg, hy', nx', be, dn)) :
    ∀ m p nx, lv - p < m → p ≤ lv → (∀ j, j < 2700 → nx j = 0 ∨ nx j = 1) → cr_nx (fun q v => q < p ∧ 1 ≤ v ∧ v ≤ tp q) (cr_V ma mo hy tp (fun p => ¬ be (ln p) = 0) x) nx →
    wY_step_28 post (nI x) yM yC yP yT (nI lv) yN yR yG yH yX m (nI p) ma lea mo lno sk ki lf rg hy nx be dn := by
  intro m
  induction m with
  | zero => intro p nx h; omega
  | succ m ih =>
    intro p nx hm hp n01 I
    rcases Nat.lt_or_ge p lv with hlt | hge
    · have hi : vp_in (nI p) 12 := vp_in_nI (by omega) (by decide)
      have cp : (nI p).toNatClampNeg = p := nI_clamp (by omega)
      refine br_f (nI_ge hlt (by omega)) ⟨hi, hi, ?_⟩
      rw [cp]
      refine cy_top M hlt ⟨tp p + 1, cy_56 (D := fun q v => q < p ∧ 1 ≤ v ∧ v ≤ tp q) Q M hl hN hlN hlt hx (fun v k => by omega) (fun nx' n01' I' => ih (p + 1) nx' (by omega) (by omega) n01' (fun q v hq hv => ?_)) (tp p + 1) 1 nx (by omega) (by omega) (by omega) n01 (fun q v hq hv => ?_)⟩
      · obtain ⟨i1, i2⟩ := I' q v hq hv
        refine ⟨fun k => i1 ?_, fun k => i2 (fun k' => k ?_)⟩
        · by_cases e : q = p
          · subst e; exact Or.inr ⟨rfl, k.2⟩
          · exact Or.inl ⟨by omega, k.2⟩
        · rcases k' with k' | ⟨e, k'⟩
          · exact ⟨by omega, k'.2⟩
          · subst e; exact ⟨by omega, k'⟩
      · obtain ⟨i1, i2⟩ := I q v hq hv
        exact ⟨fun k => i1 (k.elim id (fun k => by omega)), fun k => i2 (fun k' => k (Or.inl k'))⟩
    · have e : p = lv := by omega
      subst e
      refine br_t (nI_le hge (by omega)) ⟨2701, cy_97 n01 (fun hy' h01' hj => H hy' nx h01' (fun q v hq hv => ?_)) 2701 0 hy (by omega) (by omega) h01 (fun j hj => by omega)⟩
      rw [hj (q * 225 + v) (by omega)]
      exact I q v hq hv
theorem cy_06 {post : SY → Prop} {x : Nat} (Q : cr_yt lv h N K A B S ln ls lea lno sk ki lf rg) (M : cr_mo lv ls tp lea mo) (hl : lv ≤ 12) (hN : N ≤ 260) (hlN : ∀ p, p < lv → ln p < N) (hx : x < 8) (h01 : cr_01 hy)
    (H : ∀ hy' nx', cr_01 hy' → cr_nx (fun q v => q < lv ∧ 1 ≤ v ∧ v ≤ tp q) (cr_V ma mo hy tp (fun p => ¬ be (ln p) = 0) x) hy' → post (yM, yC, yP, yT, nI lv, yN, yR, yG, yH, yX, ma, lea, mo, lno, sk, ki, lf, rg, hy', nx', be, dn)) :
    ∀ m i nx, 2700 - i < m → i ≤ 2700 → (∀ j, j < i → nx j = 0) → wY_step_6 post (nI x) yM yC yP yT (nI lv) yN yR yG yH yX m (nI i) ma lea mo lno sk ki lf rg hy nx be dn := by
  intro m
  induction m with
  | zero => intro i nx h; omega
  | succ m ih =>
    intro i nx hm hi hj
    rcases Nat.lt_or_ge i 2700 with hlt | hge
    · have hin : vp_in (nI i) 2700 := vp_in_nI hlt (by decide)
      refine br_f (nI_ge (b := 2700) hlt (by decide)) ⟨hin, nm_r (cr_ub0 (by omega)) (nm_r (nI_1 i) (ih (i + 1) _ (by omega) (by omega) (fun j hj' => ?_)))⟩
      by_cases e : j = i
      · subst e; exact pk_us
      · rw [pk_un e]; exact hj j (by omega)
    · exact br_t (nI_le (a := 2700) hge (by omega)) ⟨lv + 1, cy_28 Q M hl hN hlN hx h01 H (lv + 1) 0 nx (by omega) (by omega) (fun j hj' => Or.inl (hj j (by omega))) (fun q v hq hv => ⟨fun k => by omega, fun _ => hj _ (by omega)⟩)⟩
theorem cr_Vc {en en' : Nat → Prop} {x : Nat} (he : ∀ p, p < lv → (en p ↔ en' p)) {q v : Nat} (hq : q < lv) : cr_V ma mo hy tp en x q v ↔ cr_V ma mo hy tp en' x q v := by
  unfold cr_V
  rw [he q hq]
theorem cy_step {post : SY → Prop} {x : Nat} (T : cr_tr lv (h + 1) N K A B S ln ls par E F L) (Q : cr_yt lv (h + 1) N K A B S ln ls lea lno sk ki lf rg) (M : cr_mo lv ls tp lea mo) (hN : N ≤ 260) (hl : lv ≤ 12) (hh : h < 16) (b01 : cr_01 be) (d01 : cr_01 dn) (hx : x < 8) (h01 : cr_01 hy)
    (H : ∀ hy' nx' be' dn' yX', cr_01 hy' → cr_01 be' → cr_01 dn' → cr_nx (fun q v => q < lv ∧ 1 ≤ v ∧ v ≤ tp q) (cr_V ma mo hy tp (cr_en (cr_ys yP yG) (S h) N K A B F L (cr_cy lv hy ls)) x) hy' → post (yM, yC, yP, nI (h + 1), nI lv, nI N, yR, yG, yH, yX', ma, lea, mo, lno, sk, ki, lf, rg, hy', nx', be', dn')) :
    wpY_step post (yM, yC, yP, nI (h + 1), nI lv, nI N, yR, yG, yH, yX, ma, lea, mo, lno, sk, ki, lf, rg, hy, nx, be, dn) (nI x) := by
  have hs : ∀ p, p < lv → ls p ≤ 224 := fun p hp => by have := M p hp; omega
  unfold wpY_step
  refine cy_sp T Q hN hl hh hs b01 d01 (fun be' dn' yX' b' d' r1 r2 => ?_)
  refine ⟨2701, cy_06 (yT := nI (h + 1)) (yN := nI N) (be := be') Q M hl hN (fun p hp => (T.2.2 p hp).1) hx h01 (fun hy' nx' h01' I => H hy' nx' be' dn' yX' h01' b' d' (fun q v hq hv => ?_)) 2701 0 nx (by omega) (by omega) (fun j hj => by omega)⟩
  obtain ⟨i1, i2⟩ := I q v hq hv
  exact ⟨fun k => (i1 k).trans (cr_Vc r2 k.1), i2⟩
end CRY
