section CRK
/-! owed: begin, accepts, allowed -/
variable {k li ce rm lv h N len : Nat} {K A B S ln ls tp bs par : Nat → Nat} {E : Nat → Prop} {F L : Nat → Nat → Prop} {ph hit yX : Int32} {aC aL aT aE aB aF iE iF iL hx mo lno sk ki lf rg hy nx be dn : Nat → Int32}
theorem cr_cy0 {q : Nat} (hl : lv ≤ 12) (y0 : ∀ j, j < 2700 → hy j = 0) : ¬ cr_cy lv hy ls q := by
  rintro ⟨hq, v, v1, v2, v3, v4⟩
  exact v4 (y0 _ (by omega))
theorem cr_ya0 {yP yG : Int32} {top : Nat} (hl : lv ≤ 12) (y0 : ∀ j, j < 2700 → hy j = 0) (hs : cr_ys yP yG) : cr_ya yP yG top lv E L hy ls ↔ E top :=
  ⟨fun z => z.elim (fun z => z.2) (fun ⟨q, _, q2⟩ => absurd q2 (cr_cy0 hl y0)), fun z => Or.inl ⟨hs, z⟩⟩
theorem i_vc_begin {k : Nat} {u : SX} {v : SY} (I : i_Rel k u v) (hk : k + 4 ≤ 2050) (v1 : Int32) : wpX_begin (fun r u' => wpY_begin (fun r' v' => r' = r ∧ i_Rel (k + 4) u' v') v v1) u v1 := by
  obtain ⟨li, ce, rm, lv, h, N, len, K, A, B, S, ln, ls, tp, bs, par, E, F, L, ph, hit, yX, aC, aL, aT, aE, aB, aF, iE, iF, iL, hx, mo, lno, sk, ki, lf, rg, hy, nx, be, dn, rfl, rfl, HS, HD⟩ := I
  obtain ⟨⟨n1, n2, n3, n4, n5, n6, n7, n8⟩, G, HB, HM, HE, HT, HQ, HI, HF⟩ := id HS
  obtain ⟨_, x01, y01, b01, d01, l4, q1, q2, q3⟩ := id HD
  have hs : ∀ p, p < lv → ls p ≤ 224 := fun p hp => by have := HM p hp; omega
  have main : ∀ v1 : Int32, (v1 = 1 ∨ v1 = 2) → (∀ Q : Int32 → SY → Prop, wY_begin_13 Q v1 (nI li) (nI ce) ph (nI h) (nI lv) (nI N) (nI rm) (nI len) hit yX aC aL mo lno sk ki lf rg hy nx be dn → wpY_begin Q (nI li, nI ce, ph, nI h, nI lv, nI N, nI rm, nI len, hit, yX, aC, aL, mo, lno, sk, ki, lf, rg, hy, nx, be, dn) v1) →
      wX_begin_13 (fun r u' => wpY_begin (fun r' v' => r' = r ∧ i_Rel (k + 4) u' v') (nI li, nI ce, ph, nI h, nI lv, nI N, nI rm, nI len, hit, yX, aC, aL, mo, lno, sk, ki, lf, rg, hy, nx, be, dn) v1) v1 (nI li) (nI ce) ph (nI h) (nI lv) (nI rm) (nI len) hit aC aL aT aE aB aF iE iF iL hx := by
    intro v1 hv W
    by_cases h1 : h = 1
    · subst h1
      refine br_t rfl (cx_dr x01 (fun gx gx01 gx0 => ?_))
      obtain ⟨ja, fa, la⟩ := HI 0 (by omega)
      have HD' : ∀ hy be dn : Nat → Int32, cr_01 hy → cr_01 be → cr_01 dn → (∀ j, j < 2700 → hy j = 0) → cr_D v1 1 0 lv tp bs gx hy be dn := fun hy be dn y01 b01 d01 y0 =>
        ⟨cr_dy0 G gx0 y0, gx01, y01, b01, d01, by omega, Or.inr hv, fun _ => rfl, fun z => by subst z; exact absurd hv (by decide)⟩
      have Y : ∀ (Q : Int32 → SY → Prop) (hit' : Int32), (∀ r : Int32, (¬ r = 0 ↔ E (S 0)) → (r = 0 → hit' = -1) ∧ (¬ r = 0 → hit' = 0)) → (∀ hy be dn yX, cr_D v1 1 0 lv tp bs gx hy be dn → Q 0 (nI li, nI ce, v1, nI 1, nI lv, nI N, nI rm, 0, hit', yX, aC, aL, mo, lno, sk, ki, lf, rg, hy, nx, be, dn)) →
          wpY_begin Q (nI li, nI ce, ph, nI 1, nI lv, nI N, nI rm, nI len, hit, yX, aC, aL, mo, lno, sk, ki, lf, rg, hy, nx, be, dn) v1 := by
        intro Q hit' hh HQ'
        refine W Q (br_t rfl (cy_dr y01 (fun gy gy01 gy0 => ?_)))
        refine cy_acc HT HQ (by omega) (by omega) (by omega) hs b01 d01 (fun be' dn' yX' r b' d' r01 hr => ?_)
        obtain ⟨e1, e2⟩ := hh r (hr.trans (cr_ya0 (by omega) gy0 (Or.inr rfl)))
        have fin := HQ' gy be' dn' yX' (HD' gy be' dn' gy01 b' d' gy0)
        by_cases z : r = 0
        · rw [e1 z] at fin; exact br_t z fin
        · rw [e2 z] at fin; exact br_f z fin
      by_cases z : iE 0 = 0
      · exact br_t z (Y _ (-1) (fun r hr => ⟨fun _ => rfl, fun k => absurd z (ja.mpr (hr.mp k))⟩) (fun hy be dn yX D' => ⟨rfl, cr_mk HS D'⟩))
      · exact br_f z (Y _ 0 (fun r hr => ⟨fun k => absurd k (hr.mpr (ja.mp z)), fun _ => rfl⟩) (fun hy be dn yX D' => ⟨rfl, cr_mk HS D'⟩))
    · have nh : ¬ nI h = 1 := fun z => h1 ((nI_eq (b := 1) (by omega) (by decide)).mp z)
      exact br_f nh (W _ (br_f nh ⟨rfl, cr_mk HS HD⟩))
  by_cases a1 : v1 = 1
  · exact br_t a1 (main v1 (Or.inl a1) (fun Q z => br_t a1 z))
  · by_cases a2 : v1 = 2
    · exact br_f a1 (br_t a2 (main v1 (Or.inr a2) (fun Q z => br_f a1 (br_t a2 z))))
    · exact br_f a1 (br_f a2 (br_f a1 (br_f a2 ⟨rfl, cr_mk HS HD⟩)))
theorem cr_Dbd {be' dn' : Nat → Int32} (HD : cr_D ph h len lv tp bs hx hy be dn) (b : cr_01 be') (d : cr_01 dn') : cr_D ph h len lv tp bs hx hy be' dn' := by
  obtain ⟨dy, x01, y01, b01, d01, l4, q1, q2, q3⟩ := HD
  exact ⟨dy, x01, y01, b, d, l4, q1, q2, q3⟩
theorem i_vc_accepts {k : Nat} {u : SX} {v : SY} (I : i_Rel k u v) (hk : k + 4 ≤ 2050) : wpX_accepts (fun r => wpY_accepts (fun r' v' => r' = r ∧ i_Rel (k + 4) u v') v) u := by
  obtain ⟨li, ce, rm, lv, h, N, len, K, A, B, S, ln, ls, tp, bs, par, E, F, L, ph, hit, yX, aC, aL, aT, aE, aB, aF, iE, iF, iL, hx, mo, lno, sk, ki, lf, rg, hy, nx, be, dn, rfl, rfl, HS, HD⟩ := I
  obtain ⟨⟨n1, n2, n3, n4, n5, n6, n7, n8⟩, G, HB, HM, HE, HT, HQ, HI, HF⟩ := id HS
  obtain ⟨dy, x01, y01, b01, d01, l4, q1, q2, q3⟩ := id HD
  have hs : ∀ p, p < lv → ls p ≤ 224 := fun p hp => by have := HM p hp; omega
  by_cases p0 : ph = 0
  · subst p0
    obtain ⟨x0, y0⟩ := q3 rfl
    refine br_t rfl ?_
    by_cases h0 : h = 0
    · subst h0
      exact br_t (by decide) (br_t rfl ⟨rfl, cr_mk HS HD⟩)
    · obtain ⟨h, rfl⟩ : ∃ h', h = h' + 1 := ⟨h - 1, by omega⟩
      have eh : nI (h + 1) - 1 = nI h := nI_pred h
      have ch : (nI h).toNatClampNeg = h := nI_clamp (by omega)
      obtain ⟨ja, fa, la⟩ := HI h (by omega)
      have Y : ∀ r : Int32, (r = 0 ∨ r = 1) → (¬ r = 0 ↔ E (S h)) → wpY_accepts (fun r' v' => r' = r ∧ i_Rel (k + 4) (nI li, nI ce, 0, nI (h + 1), nI lv, nI rm, nI len, hit, aC, aL, aT, aE, aB, aF, iE, iF, iL, hx) v') (nI li, nI ce, 0, nI (h + 1), nI lv, nI N, nI rm, nI len, hit, yX, aC, aL, mo, lno, sk, ki, lf, rg, hy, nx, be, dn) := by
        intro r r01 hr
        exact cy_acc HT HQ (by omega) (by omega) (by omega) hs b01 d01 (fun be' dn' yX' r' b' d' r01' hr' => ⟨cr_e01 r01' r01 ((hr'.trans (cr_ya0 (by omega) y0 (Or.inl (by decide)))).trans hr.symm), cr_mk HS (cr_Dbd HD b' d')⟩)
      refine br_f (nI_nle (by omega) (by omega)) ⟨(by rw [eh]; exact vp_in_nI (by omega) (by decide)), ?_⟩
      by_cases z : iE h = 0
      · exact br_t (by rw [eh, ch]; exact z) (Y 0 (Or.inl rfl) ⟨fun q => absurd rfl q, fun q => absurd z (ja.mpr q)⟩)
      · exact br_f (by rw [eh, ch]; exact z) (Y 1 (Or.inr rfl) ⟨fun _ => ja.mp z, fun _ => cr_10⟩)
  · have h1 := q2 p0
    subst h1
    have h12 : ph = 1 ∨ ph = 2 := q1.elim (fun z => absurd z p0) id
    have Y : ∀ r : Int32, (r = 0 ∨ r = 1) → (¬ r = 0 ↔ cr_ya ph (nI len) (S 0) lv E L hy ls) → wpY_accepts (fun r' v' => r' = r ∧ i_Rel (k + 4) (nI li, nI ce, ph, nI 1, nI lv, nI rm, nI len, hit, aC, aL, aT, aE, aB, aF, iE, iF, iL, hx) v') (nI li, nI ce, ph, nI 1, nI lv, nI N, nI rm, nI len, hit, yX, aC, aL, mo, lno, sk, ki, lf, rg, hy, nx, be, dn) := by
      intro r r01 hr
      exact cy_acc HT HQ (by omega) (by omega) (by omega) hs b01 d01 (fun be' dn' yX' r' b' d' r01' hr' => ⟨cr_e01 r01' r01 (hr'.trans hr.symm), cr_mk HS (cr_Dbd HD b' d')⟩)
    have aa := cr_AA (g := nI len) HS dy h12
    exact br_f p0 (cx_acc G (fun z => ⟨rfl, Y 1 (Or.inr rfl) ⟨fun _ => aa.mp z, fun _ => cr_10⟩⟩) (fun z => ⟨rfl, Y 0 (Or.inl rfl) ⟨fun q => absurd rfl q, fun q => absurd (aa.mpr q) z⟩⟩))
/-- some pair is held after one letter more: as X asks it, as Y asks it -/
theorem cr_al {x : Nat} {en en' : Nat → Prop} (HS : cr_S li ce rm lv h N K A B S ln ls tp bs par E F L aL aT aE aB aF iE iF iL mo lno sk ki lf rg) (dy : cr_dy lv tp bs hx hy) (he : ∀ p, p < lv → (en p ↔ en' p)) :
    (∃ p, p < lv ∧ bt (aC p) x = true ∧ (en p ∨ ∃ v, 1 ≤ v ∧ v ≤ tp p ∧ (v < tp p ∨ ¬ aE p = 0) ∧ ¬ hx (bs p + v - 1) = 0)) ↔ ∃ q, q < lv ∧ ∃ w, 1 ≤ w ∧ w ≤ tp q ∧ cr_V aC mo hy tp en' x q w := by
  have HM := HS.2.2.2.1
  constructor
  · rintro ⟨p, hp, a, b⟩
    have hm := HM p hp
    have conv : ∀ w, 1 ≤ w → w ≤ tp p → cr_W aC aE hx tp bs en x p w → ∃ q, q < lv ∧ ∃ w, 1 ≤ w ∧ w ≤ tp q ∧ cr_V aC mo hy tp en' x q w := fun w w1 w2 w3 => ⟨p, hp, w, w1, w2, (cr_WV HS dy hp (he p hp) w1 w2).mp w3⟩
    rcases b with b | ⟨v, v1, v2, v3, v4⟩
    · exact conv 1 (by omega) (by omega) ⟨a, Or.inl ⟨rfl, b⟩⟩
    · by_cases z : v < tp p
      · refine conv (v + 1) (by omega) (by omega) ⟨a, Or.inr (Or.inl ⟨by omega, ?_⟩)⟩
        rw [show bs p + (v + 1) - 2 = bs p + v - 1 by omega]; exact v4
      · exact conv v v1 v2 ⟨a, Or.inr (Or.inr ⟨v3.elim (fun q => absurd q z) id, by omega, v4⟩)⟩
  · rintro ⟨p, hp, w, w1, w2, w3⟩
    obtain ⟨a, b⟩ := (cr_WV (en := en) HS dy hp (he p hp) w1 w2).mpr w3
    refine ⟨p, hp, a, ?_⟩
    rcases b with ⟨_, b⟩ | ⟨b1, b2⟩ | ⟨b1, b2, b3⟩
    · exact Or.inl b
    · refine Or.inr ⟨w - 1, by omega, by omega, Or.inl (by omega), ?_⟩
      rw [show bs p + (w - 1) - 1 = bs p + w - 2 by omega]; exact b2
    · exact Or.inr ⟨w, w1, w2, Or.inr b1, b3⟩
theorem i_vc_allowed {k : Nat} {u : SX} {v : SY} (I : i_Rel k u v) (hk : k + 4 ≤ 2050) (v1 : Int32) : wpX_allowed (fun r => wpY_allowed (fun r' v' => r' = r ∧ i_Rel (k + 4) u v') v v1) u v1 := by
  obtain ⟨li, ce, rm, lv, h, N, len, K, A, B, S, ln, ls, tp, bs, par, E, F, L, ph, hit, yX, aC, aL, aT, aE, aB, aF, iE, iF, iL, hx, mo, lno, sk, ki, lf, rg, hy, nx, be, dn, rfl, rfl, HS, HD⟩ := I
  obtain ⟨⟨n1, n2, n3, n4, n5, n6, n7, n8⟩, G, HB, HM, HE, HT, HQ, HI, HF⟩ := id HS
  obtain ⟨dy, x01, y01, b01, d01, l4, q1, q2, q3⟩ := id HD
  by_cases a1 : v1 < 0
  · exact br_t a1 (br_t rfl (br_t a1 ⟨rfl, cr_mk HS HD⟩))
  · by_cases a2 : 7 < v1
    · exact br_f a1 (br_t a2 (br_t rfl (br_f a1 (br_t a2 ⟨rfl, cr_mk HS HD⟩))))
    · refine br_f a1 (br_f a2 (br_f cr_10 ?_))
      obtain ⟨x, hx2, rfl⟩ := nI_of a1
      have hx8 : x < 8 := by
        rcases Nat.lt_or_ge 7 x with z | z
        · exact absurd (nI_lt (a := 7) z hx2) a2
        · omega
      by_cases h0 : h = 0
      · subst h0
        exact br_f (by decide) (br_f a1 (br_f a2 (br_t rfl ⟨rfl, cr_mk HS HD⟩)))
      · obtain ⟨h, rfl⟩ : ∃ h', h = h' + 1 := ⟨h - 1, by omega⟩
        have Y : ∀ r : Int32, (r = 0 ∨ r = 1) → (¬ r = 0 ↔ ∃ q, q < lv ∧ ∃ w, 1 ≤ w ∧ w ≤ tp q ∧ cr_V aC mo hy tp (cr_en (cr_ys ph (nI len)) (S h) N K A B F L (cr_cy lv hy ls)) x q w) →
            wpY_allowed (fun r' v' => r' = r ∧ i_Rel (k + 4) (nI li, nI ce, ph, nI (h + 1), nI lv, nI rm, nI len, hit, aC, aL, aT, aE, aB, aF, iE, iF, iL, hx) v') (nI li, nI ce, ph, nI (h + 1), nI lv, nI N, nI rm, nI len, hit, yX, aC, aL, mo, lno, sk, ki, lf, rg, hy, nx, be, dn) (nI x) := by
          intro r r01 hr
          exact cy_al HT HQ HM (by omega) (by omega) (by omega) b01 d01 hx8 (fun be' dn' yX' r' b' d' r01' hr' => ⟨cr_e01 r01' r01 (hr'.trans hr.symm), cr_mk HS (cr_Dbd HD b' d')⟩)
        have fin : ∀ en : Int32, (∀ p, p < lv → (bt en p = true ↔ cr_en (cr_ys ph (nI len)) (S h) N K A B F L (cr_cy lv hy ls) p)) →
            ∃ n56 : Nat, wX_allowed_56 (fun r => wpY_allowed (fun r' v' => r' = r ∧ i_Rel (k + 4) (nI li, nI ce, ph, nI (h + 1), nI lv, nI rm, nI len, hit, aC, aL, aT, aE, aB, aF, iE, iF, iL, hx) v') (nI li, nI ce, ph, nI (h + 1), nI lv, nI N, nI rm, nI len, hit, yX, aC, aL, mo, lno, sk, ki, lf, rg, hy, nx, be, dn) (nI x)) (nI x) en (nI li) (nI ce) ph (nI (h + 1)) (nI lv) (nI rm) (nI len) hit aC aL aT aE aB aF iE iF iL hx n56 0 := by
          intro en he
          have ea := cr_al (aC := aC) (x := x) (en := fun p => bt en p = true) HS dy he
          exact ⟨lv + 1, cx_all hx8 G (fun z => Y 1 (Or.inr rfl) ⟨fun _ => ea.mp z, fun _ => cr_10⟩) (fun z => Y 0 (Or.inl rfl) ⟨fun q => absurd rfl q, fun q => absurd (ea.mpr q) z⟩) (lv + 1) 0 (by omega) (by omega) (fun p hp => by omega)⟩
        refine br_t (nI_le (a := 1) (by omega) (by omega)) ?_
        have eh : nI (h + 1) - 1 = nI h := nI_pred h
        have ch : (nI h).toNatClampNeg = h := nI_clamp (by omega)
        by_cases p0 : ph = 0
        · obtain ⟨x0, y0⟩ := q3 p0
          obtain ⟨ja, fa, la⟩ := HI h (by omega)
          refine br_t p0 (br_f cr_10 ⟨(by rw [eh]; exact vp_in_nI (by omega) (by decide)), nm_r (e' := iF h) (by rw [eh, ch]) (fin (iF h) (fun p hp => ?_))⟩)
          rw [fa p (by omega)]
          refine ⟨fun z => Or.inl ⟨Or.inl (by rw [p0]; decide), z⟩, fun z => z.elim (fun z => z.2) (fun ⟨q, q1, q2⟩ => absurd q1 (cr_cy0 (by omega) y0))⟩
        · have h1 := q2 p0
          have h1' : h = 0 := by omega
          subst h1'
          have h12 : ph = 1 ∨ ph = 2 := q1.elim (fun z => absurd z p0) id
          refine br_f p0 (br_t rfl ?_)
          refine cx_en G (fun en he => fin en (fun p hp => (he p (by omega)).trans (cr_EE HS dy h12 hp)))
end CRK
