section CRZ
/-! owed: the questions that change nothing -/
theorem i_vc_phase {k : Nat} {u : SX} {v : SY} (I : i_Rel k u v) (hk : k + 4 ≤ 2050) : wpX_phase (fun r => wpY_phase (fun r' => r' = r ∧ i_Rel (k + 4) u v) v) u := by
  obtain ⟨li, ce, rm, lv, h, N, len, K, A, B, S, ln, ls, tp, bs, par, E, F, L, ph, hit, yX, aC, aL, aT, aE, aB, aF, iE, iF, iL, hx, mo, lno, sk, ki, lf, rg, hy, nx, be, dn, rfl, rfl, HS, HD⟩ := I
  exact ⟨rfl, cr_mk HS HD⟩
theorem i_vc_height {k : Nat} {u : SX} {v : SY} (I : i_Rel k u v) (hk : k + 4 ≤ 2050) : wpX_height (fun r => wpY_height (fun r' => r' = r ∧ i_Rel (k + 4) u v) v) u := by
  obtain ⟨li, ce, rm, lv, h, N, len, K, A, B, S, ln, ls, tp, bs, par, E, F, L, ph, hit, yX, aC, aL, aT, aE, aB, aF, iE, iF, iL, hx, mo, lno, sk, ki, lf, rg, hy, nx, be, dn, rfl, rfl, HS, HD⟩ := I
  exact ⟨rfl, cr_mk HS HD⟩
theorem i_vc_room {k : Nat} {u : SX} {v : SY} (I : i_Rel k u v) (hk : k + 4 ≤ 2050) : wpX_room (fun r => wpY_room (fun r' => r' = r ∧ i_Rel (k + 4) u v) v) u := by
  obtain ⟨li, ce, rm, lv, h, N, len, K, A, B, S, ln, ls, tp, bs, par, E, F, L, ph, hit, yX, aC, aL, aT, aE, aB, aF, iE, iF, iL, hx, mo, lno, sk, ki, lf, rg, hy, nx, be, dn, rfl, rfl, HS, HD⟩ := I
  exact ⟨rfl, cr_mk HS HD⟩
theorem i_vc_length {k : Nat} {u : SX} {v : SY} (I : i_Rel k u v) (hk : k + 4 ≤ 2050) : wpX_length (fun r => wpY_length (fun r' => r' = r ∧ i_Rel (k + 4) u v) v) u := by
  obtain ⟨li, ce, rm, lv, h, N, len, K, A, B, S, ln, ls, tp, bs, par, E, F, L, ph, hit, yX, aC, aL, aT, aE, aB, aF, iE, iF, iL, hx, mo, lno, sk, ki, lf, rg, hy, nx, be, dn, rfl, rfl, HS, HD⟩ := I
  exact ⟨rfl, cr_mk HS HD⟩
theorem i_vc_lastHit {k : Nat} {u : SX} {v : SY} (I : i_Rel k u v) (hk : k + 4 ≤ 2050) : wpX_lastHit (fun r => wpY_lastHit (fun r' => r' = r ∧ i_Rel (k + 4) u v) v) u := by
  obtain ⟨li, ce, rm, lv, h, N, len, K, A, B, S, ln, ls, tp, bs, par, E, F, L, ph, hit, yX, aC, aL, aT, aE, aB, aF, iE, iF, iL, hx, mo, lno, sk, ki, lf, rg, hy, nx, be, dn, rfl, rfl, HS, HD⟩ := I
  exact ⟨rfl, cr_mk HS HD⟩
theorem i_vc_size {k : Nat} {u : SX} {v : SY} (I : i_Rel k u v) (hk : k + 4 ≤ 2050) (v1 : Int32) : wpX_size (fun r => wpY_size (fun r' => r' = r ∧ i_Rel (k + 4) u v) v v1) u v1 := by
  obtain ⟨li, ce, rm, lv, h, N, len, K, A, B, S, ln, ls, tp, bs, par, E, F, L, ph, hit, yX, aC, aL, aT, aE, aB, aF, iE, iF, iL, hx, mo, lno, sk, ki, lf, rg, hy, nx, be, dn, rfl, rfl, HS, HD⟩ := I
  have hl := HS.2.1.1
  by_cases a1 : v1 < 0
  · exact br_t a1 (br_t rfl (br_t a1 ⟨rfl, cr_mk HS HD⟩))
  · by_cases a2 : nI lv ≤ v1
    · exact br_f a1 (br_t a2 (br_t rfl (br_f a1 (br_f (Int32.not_lt.mpr a2) ⟨rfl, cr_mk HS HD⟩))))
    · obtain ⟨p, hp2, rfl⟩ := nI_of a1
      have hp : p < lv := by
        rcases Nat.lt_or_ge p lv with z | z
        · exact z
        · exact absurd (nI_le z hp2) a2
      have hm := HS.2.2.2.1 p hp
      refine br_f a1 (br_f a2 (br_f cr_10 ⟨tp p + 1, cx_szl HS.2.1 hp ?_ (tp p + 1) 0 (by omega) (by omega)⟩))
      refine br_f a1 (br_t (nI_lt hp (by omega)) ⟨225, cy_szl (by omega) ⟨?_, cr_mk HS HD⟩ 225 0 (by omega) (by omega)⟩)
      have e1 : cr_ct (fun j => hy (p * 225 + (j + 1))) 224 = cr_ct (fun j => hy (p * 225 + (j + 1))) (tp p) := by
        have := cr_ctz (f := fun j => hy (p * 225 + (j + 1))) (n := tp p) (224 - tp p) (fun j j1 j2 => (HD.1 p (j + 1) hp (by omega) (by omega)).2 (by omega))
        rw [show tp p + (224 - tp p) = 224 by omega] at this
        exact this
      rw [e1]
      refine congrArg nI (cr_ctc (tp p) (fun j hj => ?_))
      have := (HD.1 p (j + 1) hp (by omega) (by omega)).1 (by omega)
      exact this.symm
theorem i_vc_largest {k : Nat} {u : SX} {v : SY} (I : i_Rel k u v) (hk : k + 4 ≤ 2050) (v1 : Int32) : wpX_largest (fun r => wpY_largest (fun r' => r' = r ∧ i_Rel (k + 4) u v) v v1) u v1 := by
  obtain ⟨li, ce, rm, lv, h, N, len, K, A, B, S, ln, ls, tp, bs, par, E, F, L, ph, hit, yX, aC, aL, aT, aE, aB, aF, iE, iF, iL, hx, mo, lno, sk, ki, lf, rg, hy, nx, be, dn, rfl, rfl, HS, HD⟩ := I
  have hl := HS.2.1.1
  by_cases a1 : v1 < 0
  · exact br_t a1 (br_t rfl (br_t a1 ⟨rfl, cr_mk HS HD⟩))
  · by_cases a2 : nI lv ≤ v1
    · exact br_f a1 (br_t a2 (br_t rfl (br_f a1 (br_f (Int32.not_lt.mpr a2) ⟨rfl, cr_mk HS HD⟩))))
    · obtain ⟨p, hp2, rfl⟩ := nI_of a1
      have hp : p < lv := by
        rcases Nat.lt_or_ge p lv with z | z
        · exact z
        · exact absurd (nI_le z hp2) a2
      have hm := HS.2.2.2.1 p hp
      have eT := (HS.2.1.2.1 p hp).2.1
      refine br_f a1 (br_f a2 (br_f cr_10 ⟨vp_in_nI (by omega) (by decide), nm_r (e' := nI (tp p)) (by rw [nI_clamp (by omega), eT]) ⟨tp p + 1, cx_lgl HS.2.1 hp (fun m hmx => ?_) (tp p) (tp p + 1) (by omega) (Nat.le_refl _) (fun v v1 v2 => by omega)⟩⟩))
      refine br_f a1 (br_t (nI_lt hp (by omega)) ⟨225, cy_lgl (by omega) (fun m' hmy => ⟨congrArg nI ?_, cr_mk HS HD⟩) 225 1 0 (by omega) (by omega) (by omega) ⟨by omega, Or.inl rfl, fun v v1 v2 => by omega⟩⟩)
      exact cr_mxu (show tp p ≤ 224 by omega) (fun v v1 v2 => (HD.1 p v hp v1 (by omega)).1 v2) (fun v v1 v2 => (HD.1 p v hp (by omega) (by omega)).2 v1) hmx hmy
theorem i_vc_smallest {k : Nat} {u : SX} {v : SY} (I : i_Rel k u v) (hk : k + 4 ≤ 2050) (v1 : Int32) : wpX_smallest (fun r => wpY_smallest (fun r' => r' = r ∧ i_Rel (k + 4) u v) v v1) u v1 := by
  obtain ⟨li, ce, rm, lv, h, N, len, K, A, B, S, ln, ls, tp, bs, par, E, F, L, ph, hit, yX, aC, aL, aT, aE, aB, aF, iE, iF, iL, hx, mo, lno, sk, ki, lf, rg, hy, nx, be, dn, rfl, rfl, HS, HD⟩ := I
  have hl := HS.2.1.1
  by_cases a1 : v1 < 0
  · exact br_t a1 (br_t rfl (br_t a1 ⟨rfl, cr_mk HS HD⟩))
  · by_cases a2 : nI lv ≤ v1
    · exact br_f a1 (br_t a2 (br_t rfl (br_f a1 (br_f (Int32.not_lt.mpr a2) ⟨rfl, cr_mk HS HD⟩))))
    · obtain ⟨p, hp2, rfl⟩ := nI_of a1
      have hp : p < lv := by
        rcases Nat.lt_or_ge p lv with z | z
        · exact z
        · exact absurd (nI_le z hp2) a2
      have hm := HS.2.2.2.1 p hp
      refine br_f a1 (br_f a2 (br_f cr_10 ⟨tp p + 1, cx_sml HS.2.1 hp (fun m hmx => ?_) (tp p + 1) 1 (by omega) (by omega) (by omega) (fun v v1 v2 => by omega)⟩))
      refine br_f a1 (br_t (nI_lt hp (by omega)) ⟨225, cy_sml (by omega) (fun m' hmy => ⟨congrArg nI ?_, cr_mk HS HD⟩) 224 225 0 (by omega) (by omega) (Or.inl ⟨rfl, fun v v1 v2 => by omega⟩)⟩)
      exact cr_mnu (show tp p ≤ 224 by omega) (fun v v1 v2 => (HD.1 p v hp v1 (by omega)).1 v2) (fun v v1 v2 => (HD.1 p v hp (by omega) (by omega)).2 v1) hmx hmy
theorem i_vc_holds {k : Nat} {u : SX} {v : SY} (I : i_Rel k u v) (hk : k + 4 ≤ 2050) (v1 : Int32) (v2 : Int32) : wpX_holds (fun r => wpY_holds (fun r' => r' = r ∧ i_Rel (k + 4) u v) v v1 v2) u v1 v2 := by
  obtain ⟨li, ce, rm, lv, h, N, len, K, A, B, S, ln, ls, tp, bs, par, E, F, L, ph, hit, yX, aC, aL, aT, aE, aB, aF, iE, iF, iL, hx, mo, lno, sk, ki, lf, rg, hy, nx, be, dn, rfl, rfl, HS, HD⟩ := I
  have hl := HS.2.1.1
  by_cases a1 : v1 < 0
  · exact br_t a1 (br_t rfl (br_t a1 ⟨rfl, cr_mk HS HD⟩))
  · by_cases a2 : nI lv ≤ v1
    · exact br_f a1 (br_t a2 (br_t rfl (br_f a1 (br_t a2 ⟨rfl, cr_mk HS HD⟩))))
    · by_cases a3 : v2 < 1
      · exact br_f a1 (br_f a2 (br_f cr_10 (br_t a3 (br_f a1 (br_f a2 (br_t a3 ⟨rfl, cr_mk HS HD⟩))))))
      · obtain ⟨p, hp2, rfl⟩ := nI_of a1
        have hp : p < lv := by
          rcases Nat.lt_or_ge p lv with z | z
          · exact z
          · exact absurd (nI_le z hp2) a2
        obtain ⟨w, hw2, rfl⟩ := nI_of (x := v2) (fun z => a3 (Int32.lt_trans z (by decide)))
        have w1 : 1 ≤ w := by
          rcases Nat.lt_or_ge w 1 with z | z
          · exact absurd (nI_lt (b := 1) z (by decide)) a3
          · exact z
        have hm := HS.2.2.2.1 p hp
        obtain ⟨eL, eT, eB, eE, t1, t2, t3⟩ := HS.2.1.2.1 p hp
        have cp : (nI p).toNatClampNeg = p := nI_clamp hp2
        have hi : vp_in (nI p) 12 := vp_in_nI (by omega) (by decide)
        have Y : ∀ r : Int32, (r = 0 ∨ r = 1) → (¬ r = 0 ↔ w < 225 ∧ ¬ hy (p * 225 + w) = 0) → wpY_holds (fun r' => r' = r ∧ i_Rel (k + 4) (nI li, nI ce, ph, nI h, nI lv, nI rm, nI len, hit, aC, aL, aT, aE, aB, aF, iE, iF, iL, hx) (nI li, nI ce, ph, nI h, nI lv, nI N, nI rm, nI len, hit, yX, aC, aL, mo, lno, sk, ki, lf, rg, hy, nx, be, dn)) (nI li, nI ce, ph, nI h, nI lv, nI N, nI rm, nI len, hit, yX, aC, aL, mo, lno, sk, ki, lf, rg, hy, nx, be, dn) (nI p) (nI w) := by
          intro r r01 hr
          refine br_f a1 (br_f a2 (br_f a3 ?_))
          by_cases b : 225 ≤ w
          · exact br_t (nI_le (a := 225) b hw2) ⟨cr_e01 (Or.inl rfl) r01 ⟨fun q => absurd rfl q, fun q => by have := (hr.mp q).1; omega⟩, cr_mk HS HD⟩
          · have e := cr_ix p w
            have ce : (nI (p * 225 + w)).toNatClampNeg = p * 225 + w := nI_clamp (by omega)
            refine br_f (nI_ge (b := 225) (by omega) (by decide)) ⟨(by rw [e]; exact vp_in_nI (by omega) (by decide)), ?_⟩
            by_cases z : hy (p * 225 + w) = 0
            · exact br_t (by rw [e, ce]; exact z) ⟨cr_e01 (Or.inl rfl) r01 ⟨fun q => absurd rfl q, fun q => absurd z (hr.mp q).2⟩, cr_mk HS HD⟩
            · exact br_f (by rw [e, ce]; exact z) ⟨cr_e01 (Or.inr rfl) r01 ⟨fun _ => hr.mpr ⟨by omega, z⟩, fun _ => cr_10⟩, cr_mk HS HD⟩
        refine br_f a1 (br_f a2 (br_f cr_10 (br_f a3 ⟨hi, ?_⟩)))
        by_cases b : w ≤ tp p
        · have e := cr_cell (aB := aB) (show p < 12 by omega) eB w1
          have ce : (nI (bs p + w - 1)).toNatClampNeg = bs p + w - 1 := nI_clamp (by omega)
          refine br_t (by rw [cp, eT]; exact nI_le b (by omega)) ⟨hi, (by rw [e]; exact vp_in_nI (by omega) (by decide)), (by rw [e, ce]; exact cr_nn (HD.2.1 _)), ?_⟩
          rw [e, ce]
          refine Y _ (HD.2.1 _) ?_
          rw [(HD.1 p w hp w1 (by omega)).1 b]
          exact ⟨fun q => ⟨by omega, q⟩, fun q => q.2⟩
        · refine br_f (by rw [cp, eT]; exact nI_ge (by omega) hw2) (Y 0 (Or.inl rfl) ⟨fun q => absurd rfl q, fun q => absurd ((HD.1 p w hp w1 q.1).2 (by omega)) q.2⟩)
end CRZ
