section CRV
/-! owed: op -/
variable {k li ce rm lv h N len : Nat} {K A B S ln ls tp bs par : Nat → Nat} {E : Nat → Prop} {F L : Nat → Nat → Prop} {ph hit yX : Int32} {aC aL aT aE aB aF iE iF iL hx mo lno sk ki lf rg hy nx be dn : Nat → Int32}
variable {xP xT xC xR xN xH yM yC yP yT yL yN yR yG yH : Int32} {ma lea : Nat → Int32}
theorem cr_Sop {hh rm' kd a c : Nat} {e pe : Prop} {f l pf pl : Nat → Prop} {par' : Nat → Nat} {f' e1 f1 l1 : Nat → Int32} (HS : cr_S li ce rm lv hh N K A B S ln ls tp bs par E F L aL aT aE aB aF iE iF iL mo lno sk ki lf rg) (h1 : h + 1 ≤ hh)
    (T' : cr_tr lv (h + 1) (N + 1) (cr_u K N kd) (cr_u A N a) (cr_u B N c) (cr_u S h N) ln ls par' (cr_u E N e) (cr_u F N f) (cr_u L N l)) (ha : a < N) (hc : c < N)
    (r1 : rm' ≤ rm) (r2 : N + 1 + (h + 1) ≤ (ce - rm') + lv)
    (it : cr_it h iE iF iL e1 f1 l1 pe pf pl) (he : pe ↔ e) (hf : ∀ p, p < 12 → (pf p ↔ f p)) (hl : ∀ p, p < 12 → (pl p ↔ l p))
    (fo : ∀ q, q < lv → ∀ p, p < 12 → (bt (f' q) p = true ↔ bt (aF q) p = true ∨ (kd = 1 ∧ L a q ∧ F c p) ∨ ((kd = 3 ∨ kd = 4) ∧ L a q ∧ F a p))) :
    cr_S li ce rm' lv (h + 1) (N + 1) (cr_u K N kd) (cr_u A N a) (cr_u B N c) (cr_u S h N) ln ls tp bs par' (cr_u E N e) (cr_u F N f) (cr_u L N l) aL aT aE aB f' e1 f1 l1 mo lno (upd sk h (nI N)) (upd ki N (nI kd)) (upd lf N (nI a)) (upd rg N (nI c)) := by
  obtain ⟨⟨n1, n2, n3, n4, n5, n6, n7, n8⟩, G, HB, HM, HE, HT, HQ, HI, HF⟩ := HS
  refine ⟨⟨n1, n2, n3, n4, by omega, n6, by omega, r2⟩, G, fun p hp => ?_, HM, HE, T', ⟨fun n hn => ?_, fun i hi => ?_, HQ.2.2⟩, fun i hi => ?_, fun q hq p hp => ?_⟩
  · have := HB p hp
    omega
  · by_cases e' : n = N
    · subst e'
      rw [pk_us, pk_us, pk_us, cr_us, cr_us, cr_us]
      exact ⟨rfl, rfl, rfl⟩
    · rw [pk_un e', pk_un e', pk_un e', cr_un e', cr_un e', cr_un e']
      exact HQ.1 n (by omega)
  · by_cases e' : i = h
    · subst e'
      rw [pk_us, cr_us]
    · rw [pk_un e', cr_un e']
      exact HQ.2.1 i (by omega)
  · by_cases e' : i = h
    · subst e'
      rw [cr_us, cr_us, cr_us, cr_us]
      exact ⟨it.2.1.trans he, fun p hp => (it.2.2.1 p).trans (hf p hp), fun p hp => (it.2.2.2 p).trans (hl p hp)⟩
    · have hS := (HT.2.1 i (by omega)).1
      have e2 : S i ≠ N := by omega
      obtain ⟨o1, o2, o3⟩ := it.1 i e'
      rw [cr_un e', cr_un e2, cr_un e2, cr_un e2, o1, o2, o3]
      exact HI i (by omega)
  · rw [cr_foS HT (fun _ => ⟨ha, hc⟩), fo q hq p hp, HF q hq p hp]
theorem cr_Dop (HD : cr_D 0 h len lv tp bs hx hy be dn) {h' : Nat} : cr_D 0 h' len lv tp bs hx hy be dn := by
  obtain ⟨d1, x01, y01, b01, d01, l4, q1, q2, q3⟩ := HD
  exact ⟨d1, x01, y01, b01, d01, l4, q1, fun z => absurd rfl z, q3⟩
theorem cy_op2 {post : Int32 → SY → Prop} {kd a c : Nat} (hk : kd = 1 ∨ kd = 2) (hN : N < 260) (hh : h + 2 ≤ 12) (ea : sk h = nI a) (ec : sk (h + 1) = nI c)
    (H : post (nI (h + 1)) (yM, yC, 0, nI (h + 1), yL, nI (N + 1), yR, yG, yH, yX, ma, lea, mo, lno, upd sk h (nI N), upd ki N (nI kd), upd lf N (nI a), upd rg N (nI c), hy, nx, be, dn)) : wpY_op post (yM, yC, 0, nI (h + 2), yL, nI N, yR, yG, yH, yX, ma, lea, mo, lno, sk, ki, lf, rg, hy, nx, be, dn) (nI kd) := by
  have o37 : wY_op_37 post (nI kd) 2 yM yC 0 (nI (h + 2)) yL (nI N) yR yG yH yX ma lea mo lno sk ki lf rg hy nx be dn := by
    refine br_t (nI_le (a := 2) (by omega) (by omega)) (br_f (by decide) (br_f (by decide) (nm_r (e' := nI h) (pk_sub (a := h + 2) (b := 2) (by omega)) ⟨vp_in_nI (by omega) (by decide), ?_⟩)))
    have e1 : nI h + 2 - 1 = nI (h + 1) := (congrArg (· - 1) (nI_add h 2)).trans (nI_pred (h + 1))
    rw [e1, nI_clamp (by omega), nI_clamp (by omega), ea, ec]
    exact ⟨vp_in_nI (by omega) (by decide), cy_push hN (by omega) H⟩
  refine br_t rfl (br_f (nI_nlt (b := 1) (by omega) (by omega)) (br_t (nI_le (b := 5) (by omega) (by decide)) (pk_eq kd 1 (fun _ => o37) (fun _ => pk_eq kd 2 (fun _ => o37) (fun z => by omega)))))
theorem cy_op1 {post : Int32 → SY → Prop} {kd a : Nat} (k3 : 3 ≤ kd) (k5 : kd ≤ 5) (hN : N < 260) (hh : h + 1 ≤ 12) (hr : rm < 1000) (ea : sk h = nI a)
    (H : post (nI (h + 1)) (yM, yC, 0, nI (h + 1), yL, nI (N + 1), nI rm, yG, yH, yX, ma, lea, mo, lno, upd sk h (nI N), upd ki N (nI kd), upd lf N (nI a), upd rg N (nI a), hy, nx, be, dn)) : wpY_op post (yM, yC, 0, nI (h + 1), yL, nI N, nI (rm + 1), yG, yH, yX, ma, lea, mo, lno, sk, ki, lf, rg, hy, nx, be, dn) (nI kd) := by
  have o37 : wY_op_37 post (nI kd) 1 yM yC 0 (nI (h + 1)) yL (nI N) (nI (rm + 1)) yG yH yX ma lea mo lno sk ki lf rg hy nx be dn := by
    refine br_t (nI_le (a := 1) (by omega) (by omega)) (br_t rfl (br_t (nI_le (a := 1) (by omega) (by omega)) (br_t rfl (nm_r (nI_pred rm) (nm_r (e' := nI h) (nI_pred h) ⟨vp_in_nI (by omega) (by decide), ?_⟩)))))
    have e1 : nI h + 1 - 1 = nI h := (congrArg (· - 1) (nI_1 h)).trans (nI_pred h)
    rw [e1, nI_clamp (by omega), ea]
    exact ⟨vp_in_nI (by omega) (by decide), cy_push hN (by omega) H⟩
  refine br_t rfl (br_f (nI_nlt (b := 1) (by omega) (by omega)) (br_t (nI_le (b := 5) (by omega) (by decide)) (pk_eq kd 1 (fun z => by omega) (fun _ => pk_eq kd 2 (fun z => by omega) (fun _ => o37)))))
theorem i_vc_op {k : Nat} {u : SX} {v : SY} (I : i_Rel k u v) (hk : k + 4 ≤ 2050) (v1 : Int32) : wpX_op (fun r u' => wpY_op (fun r' v' => r' = r ∧ i_Rel (k + 4) u' v') v v1) u v1 := by
  obtain ⟨li, ce, rm, lv, h, N, len, K, A, B, S, ln, ls, tp, bs, par, E, F, L, ph, hit, yX, aC, aL, aT, aE, aB, aF, iE, iF, iL, hx, mo, lno, sk, ki, lf, rg, hy, nx, be, dn, rfl, rfl, HS, HD⟩ := I
  obtain ⟨⟨n1, n2, n3, n4, n5, n6, n7, n8⟩, G, HB, HM, HE, HT, HQ, HI, HF⟩ := id HS
  by_cases p0 : ph = 0
  · subst p0
    by_cases a1 : v1 < 1
    · exact br_t rfl (br_t a1 (br_t rfl (br_t a1 ⟨rfl, cr_mk HS HD⟩)))
    · by_cases a2 : v1 ≤ 5
      · have h0 : ¬ v1 < 0 := fun z => a1 (Int32.lt_trans z (by decide))
        obtain ⟨kd, hkd, rfl⟩ := nI_of h0
        have k1 : 1 ≤ kd := by
          rcases Nat.lt_or_ge kd 1 with z | z
          · exact absurd (nI_lt (b := 1) z (by decide)) a1
          · exact z
        have k5 : kd ≤ 5 := (nI_leI (b := 5) hkd (by decide)).mp a2
        by_cases b12 : kd = 1 ∨ kd = 2
        · by_cases hh2 : h < 2
          · have few : ¬ (2 : Int32) ≤ nI h := nI_ge (b := 2) hh2 (by decide)
            have x37 : ∀ {post : Int32 → SX → Prop}, post (-4) (nI li, nI ce, 0, nI h, nI lv, nI rm, nI len, hit, aC, aL, aT, aE, aB, aF, iE, iF, iL, hx) → wX_op_37 post (nI kd) 1 (nI li) (nI ce) 0 (nI h) (nI lv) (nI rm) (nI len) hit aC aL aT aE aB aF iE iF iL hx := fun q => br_f cr_10 (br_f few q)
            have y37 : ∀ {post : Int32 → SY → Prop}, post (-4) (nI li, nI ce, 0, nI h, nI lv, nI N, nI rm, nI len, hit, yX, aC, aL, mo, lno, sk, ki, lf, rg, hy, nx, be, dn) → wY_op_37 post (nI kd) 2 (nI li) (nI ce) 0 (nI h) (nI lv) (nI N) (nI rm) (nI len) hit yX aC aL mo lno sk ki lf rg hy nx be dn := fun q => br_f few q
            refine br_t rfl (br_f a1 (br_t a2 ?_))
            rcases b12 with rfl | rfl
            · exact br_t rfl (x37 (br_t rfl (br_f a1 (br_t a2 (br_t rfl (y37 ⟨rfl, cr_mk HS HD⟩))))))
            · exact br_f (by decide) (br_t rfl (x37 (br_t rfl (br_f a1 (br_t a2 (br_f (by decide) (br_t rfl (y37 ⟨rfl, cr_mk HS HD⟩))))))))
          · obtain ⟨h, rfl⟩ : ∃ h', h = h' + 2 := ⟨h - 2, by omega⟩
            obtain ⟨sa, sa'⟩ := HT.2.1 h (by omega)
            obtain ⟨sc, sc'⟩ := HT.2.1 (h + 1) (by omega)
            obtain ⟨ja, fa, la⟩ := HI h (by omega)
            obtain ⟨jc, fc, lc⟩ := HI (h + 1) (by omega)
            have ea := HQ.2.1 h (by omega)
            have ec := HQ.2.1 (h + 1) (by omega)
            rcases b12 with rfl | rfl
            · refine cx_op1 (by omega) (by omega) (fun f' e1 f1 l1 hf it => ?_)
              refine cy_op2 (kd := 1) (Or.inl rfl) (by omega) (by omega) ea ec ⟨rfl, cr_mk (cr_Sop HS (by omega) (cr_push2 (k := 1) (e := E (S h) ∧ E (S (h + 1))) (f := fun p => F (S h) p ∨ (E (S h) ∧ F (S (h + 1)) p)) (l := fun p => L (S (h + 1)) p ∨ (E (S (h + 1)) ∧ L (S h) p)) HT (by omega) rfl rfl (Or.inl ⟨rfl, Iff.rfl, fun p => Iff.rfl, fun p => Iff.rfl⟩)) sa sc (Nat.le_refl _) (by omega) it ?_ (fun p hp => ?_) (fun p hp => ?_) (fun q hq p hp => ?_)) (cr_Dop HD)⟩
              · rw [ja, jc]
              · rw [fa p hp, ja, fc p hp]
              · rw [lc p hp, jc, la p hp]
              · rw [hf q hq p, la q (by omega), fc p hp]
                exact ⟨fun z => z.elim Or.inl (fun z => Or.inr (Or.inl ⟨rfl, z⟩)), fun z => z.elim Or.inl (fun z => z.elim (fun z => Or.inr z.2) (fun z => absurd z.1 (by decide)))⟩
            · refine cx_op2 (by omega) (fun e1 f1 l1 it => ?_)
              refine cy_op2 (kd := 2) (Or.inr rfl) (by omega) (by omega) ea ec ⟨rfl, cr_mk (cr_Sop HS (by omega) (cr_push2 (k := 2) (e := E (S h) ∨ E (S (h + 1))) (f := fun p => F (S h) p ∨ F (S (h + 1)) p) (l := fun p => L (S h) p ∨ L (S (h + 1)) p) HT (by omega) rfl rfl (Or.inr ⟨rfl, Iff.rfl, fun p => Iff.rfl, fun p => Iff.rfl⟩)) sa sc (Nat.le_refl _) (by omega) it ?_ (fun p hp => ?_) (fun p hp => ?_) (fun q hq p hp => ?_)) (cr_Dop HD)⟩
              · rw [ja, jc]
              · rw [fa p hp, fc p hp]
              · rw [la p hp, lc p hp]
              · exact ⟨Or.inl, fun z => z.elim id (fun z => z.elim (fun z => absurd z.1 (by decide)) (fun z => absurd z.1 (by decide)))⟩
        · have nb1 : kd ≠ 1 := fun z => b12 (Or.inl z)
          have nb2 : kd ≠ 2 := fun z => b12 (Or.inr z)
          have i1 : ¬ nI kd = 1 := fun z => nb1 ((nI_eq (b := 1) hkd (by decide)).mp z)
          have i2 : ¬ nI kd = 2 := fun z => nb2 ((nI_eq (b := 2) hkd (by decide)).mp z)
          by_cases hh1 : h < 1
          · have few : ¬ (1 : Int32) ≤ nI h := nI_ge (b := 1) hh1 (by decide)
            exact br_t rfl (br_f a1 (br_t a2 (br_f i1 (br_f i2 (br_t rfl (br_f few (br_t rfl (br_f a1 (br_t a2 (br_f i1 (br_f i2 (br_f few ⟨rfl, cr_mk HS HD⟩))))))))))))
          · obtain ⟨h, rfl⟩ : ∃ h', h = h' + 1 := ⟨h - 1, by omega⟩
            have hge : (1 : Int32) ≤ nI (h + 1) := nI_le (a := 1) (by omega) (by omega)
            by_cases hr1 : rm < 1
            · have few : ¬ (1 : Int32) ≤ nI rm := nI_ge (b := 1) hr1 (by decide)
              exact br_t rfl (br_f a1 (br_t a2 (br_f i1 (br_f i2 (br_t rfl (br_t hge (br_t rfl (br_f few (br_t rfl (br_f a1 (br_t a2 (br_f i1 (br_f i2 (br_t hge (br_t rfl (br_f few ⟨rfl, cr_mk HS HD⟩))))))))))))))))
            · obtain ⟨rm, rfl⟩ : ∃ r', rm = r' + 1 := ⟨rm - 1, by omega⟩
              obtain ⟨sa, sa'⟩ := HT.2.1 h (by omega)
              obtain ⟨ja, fa, la⟩ := HI h (by omega)
              have ea := HQ.2.1 h (by omega)
              refine cx_op3 (by omega) (by omega) (by omega) k5 (by omega) (fun f' e1 hf it => ?_)
              refine cy_op1 (by omega) k5 (by omega) (by omega) (by omega) ea ⟨rfl, cr_mk (cr_Sop HS (by omega) (cr_push1 (k := kd) (c := S h) (e := kd ≠ 4 ∨ E (S h)) HT (by omega) rfl (by omega) k5 Iff.rfl) sa sa (by omega) (by omega) it ?_ (fun p hp => ?_) (fun p hp => ?_) (fun q hq p hp => ?_)) (cr_Dop HD)⟩
              · rw [ja]
              · rw [fa p hp]
              · rw [la p hp]
              · rw [hf q hq p, la q (by omega), fa p hp]
                exact ⟨fun z => z.elim Or.inl (fun z => Or.inr (Or.inr z)), fun z => z.elim Or.inl (fun z => z.elim (fun z => absurd z.1 nb1) Or.inr)⟩
      · exact br_t rfl (br_f a1 (br_f a2 (br_t rfl (br_f a1 (br_f a2 ⟨rfl, cr_mk HS HD⟩)))))
  · exact br_f p0 (br_f p0 ⟨rfl, cr_mk HS HD⟩)
end CRV
