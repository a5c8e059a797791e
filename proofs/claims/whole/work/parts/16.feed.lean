section CRG
/-! owed: feed, in lockstep -/
variable {k li ce rm lv h N len : Nat} {K A B S ln ls tp bs par : Nat → Nat} {E : Nat → Prop} {F L : Nat → Nat → Prop} {ph hit yX : Int32} {aC aL aT aE aB aF iE iF iL hx mo lno sk ki lf rg hy nx be dn : Nat → Int32}
/-- one letter more on both sides -/
theorem cr_Dst {x : Nat} {hx' hy' be' dn' : Nat → Int32} (HS : cr_S li ce rm lv 1 N K A B S ln ls tp bs par E F L aL aT aE aB aF iE iF iL mo lno sk ki lf rg) (HD : cr_D ph 1 len lv tp bs hx hy be dn) (h12 : ph = 1 ∨ ph = 2) (hl : len + 1 ≤ 4000) (x01 : cr_01 hx') (y01 : cr_01 hy') (b01 : cr_01 be') (d01 : cr_01 dn')
    (HX : ∀ q, q < lv → ∀ v, 1 ≤ v → v ≤ tp q → (¬ hx' (bs q + v - 1) = 0 ↔ cr_W aC aE hx tp bs (cr_xn ph (nI len) lv (cr_C hx ls tp bs) aF iF) x q v))
    (HY : cr_nx (fun q v => q < lv ∧ 1 ≤ v ∧ v ≤ tp q) (cr_V aC mo hy tp (cr_en (cr_ys ph (nI len)) (S 0) N K A B F L (cr_cy lv hy ls)) x) hy') :
    cr_D ph 1 (len + 1) lv tp bs hx' hy' be' dn' := by
  obtain ⟨dy, _, _, _, _, l4, q1, q2, q3⟩ := HD
  have hl12 := HS.2.1.1
  refine ⟨fun p v hp v1 v2 => ⟨fun z => ?_, fun z => ?_⟩, x01, y01, b01, d01, hl, q1, q2, fun z => ?_⟩
  · refine cr_e01 (x01 _) (y01 _) ?_
    rw [HX p hp v v1 z, (HY p v (by omega) v2).1 ⟨hp, v1, z⟩]
    exact cr_WV HS dy hp (cr_EE HS dy h12 hp) v1 z
  · exact (HY p v (by omega) v2).2 (fun q => by omega)
  · rw [z] at h12; exact absurd h12 (by decide)
theorem cr_fdl {x t : Nat} {Y0 : (Int32 → SY → Prop) → Prop} (HS : cr_S li ce rm lv 1 N K A B S ln ls tp bs par E F L aL aT aE aB aF iE iF iL mo lno sk ki lf rg) (h12 : ph = 1 ∨ ph = 2) (hx8 : x < 8) (ht : t ≤ 16) : ∀ d i len hit c hx, i + d = t → len + d ≤ 4000 → cr_01 hx →
    (∀ Q : Int32 → SY → Prop, (∀ hy nx be dn yX, cr_D ph 1 len lv tp bs hx hy be dn → wY_feed_53 Q (nI x) (nI t) (d + 1) c (nI i) (nI li) (nI ce) ph (nI 1) (nI lv) (nI N) (nI rm) (nI len) hit yX aC aL mo lno sk ki lf rg hy nx be dn) → Y0 Q) →
    wX_feed_50 (fun r u' => Y0 (fun r' v' => r' = r ∧ i_Rel k u' v')) (nI x) (nI t) (d + 1) c (nI i) (nI li) (nI ce) ph (nI 1) (nI lv) (nI rm) (nI len) hit aC aL aT aE aB aF iE iF iL hx := by
  obtain ⟨⟨n1, n2, n3, n4, n5, n6, n7, n8⟩, G, HB, HM, HE, HT, HQ, HI, HF⟩ := id HS
  have hs : ∀ p, p < lv → ls p ≤ 224 := fun p hp => by have := HM p hp; omega
  intro d
  induction d with
  | zero =>
    intro i len hit c hx hi hl x01 car
    have e : i = t := by omega
    subst e
    exact br_t (nI_le (Nat.le_refl i) (by omega)) (car _ (fun hy nx be dn yX HD => br_t (nI_le (Nat.le_refl i) (by omega)) ⟨rfl, cr_mk HS HD⟩))
  | succ d ih =>
    intro i len hit c hx hi hl x01 car
    refine br_f (nI_ge (by omega) (by omega)) (cx_ap hx8 G x01 (fun hx' x01' HX => ?_))
    rw [nI_1 len]
    -- what Y does with this letter
    have Y : ∀ (acc : Prop) (hit' c' : Int32), (∀ hy', cr_dy lv tp bs hx' hy' → (acc ↔ cr_ya ph (nI (len + 1)) (S 0) lv E L hy' ls)) → (acc → hit' = nI (len + 1) ∧ c' = c + 1) → (¬ acc → hit' = hit ∧ c' = c) →
        ∀ Q : Int32 → SY → Prop, (∀ hy nx be dn yX, cr_D ph 1 (len + 1) lv tp bs hx' hy be dn → wY_feed_53 Q (nI x) (nI t) (d + 1) c' (nI (i + 1)) (nI li) (nI ce) ph (nI 1) (nI lv) (nI N) (nI rm) (nI (len + 1)) hit' yX aC aL mo lno sk ki lf rg hy nx be dn) → Y0 Q := by
      intro acc hit' c' hacc ha hna Q HQ'
      refine car Q (fun hy nx be dn yX HD => ?_)
      obtain ⟨dy, _, y01, b01, d01, _⟩ := id HD
      refine br_f (nI_ge (by omega) (by omega)) (cy_step HT HQ HM (by omega) (by omega) (by omega) b01 d01 hx8 y01 (fun hy' nx' be' dn' yX' y01' b01' d01' I => nm_r (nI_1 len) ?_))
      refine cy_acc HT HQ (by omega) (by omega) (by omega) hs b01' d01' (fun be2 dn2 yX2 r b2 d2 r01 hr => ?_)
      have HD' := cr_Dst HS HD h12 (by omega) x01' y01' b2 d2 HX I
      have hr' := hr.trans (hacc hy' HD'.1).symm
      have go := HQ' hy' nx' be2 dn2 yX2 HD'
      by_cases z : r = 0
      · obtain ⟨e1, e2⟩ := hna (fun q => hr'.mpr q z)
        rw [e1, e2] at go
        exact br_t z (nm_r (nI_1 i) go)
      · obtain ⟨e1, e2⟩ := ha (hr'.mp z)
        rw [e1, e2] at go
        exact br_f z (nm_e (nm_r (nI_1 i) go))
    refine cx_acc G (fun z => br_f cr_10 (nm_e (nm_r (nI_1 i) (ih (i + 1) (len + 1) (nI (len + 1)) (c + 1) hx' (by omega) (by omega) x01' ?_)))) (fun z => br_t rfl (nm_r (nI_1 i) (ih (i + 1) (len + 1) hit c hx' (by omega) (by omega) x01' ?_)))
    · exact Y True _ _ (fun hy' dy' => ⟨fun _ => (cr_AA HS dy' h12).mp z, fun _ => trivial⟩) (fun _ => ⟨rfl, rfl⟩) (fun q => absurd trivial q)
    · exact Y False _ _ (fun hy' dy' => ⟨fun q => absurd q id, fun q => z ((cr_AA HS dy' h12).mpr q)⟩) (fun q => absurd q id) (fun _ => ⟨rfl, rfl⟩)
theorem i_vc_feed {k : Nat} {u : SX} {v : SY} (I : i_Rel k u v) (hk : k + 4 ≤ 2050) (v1 : Int32) (v2 : Int32) : wpX_feed (fun r u' => wpY_feed (fun r' v' => r' = r ∧ i_Rel (k + 4) u' v') v v1 v2) u v1 v2 := by
  obtain ⟨li, ce, rm, lv, h, N, len, K, A, B, S, ln, ls, tp, bs, par, E, F, L, ph, hit, yX, aC, aL, aT, aE, aB, aF, iE, iF, iL, hx, mo, lno, sk, ki, lf, rg, hy, nx, be, dn, rfl, rfl, HS, HD⟩ := I
  obtain ⟨dy, x01, y01, b01, d01, l4, q1, q2, q3⟩ := id HD
  by_cases p0 : ph = 0
  · exact br_t p0 (br_t p0 ⟨rfl, cr_mk HS HD⟩)
  · refine br_f p0 ?_
    by_cases a1 : v1 < 0
    · exact br_t a1 (br_t rfl (br_f p0 (br_t a1 ⟨rfl, cr_mk HS HD⟩)))
    · by_cases a2 : 7 < v1
      · exact br_f a1 (br_t a2 (br_t rfl (br_f p0 (br_f a1 (br_t a2 ⟨rfl, cr_mk HS HD⟩)))))
      · refine br_f a1 (br_f a2 (br_f cr_10 ?_))
        by_cases a3 : v2 < 1
        · exact br_t a3 (br_f p0 (br_f a1 (br_f a2 (br_t a3 ⟨rfl, cr_mk HS HD⟩))))
        · by_cases a4 : v2 ≤ 16
          · obtain ⟨x, hx2, rfl⟩ := nI_of a1
            have hx8 : x < 8 := by
              rcases Nat.lt_or_ge 7 x with z | z
              · exact absurd (nI_lt (a := 7) z hx2) a2
              · omega
            obtain ⟨t, ht2, rfl⟩ := nI_of (x := v2) (fun z => a3 (Int32.lt_trans z (by decide)))
            have ht : t ≤ 16 := (nI_leI (b := 16) ht2 (by decide)).mp a4
            have ea : nI len + nI t = nI (len + t) := nI_add len t
            refine br_f a3 (br_t a4 ?_)
            by_cases a5 : len + t ≤ 4000
            · have h5 : nI len + nI t ≤ 4000 := by rw [ea]; exact nI_le (b := 4000) a5 (by decide)
              have h1 := q2 p0
              subst h1
              have h12 : ph = 1 ∨ ph = 2 := q1.elim (fun z => absurd z p0) id
              refine br_t h5 ⟨t + 1, ?_⟩
              refine cr_fdl (Y0 := fun Q => wpY_feed Q (nI li, nI ce, ph, nI 1, nI lv, nI N, nI rm, nI len, hit, yX, aC, aL, mo, lno, sk, ki, lf, rg, hy, nx, be, dn) (nI x) (nI t)) HS h12 hx8 ht t 0 len hit 0 hx (by omega) a5 x01 (fun Q HQ' => ?_)
              exact br_f p0 (br_f a1 (br_f a2 (br_f a3 (br_t a4 (br_t h5 ⟨t + 1, HQ' hy nx be dn yX HD⟩)))))
            · have h5 : ¬ nI len + nI t ≤ 4000 := by rw [ea]; exact nI_ge (a := 4000) (by omega) (by omega)
              exact br_f h5 (br_f p0 (br_f a1 (br_f a2 (br_f a3 (br_t a4 (br_f h5 ⟨rfl, cr_mk HS HD⟩))))))
          · exact br_f a3 (br_f a4 (br_f p0 (br_f a1 (br_f a2 (br_f a3 (br_f a4 ⟨rfl, cr_mk HS HD⟩))))))
end CRG
