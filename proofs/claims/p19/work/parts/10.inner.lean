section CBI
/-! building: the operators behind a leaf -/
variable {L b n i : Nat} {xs : Nat → Int32} {bs : Nat → Nat} {aC aL aT aE aB aF iE iF iL hx : Nat → Int32} {xN xH : Int32} {post : Int32 → Prop} {kc ks : Nat}
abbrev cb_T14 : Type := Int32 → Int32 → Int32 → Int32 → Int32 → Int32 → Int32 → Int32 → Int32 → (Nat → Int32) → (Nat → Int32) → (Nat → Int32) → (Nat → Int32) → (Nat → Int32) → (Nat → Int32) → (Nat → Int32) → (Nat → Int32) → (Nat → Int32) → (Nat → Int32) → Prop
abbrev cb_T49 : Type := Int32 → Int32 → Int32 → Int32 → Int64 → Int32 → Int32 → Int32 → Int32 → Int32 → Int32 → Int32 → Int32 → Int32 → (Nat → Int32) → (Nat → Int32) → (Nat → Int32) → (Nat → Int32) → (Nat → Int32) → (Nat → Int32) → (Nat → Int32) → (Nat → Int32) → (Nat → Int32) → (Nat → Int32) → Prop
abbrev cb_T156 : Type := Int32 → Int32 → Int32 → Int32 → Int64 → Int32 → Int32 → Int32 → Int32 → Int32 → Int32 → Int32 → Int32 → Int32 → Int32 → (Nat → Int32) → (Nat → Int32) → (Nat → Int32) → (Nat → Int32) → (Nat → Int32) → (Nat → Int32) → (Nat → Int32) → (Nat → Int32) → (Nat → Int32) → (Nat → Int32) → Prop
variable {J14 : cb_T14} {J49 : cb_T49} {J156 : cb_T156}
theorem cb_335 {h j rm g w s : Nat} {fol : Int32} (hg : g < 2 ^ 31) (hj : j < 1000) (H : ∀ u, (u = 0 ∨ (3 ≤ u ∧ u ≤ 5)) → J156 fol (nI h) (nI (i - h)) (nI w) (lN s) (nI u) (nI (j + 1)) (nI 4) (nI 224) 0 (nI (h + 1)) (nI (i + 1)) (nI rm) xN xH aC aL aT aE aB aF iE iF iL hx) {x11 x13 x4 : Int32} :
    wL_law_335 post L xs J14 J49 J156 (nI b) x4 fol (nI h) (nI (i - h)) (lN s) x11 x13 (nI j) (nI g) (nI w) kc ks (nI 4) (nI 224) 0 (nI (h + 1)) (nI (i + 1)) (nI rm) xN xH aC aL aT aE aB aF iE iF iL hx := by
  have ed : nI g / 3 = nI (g / 3) := pk_div hg (by decide) (by decide)
  refine ⟨by decide, ?_⟩
  rw [ed]
  exact cl_un (by omega) (nm_r (nI_1 j) (H (cl_u (g / 3)) (cl_ub _)))
theorem cb_215 {h j lim rm w s : Nat} {fol : Int32} (hL : L ≤ 260) (hb : b < 900) (hl3 : lim ≤ 3) (hln : i + 1 = n → lim = 3) (hj : j ≤ lim)
    (I : cb_I L xs b n i h j 0 rm w s fol bs aC aL aT aE aB aF iE iF iL)
    (H : ∀ h' u' w' s' fol' aF' iE' iF' iL', cb_I L xs b n i h' (j + 1) u' rm w' s' fol' bs aC aL aT aE aB aF' iE' iF' iL' → J156 fol' (nI h') (nI (i - h')) (nI w') (lN s') (nI u') (nI (j + 1)) (nI 4) (nI 224) 0 (nI (h' + 1)) (nI (i + 1)) (nI rm) xN xH aC aL aT aE aB aF' iE' iF' iL' hx) :
    wL_law_215 post L xs J14 J49 J156 (nI b) (nI n) fol (nI h) (nI (i - h)) (nI w) (lN s) (nI i) (nI lim) (nI j) kc ks (nI 4) (nI 224) 0 (nI (h + 1)) (nI (i + 1)) (nI rm) xN xH aC aL aT aE aB aF iE iF iL hx := by
  obtain ⟨⟨n1, n2, n3, n4, n5, n6⟩, S1, F1, K1, R1⟩ := id I
  rw [if_pos rfl] at n5
  have stay : (i + 1 = n → h = 0 ∨ h + (j + 1) ≤ 3) → J156 fol (nI h) (nI (i - h)) (nI w) (lN s) 0 (nI (j + 1)) (nI 4) (nI 224) 0 (nI (h + 1)) (nI (i + 1)) (nI rm) xN xH aC aL aT aE aB aF iE iF iL hx := fun z =>
    H h 0 w s fol aF iE iF iL ⟨⟨n1, n2, n3, n4, by rw [if_pos rfl]; exact n5, z⟩, S1, F1, K1, R1⟩
  refine pk_le lim j (fun z => nm_r (nI_1 j) (stay (fun q => by have := hln q; have := n6 q; omega))) (fun z => pk_le h 0 (fun z0 => nm_r (nI_1 j) (stay (fun _ => Or.inl (by omega)))) (fun z0 => ?_))
  obtain ⟨h, rfl⟩ : ∃ h', h = h' + 1 := ⟨h - 1, by omega⟩
  obtain ⟨KR, KK⟩ := K1
  have s36 : s < 2 ^ 36 := cb_K36 (h := h + 1) (by omega) ⟨KR, KK⟩
  have ei : ((nI b + 1) + (4 * nI n)) + nI (i - (h + 1)) = nI (b + 1 + 4 * n + (i - (h + 1))) := by rw [cl_4, nI_1, nI_add, nI_add]
  rw [ei]
  refine cl_num hL (by omega) ?_
  have hg := cl_nl (L := L) (xs := xs) (k := b + 1 + 4 * n + (i - (h + 1)))
  generalize cl_n L xs (b + 1 + 4 * n + (i - (h + 1))) = g at hg ⊢
  have e511 : (lN s &&& 511).toInt32 = nI (s % 512) := by
    have : lN s &&& 511 = lN (s % 512) := g_mask (p := 512) (s := 9) rfl (by decide) (by omega)
    rw [this, lN_i]
  have e9 : ((lN s).toUInt64 >>> ((9 : Int32).toInt64.toUInt64 &&& Int64.toUInt64 63)).toInt64 = lN (s / 512) := wb_shr (n := s) (k := 9) (by omega) (by decide)
  have eh : nI (h + 1) + (-1) = nI h := pk_m1 h
  have e7 : nI (i - (h + 1)) + 1 = nI (i - h) := by rw [nI_1]; congr 1; omega
  have er : nI g - nI g / 3 * 3 = nI (g % 3) := pk_rem hg (by decide) (by decide)
  have hw := R1.1
  have hlw := KR.1
  generalize hlf : s % 512 = lft at KR hlw e511
  have n6' : i + 1 = n → h = 0 ∨ h + (j + 1) ≤ 3 := fun q => by have := n6 q; omega
  have room : ∀ u : Nat, 224 + (if u = 0 then 0 else 1) ≤ rm + 47 * (i + 1) + (i - h) := fun u => by split <;> omega
  refine nm_r e511 (nm_r e7 (nm_r e9 (nm_r eh ⟨by decide, ?_⟩)))
  refine pk_eq (g % 3) 0 (fun g0 => ?_) (fun g0 => ?_) er
  · -- ALT
    refine cx_op2 (by omega) (fun e1 f1 l1 it => ⟨by decide, pk_eq (g % 3) 0 (fun _ => ⟨by decide, pk_eq (g % 3) 0 (fun _ => ?_) (fun z => absurd g0 z) er⟩) (fun z => absurd g0 z) er⟩)
    rw [cl_nor]
    refine cb_335 hg (by omega) (fun u hu => H h u (w ||| lft) (s / 512) fol aF e1 f1 l1 ⟨⟨n1, n2, by omega, hu, room u, n6'⟩, S1, F1, cb_Km h _ (fun q hq v hv => cb_Ro it (by omega) hv) KK, cb_Rn it (cl_alt hw hlw) ?_ (fun p hp => ?_) (fun p hp => ?_) (fun p hp => ?_) (fun p hp => ?_)⟩)
    · rw [KR.2.1, R1.2.1]
    · rw [KR.2.2.1 p hp, R1.2.2.1 p hp]
      exact ⟨fun k => k.elim (fun k => ⟨k.1, Or.inl k.2⟩) (fun k => ⟨k.1, Or.inr k.2⟩), fun k => k.2.elim (fun q => Or.inl ⟨k.1, q⟩) (fun q => Or.inr ⟨k.1, q⟩)⟩
    · rw [KR.2.2.2.1 p hp, R1.2.2.2.1 p hp]
      exact ⟨fun k => k.elim (fun k => ⟨k.1, Or.inl k.2⟩) (fun k => ⟨k.1, Or.inr k.2⟩), fun k => k.2.elim (fun q => Or.inl ⟨k.1, q⟩) (fun q => Or.inr ⟨k.1, q⟩)⟩
    · exact fun k => k.elim (KR.2.2.2.2.1 p hp) (R1.2.2.2.2.1 p hp)
    · exact fun k => k.elim (KR.2.2.2.2.2 p hp) (R1.2.2.2.2.2 p hp)
  · -- CAT
    refine cx_op1 (by omega) (by omega) (fun f' e1 f1 l1 hf it => ⟨by decide, pk_eq (g % 3) 0 (fun z => absurd z g0) (fun _ => ?_) er⟩)
    refine cl_cro (fun q q4 q32 => ?_) (fun cr hcr => nm_e ⟨by decide, pk_eq (g % 3) 0 (fun z => absurd z g0) (fun _ => ?_) er⟩)
    · cases hq : bt ((nI w >>> ((4 : Int32) &&& 31)) &&& 15) q
      · rfl
      · exact absurd ((cl_hi q32).mp hq).1 (by omega)
    refine cl_cat hlw hw (fun w' J' => cb_335 hg (by omega) (fun u hu => H h u w' (s / 512) (fol ||| cr) f' e1 f1 l1 ⟨⟨n1, n2, by omega, hu, room u, n6'⟩, S1, ?_, cb_Km h _ (fun q hq v hv => cb_Ro it (by omega) hv) KK, cb_Rn it J' ?_ (fun p hp => ?_) (fun p hp => ?_) (fun p hp => ?_) (fun p hp => ?_)⟩))
    · refine cb_Fn (Al := fun q => lft.testBit q = true) (Bl := fun p => w.testBit (4 + p) = true) F1 (fun q p hq hp => ?_) (fun q hq p hp => ?_) (fun q hq z => KR.2.2.2.2.2 q hq z) (fun p hp z => R1.2.2.2.2.1 p hp z)
      · rw [hcr q p hq hp, cl_lo (by omega), cl_hi (by omega)]
        exact ⟨fun k => ⟨k.1.2, k.2.2⟩, fun k => ⟨⟨hq, k.1⟩, hp, k.2⟩⟩
      · rw [hf q hq p, KR.2.2.2.1 q (by omega), R1.2.2.1 p (by omega)]
        exact ⟨fun k => k.elim Or.inl (fun k => Or.inr ⟨k.1.2, k.2.2⟩), fun k => k.elim Or.inl (fun k => Or.inr ⟨⟨by omega, k.1⟩, hp, k.2⟩)⟩
    · rw [KR.2.1, R1.2.1]
    · rw [KR.2.2.1 p hp, KR.2.1, R1.2.2.1 p hp]
      exact ⟨fun k => k.elim (fun k => ⟨k.1, Or.inl k.2⟩) (fun k => ⟨k.2.1, Or.inr ⟨k.1, k.2.2⟩⟩), fun k => k.2.elim (fun q => Or.inl ⟨k.1, q⟩) (fun q => Or.inr ⟨q.1, k.1, q.2⟩)⟩
    · rw [R1.2.2.2.1 p hp, R1.2.1, KR.2.2.2.1 p hp]
      exact ⟨fun k => k.elim (fun k => ⟨k.1, Or.inl k.2⟩) (fun k => ⟨k.2.1, Or.inr ⟨k.1, k.2.2⟩⟩), fun k => k.2.elim (fun q => Or.inl ⟨k.1, q⟩) (fun q => Or.inr ⟨q.1, k.1, q.2⟩)⟩
    · exact fun k => k.elim (KR.2.2.2.2.1 p hp) (fun k => R1.2.2.2.2.1 p hp k.2)
    · exact fun k => k.elim (R1.2.2.2.2.2 p hp) (fun k => KR.2.2.2.2.2 p hp k.2)
theorem cb_156 {lim : Nat} (hL : L ≤ 260) (hb : b < 900) (hl3 : lim ≤ 3) (hln : i + 1 = n → lim = 3)
    (H : ∀ h u rm w s fol aF iE iF iL, cb_I L xs b n i h (lim + 1) u rm w s fol bs aC aL aT aE aB aF iE iF iL → J49 fol (nI (h + 1)) (nI (i - h)) (nI w) (lN (s * 512 + w)) (nI (i + 1)) (nI 4) (nI 224) 0 (nI (h + 1)) (nI (i + 1)) (nI rm) xN xH aC aL aT aE aB aF iE iF iL hx) :
    ∀ m j h u rm w s fol aF iE iF iL, lim + 1 - j < m → j ≤ lim + 1 → cb_I L xs b n i h j u rm w s fol bs aC aL aT aE aB aF iE iF iL →
    wL_law_156 post L xs J14 J49 (nI b) (nI n) (nI i) (nI lim) kc ks m fol (nI h) (nI (i - h)) (nI w) (lN s) (nI u) (nI j) (nI 4) (nI 224) 0 (nI (h + 1)) (nI (i + 1)) (nI rm) xN xH aC aL aT aE aB aF iE iF iL hx := by
  intro m
  induction m with
  | zero => intro j h u rm w s fol aF iE iF iL hm; omega
  | succ m ih =>
    intro j h u rm w s fol aF iE iF iL hm hj I
    obtain ⟨⟨n1, n2, n3, n4, n5, n6⟩, S1, F1, K1, R1⟩ := id I
    have s36 : s < 2 ^ 36 := cb_K36 (by omega) K1
    have hw := R1.1
    rcases Nat.lt_or_ge lim j with hlt | hge
    · have ej : j = lim + 1 := by omega
      subst ej
      have e9 : (lN s <<< ((9 : Int32).toInt64 &&& 63)) ||| (nI w).toInt64 = lN (s * 512 + w) := by
        have e1 : lN s <<< ((9 : Int32).toInt64 &&& 63) = lN (s * 2 ^ 9) := wb_shl s (k := 9) (by decide)
        rw [e1, nI_l (by omega)]
        exact g_or (k := 9) (p := 2 ^ 9) rfl hw (by omega)
      exact br_t (nI_lt hlt (by omega)) (nm_r e9 (nm_r (nI_1 h) (nm_r (nI_1 i) (H h u rm w s fol aF iE iF iL I))))
    · have go : ∀ w rm fol aF iE, cb_I L xs b n i h j 0 rm w s fol bs aC aL aT aE aB aF iE iF iL → wL_law_215 post L xs J14 J49 (wL_law_156 post L xs J14 J49 (nI b) (nI n) (nI i) (nI lim) kc ks m) (nI b) (nI n) fol (nI h) (nI (i - h)) (nI w) (lN s) (nI i) (nI lim) (nI j) kc ks (nI 4) (nI 224) 0 (nI (h + 1)) (nI (i + 1)) (nI rm) xN xH aC aL aT aE aB aF iE iF iL hx := fun w rm fol aF iE I' =>
        cb_215 hL hb hl3 hln hge I' (fun h' u' w' s' fol' aF' iE' iF' iL' I'' => ih (j + 1) h' u' rm w' s' fol' aF' iE' iF' iL' (by omega) (by omega) I'')
      refine br_f (nI_nlt hge (by omega)) (pk_eq u 0 (fun u0 => ?_) (fun u0 => ?_))
      · subst u0; exact go w rm fol aF iE I
      · rw [if_neg u0] at n5
        have u35 : 3 ≤ u ∧ u ≤ 5 := n4.elim (fun z => absurd z u0) id
        obtain ⟨rm, rfl⟩ : ∃ r, rm = r + 1 := ⟨rm - 1, by omega⟩
        have S1' := cb_Srm (rm' := rm) S1 (by omega)
        have rm3 := S1.2.2
        refine cx_op3 (by omega) (by omega) u35.1 u35.2 (by omega) (fun f' e1 hf it => ?_)
        have num : i < n ∧ n ≤ 4 ∧ h ≤ i ∧ ((0 : Nat) = 0 ∨ (3 ≤ 0 ∧ 0 ≤ 5)) ∧ 224 + (if (0 : Nat) = 0 then 0 else 1) ≤ rm + 47 * (i + 1) + (i - h) ∧ (i + 1 = n → h = 0 ∨ h + j ≤ 3) := ⟨n1, n2, n3, Or.inl rfl, by rw [if_pos rfl]; omega, n6⟩
        have KK := cb_Km h s (fun q hq v hv => cb_Ro it (show q ≠ h by omega) hv) K1
        have l201 : ∀ fol', cb_F (i + 1) fol' f' → wL_law_201 post L xs J14 J49 (wL_law_156 post L xs J14 J49 (nI b) (nI n) (nI i) (nI lim) kc ks m) (nI b) (nI n) fol' (nI h) (nI (i - h)) (nI w) (lN s) (nI i) (nI lim) (nI u) (nI j) kc ks (nI 4) (nI 224) 0 (nI (h + 1)) (nI (i + 1)) (nI rm) xN xH aC aL aT aE aB f' e1 iF iL hx := by
          intro fol' F'
          refine pk_eq u 4 (fun u4 => go w rm fol' f' e1 ⟨num, S1', F', KK, ?_⟩) (fun u4 => nm_r (cl_nor w 256) (go (w ||| 256) rm fol' f' e1 ⟨num, S1', F', KK, ?_⟩))
          · refine cb_Rn it (w' := w) (e := w.testBit 8 = true) (f := fun p => w.testBit (4 + p) = true) (la := fun p => w.testBit p = true) ⟨hw, Iff.rfl, fun p _ => Iff.rfl, fun p _ => Iff.rfl⟩ ?_ (fun p hp => R1.2.2.1 p hp) (fun p hp => R1.2.2.2.1 p hp) (fun p hp => R1.2.2.2.2.1 p hp) (fun p hp => R1.2.2.2.2.2 p hp)
            rw [R1.2.1]
            exact ⟨fun k => k.elim (fun q => absurd u4 q) id, Or.inr⟩
          · exact cb_Rn it (cl_w8 hw) ⟨fun _ => trivial, fun _ => Or.inl u4⟩ (fun p hp => R1.2.2.1 p hp) (fun p hp => R1.2.2.2.1 p hp) (fun p hp => R1.2.2.2.2.1 p hp) (fun p hp => R1.2.2.2.2.2 p hp)
        refine pk_eq u 5 (fun u5 => l201 fol ⟨fun q p hq hp => ?_, fun q hq p hp z => ?_⟩) (fun u5 => ?_)
        · rw [F1.1 q p hq hp]
          exact ⟨fun z => ⟨z.1, (hf q z.1 p).mpr (Or.inl z.2)⟩, fun z => ⟨z.1, ((hf q z.1 p).mp z.2).elim id (fun k => by omega)⟩⟩
        · exact F1.2 q hq p hp (((hf q hq p).mp z).elim id (fun k => by omega))
        · refine cl_cro (fun q q4 q32 => ?_) (fun cr hcr => nm_e (l201 (fol ||| cr) (cb_Fn (Al := fun q => w.testBit q = true) (Bl := fun p => w.testBit (4 + p) = true) F1 (fun q p hq hp => ?_) (fun q hq p hp => ?_) (fun q hq z => R1.2.2.2.2.2 q hq z) (fun p hp z => R1.2.2.2.2.1 p hp z))))
          · cases hq : bt ((nI w >>> ((4 : Int32) &&& 31)) &&& 15) q
            · rfl
            · exact absurd ((cl_hi q32).mp hq).1 (by omega)
          · rw [hcr q p hq hp, cl_lo (by omega), cl_hi (by omega)]
            exact ⟨fun k => ⟨k.1.2, k.2.2⟩, fun k => ⟨⟨hq, k.1⟩, hp, k.2⟩⟩
          · rw [hf q hq p, R1.2.2.2.1 q (by omega), R1.2.2.1 p (by omega)]
            exact ⟨fun k => k.elim Or.inl (fun k => Or.inr ⟨k.2.1.2, k.2.2.2⟩), fun k => k.elim Or.inl (fun k => Or.inr ⟨by omega, ⟨by omega, k.1⟩, hp, k.2⟩)⟩
end CBI
