section CDK
/-! the law's checks -/
variable {L b n rm w len mode : Nat} {xs : Nat → Int32} {bs : Nat → Nat} {aC aL aT aE aB aF iE iF iL hx : Nat → Int32} {fol xH : Int32} {c : Nat → Nat}
variable {post : Int32 → Prop} {kc ks : Nat} {J14 : cb_T14} {J418 : cd_T418} {x2 x24 : Int32}
theorem cd_hold {p v : Nat} (T : cd_ST L xs b n rm w fol bs aC aL aT aE aB aF iE iF iL) (x01 : cr_01 hx) (hp : p < n) (hv : v < 1000) (h1 : cd_H L xs b n bs hx p v → post 1) (h0 : ¬ cd_H L xs b n bs hx p v → post 0) : wpX_holds post (nI 4, nI 224, nI mode, nI 1, nI n, nI rm, nI len, xH, aC, aL, aT, aE, aB, aF, iE, iF, iL, hx) (nI p) (nI v) := by
  obtain ⟨n4, ⟨⟨g1, g2, g3⟩, _⟩, _⟩ := T
  obtain ⟨eL, eT, eB, eE, t1, t2, t3⟩ := g2 p hp
  have hi : vp_in (nI p) 12 := vp_in_nI (by omega) (by decide)
  have cp : (nI p).toNatClampNeg = p := nI_clamp (by omega)
  refine br_f (nI_pos (by omega)) (br_f (nI_ge hp (by omega)) (br_f cr_10 (pk_lt v 1 (fun z => h0 (fun q => by have := q.2.1; omega)) (fun z => ⟨hi, ?_⟩))))
  rcases Nat.lt_or_ge (cl_t L xs b p) v with h | h
  · exact br_f (by rw [cp, eT]; exact nI_ge h (by omega)) (h0 (fun q => by have := q.2.2.1; omega))
  · have e := cr_cell (aB := aB) (show p < 12 by omega) eB z
    have ce : (nI (bs p + v - 1)).toNatClampNeg = bs p + v - 1 := nI_clamp (by omega)
    refine br_t (by rw [cp, eT]; exact nI_le h (by omega)) ⟨hi, (by rw [e]; exact vp_in_nI (by omega) (by decide)), (by rw [e, ce]; exact cr_nn (x01 _)), ?_⟩
    rw [e, ce]
    rcases x01 (bs p + v - 1) with z2 | z2
    · rw [z2]; exact h0 (fun q => q.2.2.2 z2)
    · rw [z2]; exact h1 ⟨hp, z, h, by rw [z2]; exact cr_10⟩
def cd_mx (H : Nat → Prop) (v m : Nat) : Prop := (m = 0 ∨ (m < v ∧ H m)) ∧ ∀ u, m < u → u < v → ¬ H u
def cd_mn (H : Nat → Prop) (v m : Nat) : Prop := (m = 0 ∧ ∀ u, u < v → ¬ H u) ∨ (1 ≤ m ∧ m < v ∧ H m ∧ ∀ u, u < m → ¬ H u)
theorem cd_540 {J506 : Int32 → Int32 → Prop} {p : Nat} {x25 : Int32} (hL : L ≤ 260) (hb : b < 1000) (T : cd_ST L xs b n rm w fol bs aC aL aT aE aB aF iE iF iL) (x01 : cr_01 hx) (hc : cd_c c (cd_H L xs b n bs hx)) (hp : p < n) (HJ : ∀ y, J506 y (nI (p + 1))) :
    ∀ m v big small, cl_t L xs b p + 2 - v < m → v ≤ cl_t L xs b p + 2 → cd_mx (cd_H L xs b n bs hx p) v big → cd_mn (cd_H L xs b n bs hx p) v small →
    wL_law_540 post L xs J14 J418 J506 x2 (nI b) (nI n) fol (nI w) (nI mode) (nI len) (lN (c 0)) (lN (c 1)) (lN (c 2)) (lN (c 3)) x24 x25 (nI p) (lN (c p)) kc ks (nI 4) (nI 224) (nI mode) (nI 1) (nI n) (nI rm) (nI len) xH aC aL aT aE aB aF iE iF iL hx m (nI (cr_ct (fun j => hx (bs p + j)) (if v - 1 ≤ cl_t L xs b p then v - 1 else cl_t L xs b p))) (nI big) (nI small) (nI v) := by
  obtain ⟨n4, ⟨G, S2, S3⟩, _, _⟩ := id T
  obtain ⟨eL, eT, eB, eE, t1, t2, t3⟩ := G.2.1 p hp
  have hp4 : p < 4 := by omega
  have tb := cl_tb (L := L) (xs := xs) (b := b) (p := p)
  have hi : vp_in (nI p) 12 := vp_in_nI (by omega) (by decide)
  have cp : (nI p).toNatClampNeg = p := nI_clamp (by omega)
  have l667 : wL_law_667 post L xs J14 J418 J506 x2 (nI b) (nI n) fol (nI w) (nI mode) (nI len) (lN (c 0)) (lN (c 1)) (lN (c 2)) (lN (c 3)) x24 x25 (nI p) kc ks (nI 4) (nI 224) (nI mode) (nI 1) (nI n) (nI rm) (nI len) xH aC aL aT aE aB aF iE iF iL hx := by
    unfold wL_law_667
    exact cl_mask hL hb hp4 (nm_e (nm_r (nI_1 p) (HJ _)))
  intro m
  induction m with
  | zero => intro v big small h; omega
  | succ m ih =>
    intro v big small hm hv hbig hsmall
    unfold wL_law_540
    refine cl_top hL hb hp4 (pk_lt (cl_t L xs b p + 1) v (fun z => ?_) (fun z => ?_) (nI_1 _))
    · have ev : v = cl_t L xs b p + 2 := by omega
      subst ev
      rw [if_neg (show ¬ cl_t L xs b p + 2 - 1 ≤ cl_t L xs b p by omega)]
      refine br_f (nI_pos (by omega)) (br_f (nI_ge hp (by omega)) (br_f cr_10 ⟨cl_t L xs b p + 1, cx_szl G hp (br_t rfl ?_) (cl_t L xs b p + 1) 0 (by omega) (by omega)⟩))
      refine br_f (nI_pos (by omega)) (br_f (nI_ge hp (by omega)) (br_f cr_10 ⟨hi, nm_r (e' := nI (cl_t L xs b p)) (by rw [cp, eT]) ⟨cl_t L xs b p + 1, cx_lgl G hp (fun mm hmx => br_t ?_ ?_) (cl_t L xs b p) (cl_t L xs b p + 1) (by omega) (Nat.le_refl _) (fun u u1 u2 => by omega)⟩⟩))
      · congr 1
        obtain ⟨a1, a2, a3⟩ := hmx
        obtain ⟨b1, b2⟩ := hbig
        rcases Nat.lt_trichotomy mm big with q | q | q
        · have hH : cd_H L xs b n bs hx p big := b1.elim (fun z => absurd q (by omega)) (fun z => z.2)
          exact absurd (a3 big q hH.2.2.1) hH.2.2.2
        · exact q
        · have hf : ¬ hx (bs p + mm - 1) = 0 := a2.elim (fun z => absurd q (by omega)) id
          exact absurd ⟨hp, by omega, a1, hf⟩ (b2 mm q (by omega))
      · refine br_f (nI_pos (by omega)) (br_f (nI_ge hp (by omega)) (br_f cr_10 ⟨cl_t L xs b p + 1, cx_sml G hp (fun mn hmn => br_t ?_ ?_) (cl_t L xs b p + 1) 1 (by omega) (by omega) (by omega) (fun u u1 u2 => by omega)⟩))
        · congr 1
          rcases hmn with ⟨a1, a2⟩ | ⟨a1, a2, a3, a4⟩
          · rcases hsmall with ⟨b1, b2⟩ | ⟨b1, b2, b3, b4⟩
            · omega
            · exact absurd (a2 small b3.2.1 b3.2.2.1) b3.2.2.2
          · rcases hsmall with ⟨b1, b2⟩ | ⟨b1, b2, b3, b4⟩
            · exact absurd ⟨hp, a1, a2, a3⟩ (b2 mn (by omega))
            · rcases Nat.lt_trichotomy mn small with q | q | q
              · exact absurd ⟨hp, a1, a2, a3⟩ (b4 mn q)
              · exact q
              · exact absurd (a4 small b1 q) b3.2.2.2
        · exact br_c (fun _ => br_c (fun _ => nm_r (nI_1 p) (HJ _)) (fun _ => l667)) (fun _ => l667)
    · have bit : ∀ {A B : Prop}, (¬ cd_H L xs b n bs hx p v → A) → (cd_H L xs b n bs hx p v → B) → (((((lN (c p)).toUInt64 >>> ((nI v).toInt64.toUInt64 &&& Int64.toUInt64 63)).toInt64) &&& 1) = 0 → A) ∧ (¬ ((((lN (c p)).toUInt64 >>> ((nI v).toInt64.toUInt64 &&& Int64.toUInt64 63)).toInt64) &&& 1) = 0 → B) := by
        intro A B hA hB
        obtain ⟨c63, cb⟩ := hc p hp4
        have e1 : ((((lN (c p)).toUInt64 >>> ((nI v).toInt64.toUInt64 &&& Int64.toUInt64 63)).toInt64) &&& 1) = lN (c p / 2 ^ v % 2) := wb_bit (by omega) (by omega)
        rw [e1]
        have e2 : lN (c p / 2 ^ v % 2) = 0 ↔ c p / 2 ^ v % 2 = 0 := pk_lEQ (b := 0) (by omega) (by decide)
        rw [e2]
        have e3 := cb v
        rw [Nat.testBit_eq_decide_div_mod_eq, decide_eq_true_iff] at e3
        exact ⟨fun q => hA (fun k => by rw [e3.mpr k] at q; exact absurd q (by decide)), fun q => hB (e3.mp (by clear e3 hA hB hbig hsmall; omega))⟩
      refine bit (fun q => ?_) (fun q => ?_)
      · refine cd_hold T x01 hp (by omega) (fun k => absurd k q) (fun _ => br_t rfl (br_t rfl (nm_r (nI_1 v) ?_)))
        have nx := ih (v + 1) big small (by omega) (by omega) ⟨hbig.1.elim Or.inl (fun k => Or.inr ⟨by omega, k.2⟩), fun u u1 u2 => ?_⟩ ?_
        · have ec : cr_ct (fun j => hx (bs p + j)) (if v + 1 - 1 ≤ cl_t L xs b p then v + 1 - 1 else cl_t L xs b p) = cr_ct (fun j => hx (bs p + j)) (if v - 1 ≤ cl_t L xs b p then v - 1 else cl_t L xs b p) := by
            by_cases v0 : v = 0
            · subst v0; rfl
            · by_cases vt : v ≤ cl_t L xs b p
              · rw [if_pos (by omega), if_pos (by omega)]
                obtain ⟨u, rfl⟩ : ∃ u, v = u + 1 := ⟨v - 1, by omega⟩
                have hz : hx (bs p + u) = 0 := by
                  rcases x01 (bs p + u) with k | k
                  · exact k
                  · exact absurd ⟨hp, by omega, vt, by rw [show bs p + (u + 1) - 1 = bs p + u by omega, k]; exact cr_10⟩ q
                show cr_ct (fun j => hx (bs p + j)) u + (if hx (bs p + u) = 0 then 0 else 1) = cr_ct (fun j => hx (bs p + j)) u
                rw [if_pos hz, Nat.add_zero]
              · rw [if_neg (by omega)]
                by_cases ve : v - 1 ≤ cl_t L xs b p
                · rw [if_pos ve, show v - 1 = cl_t L xs b p by omega]
                · rw [if_neg ve]
          rw [ec] at nx
          exact nx
        · by_cases eu : u = v
          · subst eu; exact q
          · exact hbig.2 u u1 (by omega)
        · rcases hsmall with ⟨b1, b2⟩ | ⟨b1, b2, b3⟩
          · refine Or.inl ⟨b1, fun u hu => ?_⟩
            by_cases eu : u = v
            · subst eu; exact q
            · exact b2 u (by omega)
          · exact Or.inr ⟨b1, by omega, b3⟩
      · obtain ⟨q1, q2, q3, q4⟩ := id q
        have ec : cr_ct (fun j => hx (bs p + j)) (if v + 1 - 1 ≤ cl_t L xs b p then v + 1 - 1 else cl_t L xs b p) = cr_ct (fun j => hx (bs p + j)) (if v - 1 ≤ cl_t L xs b p then v - 1 else cl_t L xs b p) + 1 := by
          rw [if_pos (by omega), if_pos (by omega)]
          obtain ⟨u, rfl⟩ : ∃ u, v = u + 1 := ⟨v - 1, by omega⟩
          rw [show bs p + (u + 1) - 1 = bs p + u by omega] at q4
          show cr_ct (fun j => hx (bs p + j)) u + (if hx (bs p + u) = 0 then 0 else 1) = cr_ct (fun j => hx (bs p + j)) u + 1
          rw [if_neg q4]
        have nx : ∀ small', cd_mn (cd_H L xs b n bs hx p) (v + 1) small' → _ := fun small' hs => ih (v + 1) v small' (by omega) (by omega) ⟨Or.inr ⟨by omega, q⟩, fun u u1 u2 => by omega⟩ hs
        rw [ec] at nx
        refine cd_hold T x01 hp (by omega) (fun _ => br_t rfl (br_f cr_10 (nm_r (nI_1 _) (pk_eq small 0 (fun s0 => nm_r (nI_1 v) (nx v ?_)) (fun s0 => nm_r (nI_1 v) (nx small ?_)) rfl rfl ?_ (by decide))))) (fun k => absurd q k)
        · rcases hsmall with ⟨b1, b2⟩ | ⟨b1, b2, b3⟩
          · exact Or.inr ⟨q2, by omega, q, b2⟩
          · omega
        · rcases hsmall with ⟨b1, b2⟩ | ⟨b1, b2, b3⟩
          · exact absurd b1 s0
          · exact Or.inr ⟨b1, by omega, b3⟩
        · rcases hsmall with ⟨b1, b2⟩ | ⟨b1, b2, b3⟩
          · omega
          · omega
end CDK
