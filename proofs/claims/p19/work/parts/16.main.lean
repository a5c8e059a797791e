section CDM
/-! the law -/
variable {L b n rm w : Nat} {xs : Nat → Int32} {bs : Nat → Nat} {aC aL aT aE aB aF iE iF iL : Nat → Int32} {fol : Int32} {kc ks : Nat} {J14 : cb_T14} {hx : Nat → Int32} {xP xT xC xR xN xH : Int32}
theorem cd_418 (hL : L ≤ 260) (hb : b < 900) (T : cd_ST L xs b n rm w fol bs aC aL aT aE aB aF iE iF iL)
    (HJ : ∀ k mode len hx xH, k < L → b < k → cr_01 hx → J14 (nI k) (nI 4) (nI 224) (nI mode) (nI 1) (nI n) (nI rm) (nI len) xH aC aL aT aE aB aF iE iF iL hx) :
    ∀ m k mode len c hx xH on, 1 ≤ m → L + 2 ≤ m + k → k < 900 → b < k → (mode = 1 ∨ mode = 2) → len ≤ 4000 → cr_01 hx → cd_c c (cd_H L xs b n bs hx) → (on = 0 ∨ on = 1) →
    wL_law_418 (fun r => r = 1) L xs J14 (nI b) (nI n) fol (nI w) kc ks m (nI k) (nI mode) (nI len) (lN (c 0)) (lN (c 1)) (lN (c 2)) (lN (c 3)) on (nI 4) (nI 224) (nI mode) (nI 1) (nI n) (nI rm) (nI len) xH aC aL aT aE aB aF iE iF iL hx := by
  intro m
  induction m with
  | zero => intro k mode len c hx xH on h; omega
  | succ m ih =>
    intro k mode len c hx xH on m1 m2 hk hbk hm hl x01 hc hon
    have e1158 : wL_law_1158 (fun r => r = 1) L xs J14 (nI k) kc ks (nI 4) (nI 224) (nI mode) (nI 1) (nI n) (nI rm) (nI len) xH aC aL aT aE aB aF iE iF iL hx := pk_lt k L (fun z => HJ k mode len hx xH z hbk x01) (fun _ => rfl)
    rcases hon with h0 | h1
    · exact br_t h0 e1158
    · subst h1
      have K : ∀ x25, (L ≤ k → wL_law_696 (fun r => r = 1) L xs J14 (wL_law_418 (fun r => r = 1) L xs J14 (nI b) (nI n) fol (nI w) kc ks m) (nI k) (nI b) (nI n) fol (nI w) (nI mode) (nI len) (lN (c 0)) (lN (c 1)) (lN (c 2)) (lN (c 3)) x25 0 kc ks (nI 4) (nI 224) (nI mode) (nI 1) (nI n) (nI rm) (nI len) xH aC aL aT aE aB aF iE iF iL hx) ∧ (k < L → wL_law_696 (fun r => r = 1) L xs J14 (wL_law_418 (fun r => r = 1) L xs J14 (nI b) (nI n) fol (nI w) kc ks m) (nI k) (nI b) (nI n) fol (nI w) (nI mode) (nI len) (lN (c 0)) (lN (c 1)) (lN (c 2)) (lN (c 3)) x25 1 kc ks (nI 4) (nI 224) (nI mode) (nI 1) (nI n) (nI rm) (nI len) xH aC aL aT aE aB aF iE iF iL hx) := fun x25 =>
        ⟨fun _ => br_t rfl e1158, fun z => cd_696 hL (by omega) (by omega) T x01 hc hm hl (fun mode len c hx xH on hm hl x01 hc hon => ih (k + 2) mode len c hx xH on (by omega) (by omega) (by omega) (by omega) hm hl x01 hc hon)⟩
      refine br_f cr_10 ?_
      by_cases md : mode = 2
      · exact br_t ((cd_m2 hm).mpr md) (cd_439 hL (by omega) (by omega) T x01 hc hm hl ⟨fun _ => Or.inl md, fun _ => cr_10⟩ K)
      · refine br_f (fun q => md ((cd_m2 hm).mp q)) ?_
        by_cases l0 : len = 0
        · exact br_t ((cd_l0 (by omega)).mpr l0) (cd_439 hL (by omega) (by omega) T x01 hc hm hl ⟨fun _ => Or.inr l0, fun _ => cr_10⟩ K)
        · exact br_f (fun q => l0 ((cd_l0 (by omega)).mp q)) (cd_439 hL (by omega) (by omega) T x01 hc hm hl ⟨fun q => absurd rfl q, fun q => q.elim (fun q => absurd q md) (fun q => absurd q l0)⟩ K)
theorem cd_14 (hL : L ≤ 260) : ∀ m k xP xT xC xR xN xH aC aL aT aE aB aF iE iF iL hx, 1 ≤ m → L + 2 ≤ m + k → (k < L ∨ k = 0) → cr_01 hx → wL_law_14 (fun r => r = 1) L xs kc ks m (nI k) (nI 4) (nI 224) xP xT xC xR xN xH aC aL aT aE aB aF iE iF iL hx := by
  intro m
  induction m with
  | zero => intro k xP xT xC xR xN xH aC aL aT aE aB aF iE iF iL hx h; omega
  | succ m ih =>
    intro k xP xT xC xR xN xH aC aL aT aE aB aF iE iF iL hx m1 m2 hk x01
    unfold wL_law_14 wpX_clear
    refine cx_so x01 (fun g g01 g0 => ?_)
    refine cl_num hL (by omega) ⟨by decide, ?_⟩
    have hr := cl_nl (L := L) (xs := xs) (k := k)
    generalize cl_n L xs k = r at hr ⊢
    have er : nI r - nI r / 4 * 4 = nI (r % 4) := pk_rem hr (by decide) (by decide)
    refine nm_r (e' := nI (1 + r % 4)) (by rw [er]; exact nI_add 1 (r % 4)) ⟨1 + r % 4 + 1, ?_⟩
    refine cb_49 (n := 1 + r % 4) hL (by omega) (by omega) (fun rm w fol bs aC aL aT aE aB aF iE iF iL O m' => ?_) (1 + r % 4 + 1) 0 0 224 0 0 0 (fun _ => 0) aC aL aT aE aB aF iE iF iL (by omega)
      ⟨⟨by omega, by omega, by omega, by omega, fun q => by omega⟩, ⟨⟨by omega, fun p hp => by omega, fun p q _ hq => by omega⟩, fun p hp => by omega, by omega⟩, ⟨fun q p _ _ => by rw [b_0]; exact ⟨fun z => absurd z (by decide), fun z => absurd z.1 (by omega)⟩, fun q hq => by omega⟩, rfl⟩ (fun q => by omega)
    obtain ⟨⟨o1, o2, o3, o4, o5⟩, OS, OF, OK⟩ := O
    have w0 : w / 512 = 0 := OK.2
    have OR : cb_R (1 + r % 4) iE iF iL 0 w := by
      have := OK.1
      rw [show w % 512 = w by omega] at this
      exact this
    have T : cd_ST L xs k (1 + r % 4) rm w fol bs aC aL aT aE aB aF iE iF iL := ⟨o2, OS, OF, OR⟩
    have e5 : nI k + 5 * nI (1 + r % 4) = nI (k + 5 * (1 + r % 4)) := by
      have e : (5 : Int32) * nI (1 + r % 4) = nI (5 * (1 + r % 4)) := pk_mul 5 _
      rw [e, nI_add]
    refine br_t (nI_le (Nat.le_refl _) (by omega)) (nm_r e5 (cl_num hL (by omega) ⟨by decide, ?_⟩))
    have hq := cl_nl (L := L) (xs := xs) (k := k + 5 * (1 + r % 4))
    generalize cl_n L xs (k + 5 * (1 + r % 4)) = q at hq ⊢
    have eq2 : nI q - nI q / 2 * 2 = nI (q % 2) := pk_rem hq (by decide) (by decide)
    refine nm_r (e' := nI (1 + q % 2)) (by rw [eq2]; exact nI_add 1 (q % 2)) (nm_r (nI_1 _) (cx_bgn (by omega) g01 (fun g' hit g01' g0' => ⟨L + 3, ?_⟩)))
    exact cd_418 hL (by omega) T (fun k' mode len hx xH hk' hbk x01 => ih k' _ _ _ _ _ _ _ _ _ _ _ _ _ _ _ _ (by omega) (by omega) (Or.inl hk') x01) (L + 3) (k + 5 * (1 + r % 4) + 1) (1 + q % 2) 0 (fun _ => 0) g' hit 1 (by omega) (by omega) (by omega) (by omega) (by omega) (by omega) g01' (cd_c0 T g0') (Or.inr rfl)
theorem cd_z01 : cr_01 (fun _ => 0) := fun _ => Or.inl rfl
theorem i_vc (xs : Nat → Int32) (L : Nat) (hL : L ≤ 260) : wpL_law (fun r => r = 1) L xs := by
  refine ⟨10, 332, by decide, by decide, ?_⟩
  refine ⟨by decide, by decide, by decide, by decide, by decide, by decide, by decide, by decide, by decide, by decide, by decide, by decide, by decide, by decide, by decide, by decide, by decide, by decide, by decide, by decide, ?_⟩
  refine br_t (by decide) (br_t (by decide) (br_t (by decide) (br_t (by decide) ?_)))
  refine cx_so (li := 4) (ce := 224) cd_z01 (fun g g01 g0 => ⟨L + 2, ?_⟩)
  exact cd_14 hL (L + 2) 0 _ _ _ _ _ _ _ _ _ _ _ _ _ _ _ g (by omega) (by omega) (Or.inr rfl) g01
end CDM
