section CDC
/-! the law's commands -/
variable {L b n rm w len mode k : Nat} {xs : Nat → Int32} {bs : Nat → Nat} {aC aL aT aE aB aF iE iF iL hx : Nat → Int32} {fol xH : Int32} {c : Nat → Nat}
variable {post : Int32 → Prop} {kc ks : Nat} {J14 : cb_T14} {J418 : cd_T418} {x24 x25 : Int32} {xL xW xP xC xR xN : Int32}
theorem cx_bgn {post : Int32 → St2 → Prop} {md : Nat} (hm : md = 1 ∨ md = 2) (x01 : cr_01 hx) (H : ∀ g hit, cr_01 g → (∀ j, j < 224 → g j = 0) → post 0 (xL, xW, nI md, nI 1, xC, xR, 0, hit, aC, aL, aT, aE, aB, aF, iE, iF, iL, g)) : wpX_begin post (xL, xW, xP, nI 1, xC, xR, xN, xH, aC, aL, aT, aE, aB, aF, iE, iF, iL, hx) (nI md) := by
  have m13 : wX_begin_13 post (nI md) xL xW xP (nI 1) xC xR xN xH aC aL aT aE aB aF iE iF iL hx := br_t rfl (cx_dr x01 (fun g g01 g0 => br_c (fun _ => H g (-1) g01 g0) (fun _ => H g 0 g01 g0)))
  rcases hm with rfl | rfl
  · exact br_t rfl m13
  · exact br_f (by decide) (br_t rfl m13)
theorem cd_c0 {g : Nat → Int32} (T : cd_ST L xs b n rm w fol bs aC aL aT aE aB aF iE iF iL) (g0 : ∀ j, j < 224 → g j = 0) : cd_c (fun _ => 0) (cd_H L xs b n bs g) := by
  intro p hp
  refine ⟨Nat.two_pow_pos 63, fun v => ?_⟩
  show (0 : Nat).testBit v = true ↔ _
  rw [Nat.zero_testBit]
  refine ⟨fun z => absurd z (by decide), fun z => ?_⟩
  obtain ⟨z1, z2, z3, z4⟩ := z
  have := (T.2.1.1.2.1 p z1).2.2.2.2.2.2
  exact absurd (g0 _ (by omega)) z4
theorem cd_506 (hL : L ≤ 260) (hb : b < 1000) (hk : k < 1000) (T : cd_ST L xs b n rm w fol bs aC aL aT aE aB aF iE iF iL) (x01 : cr_01 hx) (hc : cd_c c (cd_H L xs b n bs hx))
    (K : ∀ x25, (L ≤ k → wL_law_696 post L xs J14 J418 (nI k) (nI b) (nI n) fol (nI w) (nI mode) (nI len) (lN (c 0)) (lN (c 1)) (lN (c 2)) (lN (c 3)) x25 0 kc ks (nI 4) (nI 224) (nI mode) (nI 1) (nI n) (nI rm) (nI len) xH aC aL aT aE aB aF iE iF iL hx) ∧ (k < L → wL_law_696 post L xs J14 J418 (nI k) (nI b) (nI n) fol (nI w) (nI mode) (nI len) (lN (c 0)) (lN (c 1)) (lN (c 2)) (lN (c 3)) x25 1 kc ks (nI 4) (nI 224) (nI mode) (nI 1) (nI n) (nI rm) (nI len) xH aC aL aT aE aB aF iE iF iL hx)) :
    ∀ m p x25, n - p < m → p ≤ n → wL_law_506 post L xs J14 J418 (nI k) (nI b) (nI n) fol (nI w) (nI mode) (nI len) (lN (c 0)) (lN (c 1)) (lN (c 2)) (lN (c 3)) x24 kc ks (nI 4) (nI 224) (nI mode) (nI 1) (nI n) (nI rm) (nI len) xH aC aL aT aE aB aF iE iF iL hx m x25 (nI p) := by
  have n4 := T.1
  intro m
  induction m with
  | zero => intro p x25 h; omega
  | succ m ih =>
    intro p x25 hm hp
    rcases Nat.lt_or_ge p n with h | h
    · refine br_f (nI_ge h (by omega)) (cl_pick (by omega) ⟨cl_t L xs b p + 3, ?_⟩)
      have e0 : cr_ct (fun j => hx (bs p + j)) (if 0 - 1 ≤ cl_t L xs b p then 0 - 1 else cl_t L xs b p) = 0 := by rw [if_pos (by omega)]; rfl
      have h5 := cd_540 (post := post) (kc := kc) (ks := ks) (J14 := J14) (J418 := J418) (x2 := nI k) (x24 := x24) (x25 := x25) (mode := mode) (len := len) (xH := xH) (J506 := wL_law_506 post L xs J14 J418 (nI k) (nI b) (nI n) fol (nI w) (nI mode) (nI len) (lN (c 0)) (lN (c 1)) (lN (c 2)) (lN (c 3)) x24 kc ks (nI 4) (nI 224) (nI mode) (nI 1) (nI n) (nI rm) (nI len) xH aC aL aT aE aB aF iE iF iL hx m) hL hb T x01 hc h (fun y => ih (p + 1) y (by omega) (by omega)) (cl_t L xs b p + 3) 0 0 0 (by omega) (by omega) ⟨Or.inl rfl, fun u _ u2 => by omega⟩ (Or.inl ⟨rfl, fun u u2 => by omega⟩)
      rw [e0] at h5
      exact h5
    · have e : p = n := by omega
      subst e
      exact br_t (nI_le h (by omega)) (pk_le L k (fun z => (K x25).1 z) (fun z => (K x25).2 z))
theorem cd_439 {o : Int32} (hL : L ≤ 260) (hb : b < 1000) (hk : k < 1000) (T : cd_ST L xs b n rm w fol bs aC aL aT aE aB aF iE iF iL) (x01 : cr_01 hx) (hc : cd_c c (cd_H L xs b n bs hx)) (hm : mode = 1 ∨ mode = 2) (hl : len ≤ 4000) (ho : ¬ o = 0 ↔ (mode = 2 ∨ len = 0))
    (K : ∀ x25, (L ≤ k → wL_law_696 post L xs J14 J418 (nI k) (nI b) (nI n) fol (nI w) (nI mode) (nI len) (lN (c 0)) (lN (c 1)) (lN (c 2)) (lN (c 3)) x25 0 kc ks (nI 4) (nI 224) (nI mode) (nI 1) (nI n) (nI rm) (nI len) xH aC aL aT aE aB aF iE iF iL hx) ∧ (k < L → wL_law_696 post L xs J14 J418 (nI k) (nI b) (nI n) fol (nI w) (nI mode) (nI len) (lN (c 0)) (lN (c 1)) (lN (c 2)) (lN (c 3)) x25 1 kc ks (nI 4) (nI 224) (nI mode) (nI 1) (nI n) (nI rm) (nI len) xH aC aL aT aE aB aF iE iF iL hx)) :
    wL_law_439 post L xs J14 J418 (nI k) (nI b) (nI n) fol (nI w) (nI mode) (nI len) (lN (c 0)) (lN (c 1)) (lN (c 2)) (lN (c 3)) o kc ks (nI 4) (nI 224) (nI mode) (nI 1) (nI n) (nI rm) (nI len) xH aC aL aT aE aB aF iE iF iL hx := by
  have w512 := T.2.2.2.1
  have G := T.2.1.1
  unfold wL_law_439
  refine cl_ex hL hb (fun p hp => (hc p hp).1) (fun ex hex => ?_)
  have hacc : ((¬ o = 0 ∧ w.testBit 8 = true) ∨ ∃ q, q < 4 ∧ bt ex q = true ∧ w.testBit q = true) ↔ cr_xa (nI mode) (nI len) n (cr_C hx (cl_l L xs b) (cl_t L xs b) bs) iE iL := by
    rw [cd_AA T hm (by omega)]
    unfold cd_a
    rw [ho]
    constructor
    · rintro (k | ⟨q, q1, q2, q3⟩)
      · exact Or.inl k
      · exact Or.inr ⟨q, q1, (cd_exC hc hex q1).mp q2, q3⟩
    · rintro (k | ⟨q, q1, q2, q3⟩)
      · exact Or.inl k
      · exact Or.inr ⟨q, q1, (cd_exC hc hex q1).mpr q2, q3⟩
  have rest : ∀ x24, ∃ fu506 : Nat, wL_law_506 post L xs J14 J418 (nI k) (nI b) (nI n) fol (nI w) (nI mode) (nI len) (lN (c 0)) (lN (c 1)) (lN (c 2)) (lN (c 3)) x24 kc ks (nI 4) (nI 224) (nI mode) (nI 1) (nI n) (nI rm) (nI len) xH aC aL aT aE aB aF iE iF iL hx fu506 0 0 := fun x24 =>
    ⟨n + 1, cd_506 hL hb hk T x01 hc K (n + 1) 0 0 (by omega) (by omega)⟩
  have hm0 : ¬ nI mode = 0 := nI_ne0 (by omega) (by omega)
  refine br_f hm0 (cx_acc G (fun z => ⟨rfl, cl_acc w512 (fun _ => br_t rfl (cl_fol (fun fo _ => br_c (fun _ => nm_e (rest _)) (fun _ => nm_e (rest _))))) (fun q => absurd (hacc.mpr z) q)⟩) (fun z => ⟨rfl, cl_acc w512 (fun q => absurd (hacc.mp q) z) (fun _ => br_t rfl (cl_fol (fun fo _ => br_c (fun _ => nm_e (rest _)) (fun _ => nm_e (rest _)))))⟩))
/-- what the next turn of the loop may rest on -/
def cd_N (L : Nat) (xs : Nat → Int32) (b n rm : Nat) (bs : Nat → Nat) (aC aL aT aE aB aF iE iF iL : Nat → Int32) (k : Nat) (J418 : cd_T418) : Prop :=
  ∀ (mode len : Nat) (c : Nat → Nat) (hx : Nat → Int32) (xH on : Int32), (mode = 1 ∨ mode = 2) → len ≤ 4000 → cr_01 hx → cd_c c (cd_H L xs b n bs hx) → (on = 0 ∨ on = 1) → J418 (nI k) (nI mode) (nI len) (lN (c 0)) (lN (c 1)) (lN (c 2)) (lN (c 3)) on (nI 4) (nI 224) (nI mode) (nI 1) (nI n) (nI rm) (nI len) xH aC aL aT aE aB aF iE iF iL hx
theorem cd_813 {d : Nat} (T : cd_ST L xs b n rm w fol bs aC aL aT aE aB aF iE iF iL) (x01 : cr_01 hx) (hd : d < 2 ^ 31) (HJ : cd_N L xs b n rm bs aC aL aT aE aB aF iE iF iL k J418) :
    wL_law_813 post L xs J14 J418 (nI k) (nI b) (nI n) fol (nI w) 1 (nI d) kc ks (nI 4) (nI 224) (nI mode) (nI 1) (nI n) (nI rm) (nI len) xH aC aL aT aE aB aF iE iF iL hx := by
  have er : nI d - nI d / 2 * 2 = nI (d % 2) := pk_rem hd (by decide) (by decide)
  refine ⟨by decide, nm_r (e' := nI (1 + d % 2)) (by rw [er]; exact nI_add 1 (d % 2)) (cx_bgn (by omega) x01 (fun g hit g01 g0 => ?_))⟩
  exact HJ (1 + d % 2) 0 (fun _ => 0) g hit 1 (by omega) (by omega) g01 (cd_c0 T g0) (Or.inr rfl)
theorem cd_914 {cc d x t : Nat} (hL : L ≤ 260) (hb : b < 1000) (T : cd_ST L xs b n rm w fol bs aC aL aT aE aB aF iE iF iL) (x01 : cr_01 hx) (hc : cd_c c (cd_H L xs b n bs hx)) (hm : mode = 1 ∨ mode = 2) (hx8 : x < 8) (t1 : 1 ≤ t) (t16 : t ≤ 16) (hl : len + t ≤ 4000)
    (HJ : cd_N L xs b n rm bs aC aL aT aE aB aF iE iF iL k J418) :
    wL_law_914 post L xs J14 J418 (nI k) (nI b) (nI n) fol (nI w) (nI mode) (nI len) (lN (c 0)) (lN (c 1)) (lN (c 2)) (lN (c 3)) 1 x25 (nI cc) (nI d) (nI x) (nI t) kc ks (nI 4) (nI 224) (nI mode) (nI 1) (nI n) (nI rm) (nI len) xH aC aL aT aE aB aF iE iF iL hx := by
  have K : ∀ x, x < 8 → ∃ fu990 : Nat, wL_law_990 post L xs J14 J418 (nI k) (nI b) (nI n) fol (nI w) (nI mode) 1 (nI x) (nI t) kc ks (nI 4) (nI 224) (nI mode) (nI 1) (nI n) (nI rm) (nI len) xH aC aL aT aE aB aF iE iF iL hx fu990 (nI len) (lN (c 0)) (lN (c 1)) (lN (c 2)) (lN (c 3)) 0 0 := fun x hx8 =>
    ⟨t + 1, cd_990 T hL hb hm hx8 t1 t16 hl x01 (fun c g hit g01 hc => HJ mode (len + t) c g hit 1 hm hl g01 hc (Or.inr rfl)) t 0 c (by omega) hc⟩
  refine ⟨by decide, by decide, by decide, by decide, by decide, br_c (fun _ => ⟨9, ?_⟩) (fun _ => ⟨9, ?_⟩)⟩
  · exact cd_950 K 9 0 x (by omega) (by omega) hx8
  · exact cd_950 K 9 0 x (by omega) (by omega) hx8
theorem cd_846 {cc d x cmd : Nat} (hL : L ≤ 260) (hb : b < 1000) (T : cd_ST L xs b n rm w fol bs aC aL aT aE aB aF iE iF iL) (x01 : cr_01 hx) (hc : cd_c c (cd_H L xs b n bs hx)) (hm : mode = 1 ∨ mode = 2) (hx8 : x < 8) (hcmd : cmd < 30) (hl : len ≤ 3984)
    (HJ : cd_N L xs b n rm bs aC aL aT aE aB aF iE iF iL k J418) :
    wL_law_846 post L xs J14 J418 (nI k) (nI b) (nI n) fol (nI w) (nI mode) (nI len) (lN (c 0)) (lN (c 1)) (lN (c 2)) (lN (c 3)) 1 x25 (nI cc) (nI d) (nI cmd) (nI x) kc ks (nI 4) (nI 224) (nI mode) (nI 1) (nI n) (nI rm) (nI len) xH aC aL aT aE aB aF iE iF iL hx := by
  have hm0 : ¬ nI mode = 0 := nI_ne0 (by omega) (by omega)
  refine pk_eq cmd 29 (fun z => ?_) (fun z => pk_le 14 cmd (fun z2 => ?_) (fun z2 => ⟨by decide, ?_⟩))
  · refine br_f hm0 (br_f (nI_pos (by omega)) (br_f (nI_nlt (a := 7) (by omega) (by omega)) (br_f cr_10 (br_f (by decide) (br_f (by decide) ?_)))))
    refine br_f hm0 (br_f (by decide) (br_t (by decide) (br_t rfl ?_)))
    refine br_f hm0 ?_
    refine br_f hm0 ?_
    refine br_f (by decide) (br_f (by decide) ?_)
    exact HJ mode len c hx xH 1 hm (by omega) x01 hc (Or.inr rfl)
  · have e : nI cmd - 12 = nI (cmd - 12) := pk_sub (b := 12) (by omega)
    rw [e]
    exact cd_914 hL hb T x01 hc hm hx8 (by omega) (by omega) (by omega) HJ
  · have er : nI cmd - nI cmd / 3 * 3 = nI (cmd % 3) := pk_rem (by omega) (by decide) (by decide)
    have e : 1 + (nI cmd - nI cmd / 3 * 3) = nI (1 + cmd % 3) := by rw [er]; exact nI_add 1 (cmd % 3)
    rw [e]
    exact cd_914 hL hb T x01 hc hm hx8 (by omega) (by omega) (by omega) HJ
theorem cd_771 {cc d x cmd : Nat} {z0 : Int32} (hL : L ≤ 260) (hb : b < 1000) (T : cd_ST L xs b n rm w fol bs aC aL aT aE aB aF iE iF iL) (x01 : cr_01 hx) (hc : cd_c c (cd_H L xs b n bs hx)) (hm : mode = 1 ∨ mode = 2) (hx8 : x < 8) (hcmd : cmd < 32) (hl : len ≤ 4000) (hd : d < 2 ^ 31)
    (HJ : cd_N L xs b n rm bs aC aL aT aE aB aF iE iF iL k J418) :
    wL_law_771 post L xs J14 J418 (nI k) (nI b) (nI n) fol (nI w) (nI mode) (nI len) (lN (c 0)) (lN (c 1)) (lN (c 2)) (lN (c 3)) 1 x25 (nI cc) (nI d) (nI cmd) (nI x) z0 kc ks (nI 4) (nI 224) (nI mode) (nI 1) (nI n) (nI rm) (nI len) xH aC aL aT aE aB aF iE iF iL hx := by
  refine pk_eq cmd 31 (fun _ => HJ mode len c hx xH 0 hm hl x01 hc (Or.inl rfl)) (fun z1 => pk_eq cmd 30 (fun _ => cd_813 T x01 hd HJ) (fun z2 => pk_lt 3984 len (fun _ => cd_813 T x01 hd HJ) (fun z3 => ?_)))
  have go := cd_846 (post := post) (kc := kc) (ks := ks) (J14 := J14) (x25 := x25) (cc := cc) (d := d) (xH := xH) hL hb T x01 hc hm hx8 (show cmd < 30 by omega) z3 HJ
  exact br_c (fun _ => go) (fun _ => ⟨by decide, br_c (fun _ => cd_813 T x01 hd HJ) (fun _ => go)⟩)
theorem cd_696 (hL : L ≤ 260) (hb : b < 1000) (hk : k < 1000) (T : cd_ST L xs b n rm w fol bs aC aL aT aE aB aF iE iF iL) (x01 : cr_01 hx) (hc : cd_c c (cd_H L xs b n bs hx)) (hm : mode = 1 ∨ mode = 2) (hl : len ≤ 4000)
    (HJ : cd_N L xs b n rm bs aC aL aT aE aB aF iE iF iL (k + 2) J418) :
    wL_law_696 post L xs J14 J418 (nI k) (nI b) (nI n) fol (nI w) (nI mode) (nI len) (lN (c 0)) (lN (c 1)) (lN (c 2)) (lN (c 3)) x25 1 kc ks (nI 4) (nI 224) (nI mode) (nI 1) (nI n) (nI rm) (nI len) xH aC aL aT aE aB aF iE iF iL hx := by
  refine br_f cr_10 (cl_num hL (by omega) ?_)
  rw [nI_1 k]
  refine cl_num hL (by omega) ?_
  have hcc := cl_nl (L := L) (xs := xs) (k := k)
  have hd := cl_nl (L := L) (xs := xs) (k := k + 1)
  generalize cl_n L xs k = cc at hcc ⊢
  generalize cl_n L xs (k + 1) = d at hd ⊢
  refine ⟨by decide, nm_r (pk_rem hcc (by decide) (by decide)) ⟨by decide, nm_r (pk_rem hd (by decide) (by decide)) (nm_r (nI_add k 2) ?_)⟩⟩
  have go : ∀ z0, wL_law_771 post L xs J14 J418 (nI (k + 2)) (nI b) (nI n) fol (nI w) (nI mode) (nI len) (lN (c 0)) (lN (c 1)) (lN (c 2)) (lN (c 3)) 1 x25 (nI cc) (nI d) (nI (cc % 32)) (nI (d % 8)) z0 kc ks (nI 4) (nI 224) (nI mode) (nI 1) (nI n) (nI rm) (nI len) xH aC aL aT aE aB aF iE iF iL hx := fun z0 =>
    cd_771 hL hb T x01 hc hm (by omega) (by omega) hl hd HJ
  exact br_c (fun _ => br_c (fun _ => go 0) (fun _ => br_c (fun _ => go 1) (fun _ => go 0))) (fun _ => go 0)
end CDC
