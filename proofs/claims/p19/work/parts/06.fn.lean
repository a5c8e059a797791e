section CLF
/-! the law's own functions -/
variable {L b p k : Nat} {xs : Nat → Int32} {post : Int32 → Prop}
def cl_n (L : Nat) (xs : Nat → Int32) (k : Nat) : Nat := (if k < L then xs k else (0 : Int32)).toBitVec.toNat % 2 ^ 31
theorem cl_nl : cl_n L xs k < 2 ^ 31 := Nat.mod_lt _ (by decide)
theorem cl_num (hL : L ≤ 260) (hk : k < 2 ^ 30) (H : post (nI (cl_n L xs k))) : wpL_num post L xs () (nI k) := by
  have e : ∀ x : Int32, x &&& 2147483647 = nI (x.toBitVec.toNat % 2 ^ 31) := fun x => pk_and x 31 (by decide)
  unfold cl_n at H
  refine pk_le L k (fun z => ?_) (fun z => ⟨vp_in_nI z (by omega), ?_⟩)
  · rw [if_neg (by omega)] at H
    show post ((0 : Int32) &&& 2147483647)
    rw [e]; exact H
  · rw [if_pos z] at H
    show post (xs (nI k).toNatClampNeg &&& 2147483647)
    rw [e, nI_clamp (by omega)]; exact H
theorem cl_ix (c : Nat) : (nI b + 4 * nI p) + nI c = nI (b + 4 * p + c) := by
  have e : (4 : Int32) * nI p = nI (4 * p) := pk_mul 4 p
  rw [e, nI_add, nI_add]
def cl_m (L : Nat) (xs : Nat → Int32) (b p : Nat) : Nat := if cl_n L xs (b + 4 * p + 1) % 5 = 0 then 255 else cl_n L xs (b + 4 * p + 1) % 255 + 1
theorem cl_mb : 1 ≤ cl_m L xs b p ∧ cl_m L xs b p ≤ 255 := by
  unfold cl_m
  split <;> omega
theorem cl_mask (hL : L ≤ 260) (hb : b < 1000) (hp : p < 4) (H : post (nI (cl_m L xs b p))) : wpL_mask post L xs () (nI b) (nI p) := by
  have ei : (nI b + (4 * nI p)) + 1 = nI (b + 4 * p + 1) := cl_ix 1
  unfold cl_m at H
  unfold wpL_mask
  rw [ei]
  refine cl_num hL (by omega) ⟨by decide, ?_⟩
  refine pk_eq (cl_n L xs (b + 4 * p + 1) % 5) 0 (fun z => ?_) (fun z => ⟨by decide, ?_⟩) (pk_rem cl_nl (by decide) (by decide))
  · rw [if_pos z] at H; exact H
  · rw [if_neg z] at H
    have e2 : nI (cl_n L xs (b + 4 * p + 1)) - nI (cl_n L xs (b + 4 * p + 1)) / 255 * 255 = nI (cl_n L xs (b + 4 * p + 1) % 255) := pk_rem cl_nl (by decide) (by decide)
    rw [e2, nI_1]; exact H
def cl_l (L : Nat) (xs : Nat → Int32) (b p : Nat) : Nat := if cl_n L xs (b + 4 * p + 2) % 3 = 0 then cl_n L xs (b + 4 * p + 2) / 3 % 4 else cl_n L xs (b + 4 * p + 2) / 3 % 24
theorem cl_lb : cl_l L xs b p ≤ 23 := by
  unfold cl_l
  split <;> omega
theorem cl_least (hL : L ≤ 260) (hb : b < 1000) (hp : p < 4) (H : post (nI (cl_l L xs b p))) : wpL_least post L xs () (nI b) (nI p) := by
  have ei : (nI b + (4 * nI p)) + 2 = nI (b + 4 * p + 2) := cl_ix 2
  unfold cl_l at H
  unfold wpL_least
  rw [ei]
  refine cl_num hL (by omega) ⟨by decide, ?_⟩
  have hn := cl_nl (L := L) (xs := xs) (k := b + 4 * p + 2)
  have e3 : nI (cl_n L xs (b + 4 * p + 2)) / 3 = nI (cl_n L xs (b + 4 * p + 2) / 3) := pk_div hn (by decide) (by decide)
  refine pk_eq (cl_n L xs (b + 4 * p + 2) % 3) 0 (fun z => ⟨by decide, by decide, ?_⟩) (fun z => ⟨by decide, by decide, ?_⟩) (pk_rem hn (by decide) (by decide))
  · rw [if_pos z] at H
    have e4 : nI (cl_n L xs (b + 4 * p + 2) / 3) - nI (cl_n L xs (b + 4 * p + 2) / 3) / 4 * 4 = nI (cl_n L xs (b + 4 * p + 2) / 3 % 4) := pk_rem (by omega) (by decide) (by decide)
    rw [e3, e4]; exact H
  · rw [if_neg z] at H
    have e4 : nI (cl_n L xs (b + 4 * p + 2) / 3) - nI (cl_n L xs (b + 4 * p + 2) / 3) / 24 * 24 = nI (cl_n L xs (b + 4 * p + 2) / 3 % 24) := pk_rem (by omega) (by decide) (by decide)
    rw [e3, e4]; exact H
def cl_h (L : Nat) (xs : Nat → Int32) (b p : Nat) : Nat := cl_n L xs (b + 4 * p + 3)
/-- leaf p is endless -/
def cl_e (L : Nat) (xs : Nat → Int32) (b p : Nat) : Prop := cl_h L xs b p % 4 = 0
def cl_v (L : Nat) (xs : Nat → Int32) (b p : Nat) : Nat := cl_l L xs b p + cl_h L xs b p / 4 % (if cl_h L xs b p % 4 = 1 then 3 else 24)
def cl_t (L : Nat) (xs : Nat → Int32) (b p : Nat) : Nat := if cl_h L xs b p % 4 = 0 then (if cl_l L xs b p ≤ 1 then 1 else cl_l L xs b p) else (if 1 ≤ cl_v L xs b p then cl_v L xs b p else 1)
def cl_M (L : Nat) (xs : Nat → Int32) (b p : Nat) : Int32 := if cl_h L xs b p % 4 = 0 then -1 else nI (cl_t L xs b p)
theorem cl_vb : cl_v L xs b p ≤ 46 ∧ cl_l L xs b p ≤ cl_v L xs b p := by
  have := cl_lb (L := L) (xs := xs) (b := b) (p := p)
  unfold cl_v
  split <;> omega
theorem cl_tb : 1 ≤ cl_t L xs b p ∧ cl_t L xs b p ≤ 46 ∧ cl_l L xs b p ≤ cl_t L xs b p := by
  have h1 := cl_lb (L := L) (xs := xs) (b := b) (p := p)
  have h2 := cl_vb (L := L) (xs := xs) (b := b) (p := p)
  unfold cl_t
  split
  · split <;> omega
  · split <;> omega
theorem cl_ne1 {n : Nat} (h : n < 2 ^ 31) : ¬ nI n = -1 := by
  intro e
  have z := nI_pos (n := n) h
  rw [e] at z
  exact z (by decide)
theorem cl_Me : cl_M L xs b p = -1 ↔ cl_e L xs b p := by
  have h2 := cl_tb (L := L) (xs := xs) (b := b) (p := p)
  unfold cl_M cl_e
  constructor
  · intro z
    by_cases h : cl_h L xs b p % 4 = 0
    · exact h
    · rw [if_neg h] at z
      exact absurd z (cl_ne1 (by omega))
  · intro z
    rw [if_pos z]
theorem cl_Mw : cr_w (cl_M L xs b p) (cl_l L xs b p) (cl_t L xs b p) := by
  have h2 := cl_tb (L := L) (xs := xs) (b := b) (p := p)
  unfold cr_w
  by_cases h : cl_h L xs b p % 4 = 0
  · refine Or.inl ⟨cl_Me.mpr h, ?_⟩
    unfold cl_t
    rw [if_pos h]
    by_cases h3 : cl_l L xs b p ≤ 1
    · rw [if_pos h3]; exact Or.inl ⟨h3, rfl⟩
    · rw [if_neg h3]; exact Or.inr ⟨by omega, rfl⟩
  · refine Or.inr ⟨fun z => h (cl_Me.mp z), ?_⟩
    unfold cl_M
    rw [if_neg h]
theorem cl_most (hL : L ≤ 260) (hb : b < 1000) (hp : p < 4) (H : post (cl_M L xs b p)) : wpL_most post L xs () (nI b) (nI p) := by
  have ei : (nI b + (4 * nI p)) + 3 = nI (b + 4 * p + 3) := cl_ix 3
  have hn := cl_nl (L := L) (xs := xs) (k := b + 4 * p + 3)
  have hv := cl_vb (L := L) (xs := xs) (b := b) (p := p)
  have hlb := cl_lb (L := L) (xs := xs) (b := b) (p := p)
  unfold cl_M at H
  unfold wpL_most
  rw [ei]
  have eh : cl_n L xs (b + 4 * p + 3) = cl_h L xs b p := rfl
  refine cl_num hL (by omega) ⟨by decide, ?_⟩
  rw [eh] at hn ⊢
  have er : nI (cl_h L xs b p) - nI (cl_h L xs b p) / 4 * 4 = nI (cl_h L xs b p % 4) := pk_rem hn (by decide) (by decide)
  have ed : nI (cl_h L xs b p) / 4 = nI (cl_h L xs b p / 4) := pk_div hn (by decide) (by decide)
  refine pk_eq (cl_h L xs b p % 4) 0 (fun z => ?_) (fun z => ?_) er
  · rw [if_pos z] at H; exact H
  · rw [if_neg z] at H
    have m42 : ∀ c : Nat, 0 < c → c < 2 ^ 31 → cl_v L xs b p = cl_l L xs b p + cl_h L xs b p / 4 % c → wL_most_42 post L xs (nI c) (nI (cl_h L xs b p) / 4) (nI (cl_l L xs b p)) := by
      intro c c0 c1 ev
      have e5 : nI (cl_h L xs b p / 4) - nI (cl_h L xs b p / 4) / nI c * nI c = nI (cl_h L xs b p / 4 % c) := pk_rem (by omega) c0 c1
      refine ⟨nI_ne0 c0 c1, nm_r (e' := nI (cl_v L xs b p)) (by rw [ed, e5, nI_add, ev]) (pk_le 1 (cl_v L xs b p) (fun w => ?_) (fun w => ?_))⟩
      · unfold cl_t at H; rw [if_neg z, if_pos w] at H; exact H
      · unfold cl_t at H; rw [if_neg z, if_neg (by omega)] at H; exact H
    refine cl_least hL hb hp ⟨by decide, by decide, pk_eq (cl_h L xs b p % 4) 1 (fun w => m42 3 (by decide) (by decide) ?_) (fun w => m42 24 (by decide) (by decide) ?_) er⟩
    · unfold cl_v; rw [if_pos w]
    · unfold cl_v; rw [if_neg w]
theorem cl_top (hL : L ≤ 260) (hb : b < 1000) (hp : p < 4) (H : post (nI (cl_t L xs b p))) : wpL_top post L xs () (nI b) (nI p) := by
  have hlb := cl_lb (L := L) (xs := xs) (b := b) (p := p)
  unfold wpL_top
  refine cl_most hL hb hp (cl_least hL hb hp ?_)
  rcases cl_Mw (L := L) (xs := xs) (b := b) (p := p) with ⟨z, z2⟩ | ⟨z, z2⟩
  · refine br_t z (pk_le (cl_l L xs b p) 1 (fun q => ?_) (fun q => ?_))
    · rw [show cl_t L xs b p = 1 by omega] at H; exact H
    · rw [show cl_t L xs b p = cl_l L xs b p by omega] at H; exact H
  · rw [← z2] at H
    exact br_f z H
def cl_u (x : Nat) : Nat := if 3 ≤ x % 8 ∧ x % 8 ≤ 5 then x % 8 else 0
theorem cl_ub (x : Nat) : cl_u x = 0 ∨ (3 ≤ cl_u x ∧ cl_u x ≤ 5) := by
  unfold cl_u
  split <;> omega
theorem cl_un {x : Nat} (hx : x < 2 ^ 31) (H : post (nI (cl_u x))) : wpL_unary post () (nI x) := by
  have er : nI x - nI x / 8 * 8 = nI (x % 8) := pk_rem hx (by decide) (by decide)
  refine ⟨by decide, pk_lt (x % 8) 3 (fun z => ?_) (fun z => ⟨by decide, pk_lt 5 (x % 8) (fun w => ?_) (fun w => ⟨by decide, ?_⟩) rfl er⟩) er⟩
  · rw [show cl_u x = 0 by unfold cl_u; rw [if_neg (by omega)]] at H; exact H
  · rw [show cl_u x = 0 by unfold cl_u; rw [if_neg (by omega)]] at H; exact H
  · rw [show cl_u x = x % 8 by unfold cl_u; rw [if_pos (by omega)]] at H
    rw [er]; exact H
theorem cl_pick {post : Int64 → Prop} {c : Nat → Nat} (hp : p < 4) (H : post (lN (c p))) : wpL_pick post () (nI p) (lN (c 0)) (lN (c 1)) (lN (c 2)) (lN (c 3)) := by
  refine pk_eq p 0 (fun z => ?_) (fun z0 => pk_eq p 1 (fun z => ?_) (fun z1 => pk_eq p 2 (fun z => ?_) (fun z2 => ?_)))
  · subst z; exact H
  · subst z; exact H
  · subst z; exact H
  · rw [show p = 3 by omega] at H; exact H
end CLF
