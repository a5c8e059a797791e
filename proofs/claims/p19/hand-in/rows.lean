section
section
/-! rows pasted from kit/laws -/
def bt (x : Int32) (i : Nat) : Bool := x.toBitVec.getLsbD i
theorem b_ext {x y : Int32} (h : ∀ i, i < 32 → bt x i = bt y i) : x = y := Int32.toBitVec_inj.mp (BitVec.eq_of_getLsbD_eq (fun i hi => h i hi))
theorem b_or (x y : Int32) (i : Nat) : bt (x ||| y) i = (bt x i || bt y i) := by unfold bt; rw [Int32.toBitVec_or, BitVec.getLsbD_or]
theorem b_and (x y : Int32) (i : Nat) : bt (x &&& y) i = (bt x i && bt y i) := by unfold bt; rw [Int32.toBitVec_and, BitVec.getLsbD_and]
theorem b_big {x : Int32} {i : Nat} (h : 32 ≤ i) : bt x i = false := BitVec.getLsbD_of_ge _ _ h
theorem b_255 (i : Nat) : bt 255 i = decide (i < 8) := by
  rcases Nat.lt_or_ge i 32 with h | h
  · exact (by decide +kernel : ∀ i, i < 32 → bt 255 i = decide (i < 8)) i h
  · rw [b_big h, decide_eq_false (by omega)]
theorem b_0 (i : Nat) : bt 0 i = false := BitVec.getLsbD_zero
theorem s_l : ∀ n, n < 32 → ((nI n &&& 31).toBitVec.smod 32).toNat = n := by decide +kernel
theorem b_shl (n : Nat) (hn : n < 32) (x : Int32) {i : Nat} (hi : i < 32) : bt (x <<< (nI n &&& 31)) i = (decide (n ≤ i) && bt x (i - n)) := by
  unfold bt
  rw [Int32.toBitVec_shiftLeft]
  show (x.toBitVec <<< ((nI n &&& 31).toBitVec.smod 32).toNat).getLsbD i = _
  rw [s_l n hn, BitVec.getLsbD_shiftLeft]
  rcases Nat.lt_or_ge i n with h | h
  · simp [h, Nat.not_le.mpr h]
  · simp [hi, h, Nat.not_lt.mpr h]
theorem b_sshr (n : Nat) (hn : n < 32) (x : Int32) {i : Nat} (hi : i < 32) : bt (x >>> (nI n &&& 31)) i = if n + i < 32 then bt x (n + i) else bt x 31 := by
  unfold bt
  rw [Int32.toBitVec_shiftRight]
  show (x.toBitVec.sshiftRight ((nI n &&& 31).toBitVec.smod 32).toNat).getLsbD i = _
  rw [s_l n hn, BitVec.getLsbD_sshiftRight, BitVec.msb_eq_getLsbD_last]
  simp [hi]
theorem nx_and (a b : Nat) : nI a &&& nI b = nI (a &&& b) := by
  apply Int32.toBitVec_inj.1
  show BitVec.ofNat 32 a &&& BitVec.ofNat 32 b = BitVec.ofNat 32 (a &&& b)
  apply BitVec.eq_of_getLsbD_eq
  intro i hi
  simp [hi]
theorem wb_tb (n : Nat) : (lN n).toBitVec = BitVec.ofNat 64 n := rfl
theorem wb_inj {a b : Int64} (h : a.toBitVec = b.toBitVec) : a = b := Int64.toBitVec_inj.mp h
theorem wb_tn {n : Nat} (h : n < 2 ^ 64) : (lN n).toBitVec.toNat = n := by rw [wb_tb, BitVec.toNat_ofNat, Nat.mod_eq_of_lt h]
theorem wb_of (x : Int64) : ∃ n, n < 2 ^ 64 ∧ x = lN n := ⟨x.toBitVec.toNat, x.toBitVec.isLt, wb_inj (by rw [wb_tb]; simp)⟩
theorem wb_of32 (x : Int32) : ∃ n, n < 2 ^ 32 ∧ x = nI n := ⟨x.toBitVec.toNat, x.toBitVec.isLt, Int32.toBitVec_inj.mp (by show _ = BitVec.ofNat 32 _; simp)⟩
theorem wb_c : ∀ k, k < 64 → ((nI k).toInt64 &&& 63) = lN k := by decide +kernel
theorem wb_cu : ∀ k, k < 64 → ((nI k).toInt64.toUInt64 &&& Int64.toUInt64 63) = UInt64.ofNat k := by decide +kernel
theorem wb_sm : ∀ k, k < 64 → (BitVec.ofNat 64 k).smod 64 = BitVec.ofNat 64 k := by decide +kernel
theorem wb_pw {a b : Nat} (h : a ≤ b) : 2 ^ b = 2 ^ a * 2 ^ (b - a) := by rw [← Nat.pow_add]; congr 1; omega
theorem wb_lt2 {a b : Nat} (h : a < b) : 2 ^ a < 2 ^ b := Nat.pow_lt_pow_right (by decide) h
theorem wb_mod (n : Nat) : lN n = lN (n % 2 ^ 64) := wb_inj (by rw [wb_tb, wb_tb]; apply BitVec.eq_of_toNat_eq; rw [BitVec.toNat_ofNat, BitVec.toNat_ofNat, Nat.mod_mod])
theorem wb_shr {n k : Nat} (hn : n < 2 ^ 64) (hk : k < 64) : ((lN n).toUInt64 >>> ((nI k).toInt64.toUInt64 &&& Int64.toUInt64 63)).toInt64 = lN (n / 2 ^ k) := by
  rw [wb_cu k hk]
  apply wb_inj
  apply BitVec.eq_of_toNat_eq
  show ((lN n).toUInt64 >>> UInt64.ofNat k).toNat = (BitVec.ofNat 64 _).toNat
  have h1 : (UInt64.ofNat k).toNat = k := by
    show (BitVec.ofNat 64 k).toNat = k
    rw [BitVec.toNat_ofNat, Nat.mod_eq_of_lt (by omega)]
  have h2 : (lN n).toUInt64.toNat = n := wb_tn hn
  rw [UInt64.toNat_shiftRight, h1, h2, Nat.mod_eq_of_lt hk, Nat.shiftRight_eq_div_pow, BitVec.toNat_ofNat, Nat.mod_eq_of_lt (Nat.lt_of_le_of_lt (Nat.div_le_self _ _) hn)]
theorem wb_shl (n : Nat) {k : Nat} (hk : k < 64) : lN n <<< ((nI k).toInt64 &&& 63) = lN (n * 2 ^ k) := by
  rw [wb_c k hk]
  apply wb_inj
  rw [Int64.toBitVec_shiftLeft, wb_tb, wb_tb, wb_tb, wb_sm k hk]
  apply BitVec.eq_of_toNat_eq
  rw [BitVec.shiftLeft_eq', BitVec.toNat_shiftLeft, BitVec.toNat_ofNat, BitVec.toNat_ofNat, BitVec.toNat_ofNat, Nat.mod_eq_of_lt (show k < 2 ^ 64 by omega), Nat.shiftLeft_eq, Nat.mul_mod, Nat.mod_mod, ← Nat.mul_mod]
theorem wb_and {a b : Nat} (ha : a < 2 ^ 64) (hb : b < 2 ^ 64) : lN a &&& lN b = lN (a &&& b) := by
  apply wb_inj
  rw [Int64.toBitVec_and, wb_tb, wb_tb, wb_tb]
  apply BitVec.eq_of_toNat_eq
  rw [BitVec.toNat_and, BitVec.toNat_ofNat, BitVec.toNat_ofNat, BitVec.toNat_ofNat, Nat.mod_eq_of_lt ha, Nat.mod_eq_of_lt hb, Nat.mod_eq_of_lt (Nat.and_lt_two_pow _ hb)]
theorem wb_or {a b : Nat} (ha : a < 2 ^ 64) (hb : b < 2 ^ 64) : lN a ||| lN b = lN (a ||| b) := by
  apply wb_inj
  rw [Int64.toBitVec_or, wb_tb, wb_tb, wb_tb]
  apply BitVec.eq_of_toNat_eq
  rw [BitVec.toNat_or, BitVec.toNat_ofNat, BitVec.toNat_ofNat, BitVec.toNat_ofNat, Nat.mod_eq_of_lt ha, Nat.mod_eq_of_lt hb, Nat.mod_eq_of_lt (Nat.or_lt_two_pow ha hb)]
theorem wb_mask {n k : Nat} (hn : n < 2 ^ 64) (hk : k < 64) : lN n &&& lN (2 ^ k - 1) = lN (n % 2 ^ k) := by
  rw [wb_and hn (by have := wb_lt2 hk; omega), Nat.and_two_pow_sub_one_eq_mod]
theorem wb_a1 {n : Nat} (hn : n < 2 ^ 64) : lN n &&& 1 = lN (n % 2) := wb_mask (k := 1) hn (by decide)
theorem wb_bit {n k : Nat} (hn : n < 2 ^ 64) (hk : k < 64) : ((lN n).toUInt64 >>> ((nI k).toInt64.toUInt64 &&& Int64.toUInt64 63)).toInt64 &&& 1 = lN (n / 2 ^ k % 2) := by
  rw [wb_shr hn hk, wb_a1 (Nat.lt_of_le_of_lt (Nat.div_le_self _ _) hn)]
theorem wb_xor {q k : Nat} (hk : k < 63) (h : 2 ^ k ≤ q) (h2 : q < 2 ^ (k + 1)) : lN q ^^^ lN (2 ^ k) = lN (q - 2 ^ k) := by
  obtain ⟨r, rfl⟩ : ∃ r, q = 2 ^ k + r := ⟨q - 2 ^ k, by omega⟩
  have hr : r < 2 ^ k := by rw [Nat.pow_succ] at h2; omega
  have hx : (2 ^ k + r) ^^^ 2 ^ k = r := by
    apply Nat.eq_of_testBit_eq
    intro i
    rw [Nat.testBit_xor, Nat.testBit_two_pow]
    rcases Nat.lt_trichotomy i k with h | h | h
    · rw [Nat.testBit_two_pow_add_gt h]
      simp [show ¬ k = i by omega]
    · subst h
      rw [Nat.testBit_two_pow_add_eq]
      simp
    · have a1 : 2 ^ (k + 1) ≤ 2 ^ i := Nat.pow_le_pow_right (by decide) h
      rw [Nat.testBit_lt_two_pow (show 2 ^ k + r < 2 ^ i by omega), Nat.testBit_lt_two_pow (show r < 2 ^ i by omega)]
      simp [show ¬ k = i by omega]
  have b1 := wb_lt2 (show k + 1 < 64 by omega)
  have b2 := wb_lt2 (show k < 64 by omega)
  apply wb_inj
  rw [Int64.toBitVec_xor, wb_tb, wb_tb, wb_tb]
  apply BitVec.eq_of_toNat_eq
  rw [BitVec.toNat_xor, BitVec.toNat_ofNat, BitVec.toNat_ofNat, BitVec.toNat_ofNat, Nat.mod_eq_of_lt (by omega : 2 ^ k + r < 2 ^ 64), Nat.mod_eq_of_lt b2, hx, Nat.add_sub_cancel_left, Nat.mod_eq_of_lt (by omega)]
theorem u_tn {n : Nat} (h : n < 2 ^ 64) : (UInt64.ofNat n).toNat = n := Nat.mod_eq_of_lt h
theorem g_and {a b c : Nat} (ha : a < 2 ^ 64) (hb : b < 2 ^ 64) (hc : a &&& b = c) : lN a &&& lN b = lN c := by
  subst hc
  have h : UInt64.ofNat a &&& UInt64.ofNat b = UInt64.ofNat (a &&& b) := UInt64.toNat_inj.mp (by rw [UInt64.toNat_and, u_tn ha, u_tn hb, u_tn (Nat.and_lt_two_pow a hb)])
  have h2 := congrArg UInt64.toInt64 h
  exact h2
theorem g_mask {a s p : Nat} (hp : 2 ^ s = p) (hs : s < 64) (ha : a < 2 ^ 64) : lN a &&& lN (p - 1) = lN (a % p) := by
  subst hp
  have := Nat.pow_lt_pow_right (show 1 < 2 by decide) hs
  exact g_and ha (by omega) (Nat.and_two_pow_sub_one_eq_mod a s)
theorem g_or {k p a b : Nat} (hp : 2 ^ k = p) (ha : a < p) (h : b * p + a < 2 ^ 64) : lN (b * p) ||| lN a = lN (b * p + a) := by
  subst hp
  have h1 : b * 2 ^ k ||| a = b * 2 ^ k + a := by rw [← Nat.shiftLeft_eq, Nat.shiftLeft_add_eq_or_of_lt ha]
  have h3 : UInt64.ofNat (b * 2 ^ k) ||| UInt64.ofNat a = UInt64.ofNat (b * 2 ^ k + a) := UInt64.toNat_inj.mp (by rw [UInt64.toNat_or, u_tn (by omega), u_tn (by omega), u_tn h, h1])
  have h2 := congrArg UInt64.toInt64 h3
  exact h2
end
end
section
section CRX
/-! bits, booleans -/
theorem cr_nb0 : vp_nar .boolean 0 = 0 := by decide
theorem cr_nb1 : vp_nar .boolean 1 = 1 := by decide
theorem cr_nb {x : Int32} (h : x = 0 ∨ x = 1) : vp_nar .boolean x = x := by
  rcases h with rfl | rfl
  · exact cr_nb0
  · exact cr_nb1
theorem cr_nn {x : Int32} (h : x = 0 ∨ x = 1) : narrow .boolean (.int x) = .int x := by
  rcases h with rfl | rfl <;> rfl
theorem cr_10 : ¬ (1 : Int32) = 0 := by decide
def cr_01 (a : Nat → Int32) : Prop := ∀ j, a j = 0 ∨ a j = 1
theorem cr_01u {a : Nat → Int32} {k : Nat} {x : Int32} (h : cr_01 a) (hx : x = 0 ∨ x = 1) : cr_01 (upd a k x) := by
  intro j
  by_cases e : j = k
  · subst e; rw [pk_us]; exact hx
  · rw [pk_un e]; exact h j
theorem cr_ub0 {a : Nat → Int32} {i : Nat} (h : i < 2 ^ 31) : upd a (nI i).toNatClampNeg 0 = upd a i 0 := by rw [nI_clamp h]
theorem cr_ub1 {a : Nat → Int32} {i : Nat} (h : i < 2 ^ 31) : upd a (nI i).toNatClampNeg 1 = upd a i 1 := by rw [nI_clamp h]
theorem cr_ub {a : Nat → Int32} {i : Nat} {x : Int32} (h : i < 2 ^ 31) (hx : x = 0 ∨ x = 1) : upd a (nI i).toNatClampNeg (vp_nar .boolean x) = upd a i x := by rw [nI_clamp h, cr_nb hx]
theorem cr_ui {a : Nat → Int32} {i : Nat} {x : Int32} (h : i < 2 ^ 31) : upd a (nI i).toNatClampNeg x = upd a i x := by rw [nI_clamp h]
theorem cr_b1 : ∀ i, i < 32 → bt 1 i = decide (i = 0) := by decide +kernel
theorem cr_bit1 {s : Int32} {p : Nat} (hp : p < 32) : ((s >>> (nI p &&& 31)) &&& 1) = 1 ↔ bt s p = true := by
  constructor
  · intro h
    have h0 : bt ((s >>> (nI p &&& 31)) &&& 1) 0 = true := by rw [h]; decide
    rw [b_and, b_sshr p hp s (by omega), if_pos (by omega)] at h0
    simp only [Bool.and_eq_true] at h0
    exact h0.1
  · intro h
    apply b_ext
    intro i hi
    rw [b_and, cr_b1 i hi]
    by_cases e : i = 0
    · subst e
      rw [b_sshr p hp s (by omega), if_pos (by omega)]
      simp [h]
    · simp [e]
theorem cr_sl {i p : Nat} (hp : p < 32) (hi : i < 32) : bt ((1 : Int32) <<< (nI p &&& 31)) i = decide (i = p) := by
  rw [b_shl p hp 1 hi, cr_b1 (i - p) (by omega)]
  by_cases e : i = p
  · subst e; simp
  · by_cases e2 : p ≤ i
    · have : ¬ i - p = 0 := by omega
      simp [e, this]
    · simp [e, e2]
theorem cr_bit0 {s : Int32} {p : Nat} (hp : p < 32) : (s &&& ((1 : Int32) <<< (nI p &&& 31))) = 0 ↔ bt s p = false := by
  constructor
  · intro h
    have h0 : bt (s &&& ((1 : Int32) <<< (nI p &&& 31))) p = false := by rw [h, b_0]
    rw [b_and, cr_sl hp hp] at h0
    simpa using h0
  · intro h
    apply b_ext
    intro i hi
    rw [b_and, cr_sl hp hi, b_0]
    by_cases e : i = p
    · subst e; rw [h]; rfl
    · simp [e]
theorem cr_nt {x : Bool} (h : ¬ x = true) : x = false := by cases x <;> first | rfl | exact absurd rfl h
theorem cr_s1' {n : Nat} (h : 0 < n) : nI n - 1 = nI (n - 1) := by
  obtain ⟨m, rfl⟩ : ∃ m, n = m + 1 := ⟨n - 1, by omega⟩
  exact nI_pred m
/-! the leaves' table in X -/
def cr_lf (lv : Nat) (ls tp bs : Nat → Nat) (aL aT aE aB : Nat → Int32) : Prop :=
  lv ≤ 12 ∧ (∀ p, p < lv → aL p = nI (ls p) ∧ aT p = nI (tp p) ∧ aB p = nI (bs p) ∧ (aE p = 0 ∨ aE p = 1) ∧ 1 ≤ tp p ∧ ls p ≤ tp p ∧ bs p + tp p ≤ 224) ∧
  (∀ p q, p < q → q < lv → bs p + tp p ≤ bs q)
/-- leaf p can be left -/
def cr_C (hx : Nat → Int32) (ls tp bs : Nat → Nat) (p : Nat) : Prop := ∃ v, 1 ≤ v ∧ ls p ≤ v ∧ v ≤ tp p ∧ ¬ hx (bs p + v - 1) = 0
variable {xL xW xP xT xC xR xN xH : Int32} {aC aL aT aE aB aF iE iF iL hx : Nat → Int32} {lv : Nat} {ls tp bs : Nat → Nat} {post : Int32 → Prop}
theorem cx_con {s : Int32} {p : Nat} (hp : p < 32) (h1 : bt s p = true → post 1) (h0 : bt s p = false → post 0) : wpX_contains post () s (nI p) := by
  by_cases h : bt s p = true
  · exact br_t ((cr_bit1 hp).mpr h) (h1 h)
  · exact br_f (fun z => h ((cr_bit1 hp).mp z)) (h0 (cr_nt h))
theorem cr_cell {p a b : Nat} (hp : p < 12) (hB : aB p = nI b) (ha : 1 ≤ a) : ((aB (nI p).toNatClampNeg) + nI a) - 1 = nI (b + a - 1) := by
  rw [nI_clamp (by omega), hB, nI_add, cr_s1' (by omega)]
theorem cx_hwl {p b t : Nat} (hp : p < 12) (hB : aB p = nI b) (ht : b + t ≤ 224) : ∀ n a, t + 1 - a < n → 1 ≤ a → a ≤ 225 → ((∃ v, a ≤ v ∧ v ≤ t ∧ ¬ hx (b + v - 1) = 0) → post 1) →
    ((∀ v, a ≤ v → v ≤ t → hx (b + v - 1) = 0) → post 0) → wX_holdsWithin_3 post (nI p) (nI t) xL xW xP xT xC xR xN xH aC aL aT aE aB aF iE iF iL hx n (nI a) := by
  intro n
  induction n with
  | zero => intro a h; omega
  | succ n ih =>
    intro a hn ha ha2 h1 h0
    rcases Nat.lt_or_ge t a with h | h
    · exact br_t (nI_lt h (by omega)) (h0 (fun v hv hv2 => by omega))
    · have e := cr_cell (aB := aB) hp hB ha
      have hi : vp_in (nI p) 12 := vp_in_nI hp (by decide)
      by_cases z : hx (b + a - 1) = 0
      · refine br_f (nI_nlt h (by omega)) ⟨hi, (by rw [e]; exact vp_in_nI (by omega) (by decide)), br_t (by rw [e, nI_clamp (by omega)]; exact z) (nm_r (nI_1 a) (ih (a + 1) (by omega) (by omega) (by omega) (fun ⟨v, v1, v2, v3⟩ => h1 ⟨v, by omega, v2, v3⟩) (fun k => h0 (fun v v1 v2 => ?_))))⟩
        by_cases ev : v = a
        · subst ev; exact z
        · exact k v (by omega) v2
      · exact br_f (nI_nlt h (by omega)) ⟨hi, (by rw [e]; exact vp_in_nI (by omega) (by decide)), br_f (by rw [e, nI_clamp (by omega)]; exact z) (h1 ⟨a, Nat.le_refl a, h, z⟩)⟩
theorem cx_hw {p b t a : Nat} (hp : p < 12) (hB : aB p = nI b) (ht : b + t ≤ 224) (ha : 1 ≤ a) (ha2 : a ≤ 225) (h1 : (∃ v, a ≤ v ∧ v ≤ t ∧ ¬ hx (b + v - 1) = 0) → post 1)
    (h0 : (∀ v, a ≤ v → v ≤ t → hx (b + v - 1) = 0) → post 0) : wpX_holdsWithin post (xL, xW, xP, xT, xC, xR, xN, xH, aC, aL, aT, aE, aB, aF, iE, iF, iL, hx) (nI p) (nI a) (nI t) :=
  ⟨t + 2, cx_hwl hp hB ht (t + 2) a (by omega) ha ha2 h1 h0⟩
theorem cx_cl {p : Nat} (G : cr_lf lv ls tp bs aL aT aE aB) (hp : p < lv) (h1 : cr_C hx ls tp bs p → post 1) (h0 : ¬ cr_C hx ls tp bs p → post 0) : wpX_canLeave post (xL, xW, xP, xT, xC, xR, xN, xH, aC, aL, aT, aE, aB, aF, iE, iF, iL, hx) (nI p) := by
  obtain ⟨g1, g2, g3⟩ := G
  obtain ⟨eL, eT, eB, eE, t1, t2, t3⟩ := g2 p hp
  have hi : vp_in (nI p) 12 := vp_in_nI (by omega) (by decide)
  have cp : (nI p).toNatClampNeg = p := nI_clamp (by omega)
  have main : ∀ a, 1 ≤ a → a ≤ 225 → (∀ v, a ≤ v ↔ 1 ≤ v ∧ ls p ≤ v) → wX_canLeave_20 post (nI p) (nI a) xL xW xP xT xC xR xN xH aC aL aT aE aB aF iE iF iL hx := by
    intro a ha ha2 hv
    refine ⟨hi, ?_⟩
    rw [cp, eT]
    refine cx_hw (by omega) eB t3 ha ha2 (fun ⟨v, v1, v2, v3⟩ => ⟨rfl, h1 ⟨v, ((hv v).mp v1).1, ((hv v).mp v1).2, v2, v3⟩⟩) (fun k => ⟨rfl, h0 (fun ⟨v, v1, v2, v3, v4⟩ => v4 (k v ((hv v).mpr ⟨v1, v2⟩) v3))⟩)
  refine ⟨hi, ?_⟩
  by_cases z : ls p ≤ 1
  · refine br_t (by rw [cp, eL]; exact nI_le (b := 1) z (by decide)) (main 1 (by omega) (by omega) (fun v => by omega))
  · refine br_f (by rw [cp, eL]; exact nI_ge (a := 1) (by omega) (by omega)) ⟨hi, ?_⟩
    rw [cp, eL]
    exact main (ls p) (by omega) (by omega) (fun v => by omega)
/-- the leaves that can be entered, as X reckons them -/
def cr_xe (s0 : Int32) (lv : Nat) (C : Nat → Prop) (aF : Nat → Int32) (p : Nat) : Prop := bt s0 p = true ∨ ∃ q, q < lv ∧ C q ∧ bt (aF q) p = true
theorem cx_enl {s0 : Int32} (G : cr_lf lv ls tp bs aL aT aE aB) (hp : ∀ x, (∀ p, p < 32 → (bt x p = true ↔ cr_xe s0 lv (cr_C hx ls tp bs) aF p)) → post x) :
    ∀ n i x, lv - i < n → i ≤ lv → (∀ p, p < 32 → (bt x p = true ↔ cr_xe s0 i (cr_C hx ls tp bs) aF p)) → wX_enterableLeaves_20 post xL xW xP xT (nI lv) xR xN xH aC aL aT aE aB aF iE iF iL hx n x (nI i) := by
  have g1 := G.1
  intro n
  induction n with
  | zero => intro i x h; omega
  | succ n ih =>
    intro i x hn hi hx'
    rcases Nat.lt_or_ge i lv with h | h
    · refine br_f (nI_ge h (by omega)) (cx_cl G h (fun z => br_f cr_10 ⟨vp_in_nI (by omega) (by decide), nm_r (by rw [nI_clamp (by omega)]) (nm_r (nI_1 i) (ih (i + 1) _ (by omega) (by omega) (fun p hp => ?_)))⟩) (fun z => br_t rfl (nm_r (nI_1 i) (ih (i + 1) _ (by omega) (by omega) (fun p hp => ?_)))))
      · rw [b_or, Bool.or_eq_true, hx' p hp]
        constructor
        · rintro ((w | ⟨q, q1, q2, q3⟩) | w)
          · exact Or.inl w
          · exact Or.inr ⟨q, by omega, q2, q3⟩
          · exact Or.inr ⟨i, by omega, z, w⟩
        · rintro (w | ⟨q, q1, q2, q3⟩)
          · exact Or.inl (Or.inl w)
          · by_cases e : q = i
            · subst e; exact Or.inr q3
            · exact Or.inl (Or.inr ⟨q, by omega, q2, q3⟩)
      · rw [hx' p hp]
        constructor
        · rintro (w | ⟨q, q1, q2, q3⟩)
          · exact Or.inl w
          · exact Or.inr ⟨q, by omega, q2, q3⟩
        · rintro (w | ⟨q, q1, q2, q3⟩)
          · exact Or.inl w
          · by_cases e : q = i
            · subst e; exact absurd q2 z
            · exact Or.inr ⟨q, by omega, q2, q3⟩
    · have e : i = lv := by omega
      subst e
      exact br_t (nI_le (Nat.le_refl i) (by omega)) (hp x hx')
theorem cx_st (h1 : xP = 2 ∨ xN = 0 → post 1) (h0 : ¬ (xP = 2 ∨ xN = 0) → post 0) : wpX_canStartHere post (xL, xW, xP, xT, xC, xR, xN, xH, aC, aL, aT, aE, aB, aF, iE, iF, iL, hx) := by
  by_cases a : xP = 2
  · exact br_t a (h1 (Or.inl a))
  · by_cases b : xN = 0
    · exact br_f a (br_t b (h1 (Or.inr b)))
    · exact br_f a (br_f b (h0 (fun z => z.elim a b)))
theorem cx_en (G : cr_lf lv ls tp bs aL aT aE aB) (hp : ∀ x, (∀ p, p < 32 → (bt x p = true ↔ ((xP = 2 ∨ xN = 0) ∧ bt (iF 0) p = true) ∨ ∃ q, q < lv ∧ cr_C hx ls tp bs q ∧ bt (aF q) p = true)) → post x) :
    wpX_enterableLeaves post (xL, xW, xP, xT, nI lv, xR, xN, xH, aC, aL, aT, aE, aB, aF, iE, iF, iL, hx) := by
  unfold wpX_enterableLeaves
  refine cx_st (fun z => ?_) (fun z => ?_)
  · refine br_f cr_10 (nm_e ⟨lv + 1, ?_⟩)
    refine cx_enl (s0 := iF 0) G (fun x h => hp x (fun p h32 => (h p h32).trans ⟨fun w => w.elim (fun w => Or.inl ⟨z, w⟩) Or.inr, fun w => w.elim (fun w => Or.inl w.2) Or.inr⟩)) (lv + 1) 0 (iF 0) (by omega) (by omega) (fun p h32 => ⟨Or.inl, fun w => w.elim id (fun ⟨q, q1, _⟩ => by omega)⟩)
  · refine br_t rfl ⟨lv + 1, ?_⟩
    refine cx_enl (s0 := 0) G (fun x h => hp x (fun p h32 => (h p h32).trans ⟨fun w => w.elim (fun w => absurd w (by rw [b_0]; decide)) Or.inr, fun w => w.elim (fun w => absurd w.1 z) Or.inr⟩)) (lv + 1) 0 0 (by omega) (by omega) (fun p h32 => ⟨Or.inl, fun w => w.elim id (fun ⟨q, q1, _⟩ => by omega)⟩)
theorem cx_acl (G : cr_lf lv ls tp bs aL aT aE aB) (h1 : (∃ q, q < lv ∧ bt (iL 0) q = true ∧ cr_C hx ls tp bs q) → post 1) (h0 : ¬ (∃ q, q < lv ∧ bt (iL 0) q = true ∧ cr_C hx ls tp bs q) → post 0) :
    ∀ n i, lv - i < n → i ≤ lv → (∀ q, q < i → ¬ (bt (iL 0) q = true ∧ cr_C hx ls tp bs q)) → wX_inputAccepted_20 post xL xW xP xT (nI lv) xR xN xH aC aL aT aE aB aF iE iF iL hx n (nI i) := by
  have g1 := G.1
  intro n
  induction n with
  | zero => intro i h; omega
  | succ n ih =>
    intro i hn hi hq
    rcases Nat.lt_or_ge i lv with h | h
    · have next : ¬ (bt (iL 0) i = true ∧ cr_C hx ls tp bs i) → wX_inputAccepted_20 post xL xW xP xT (nI lv) xR xN xH aC aL aT aE aB aF iE iF iL hx n (nI (i + 1)) := by
        intro z
        refine ih (i + 1) (by omega) (by omega) (fun q q1 => ?_)
        by_cases e : q = i
        · subst e; exact z
        · exact hq q (by omega)
      exact br_f (nI_ge h (by omega)) (cx_con (by omega) (fun z => br_f cr_10 (cx_cl G h (fun w => br_f cr_10 (h1 ⟨i, h, z, w⟩)) (fun w => br_t rfl (nm_r (nI_1 i) (next (fun k => w k.2)))))) (fun z => br_t rfl (nm_r (nI_1 i) (next (fun k => by rw [z] at k; exact absurd k.1 (by decide))))))
    · have e : i = lv := by omega
      subst e
      exact br_t (nI_le (Nat.le_refl i) (by omega)) (h0 (fun ⟨q, q1, q2⟩ => hq q q1 q2))
/-- the input is accepted, as X reckons it -/
def cr_xa (xP xN : Int32) (lv : Nat) (C : Nat → Prop) (iE iL : Nat → Int32) : Prop := ((xP = 2 ∨ xN = 0) ∧ ¬ iE 0 = 0) ∨ ∃ q, q < lv ∧ bt (iL 0) q = true ∧ C q
theorem cx_acc (G : cr_lf lv ls tp bs aL aT aE aB) (h1 : cr_xa xP xN lv (cr_C hx ls tp bs) iE iL → post 1) (h0 : ¬ cr_xa xP xN lv (cr_C hx ls tp bs) iE iL → post 0) : wpX_inputAccepted post (xL, xW, xP, xT, nI lv, xR, xN, xH, aC, aL, aT, aE, aB, aF, iE, iF, iL, hx) := by
  have loop : ¬ ((xP = 2 ∨ xN = 0) ∧ ¬ iE 0 = 0) → ∃ n20 : Nat, wX_inputAccepted_20 post xL xW xP xT (nI lv) xR xN xH aC aL aT aE aB aF iE iF iL hx n20 0 := fun z =>
    ⟨lv + 1, cx_acl G (fun w => h1 (Or.inr w)) (fun w => h0 (fun k => k.elim z w)) (lv + 1) 0 (by omega) (by omega) (fun q q1 => by omega)⟩
  by_cases e : iE 0 = 0
  · exact br_t e (loop (fun z => z.2 e))
  · exact br_f e (cx_st (fun z => br_f cr_10 (h1 (Or.inl ⟨z, e⟩))) (fun z => br_t rfl (loop (fun k => z k.1))))
end CRX
end
section
section CRS
/-! X's step: a leaf moves on, a leaf is dropped, a letter is appended -/
variable {xL xW xP xT xC xR xN xH : Int32} {aC aL aT aE aB aF iE iF iL hx : Nat → Int32} {lv : Nat} {ls tp bs : Nat → Nat} {post : St2 → Prop}
theorem cx_drl : ∀ n i g, 224 - i < n → i ≤ 224 → cr_01 g → (∀ j, j < i → g j = 0) → (∀ g', cr_01 g' → (∀ j, j < 224 → g' j = 0) → post (xL, xW, xP, xT, xC, xR, xN, xH, aC, aL, aT, aE, aB, aF, iE, iF, iL, g')) →
    wX_dropInput_12 post xL xW xP xT xC xR xN xH n (nI i) aC aL aT aE aB aF iE iF iL g := by
  intro n
  induction n with
  | zero => intro i g h; omega
  | succ n ih =>
    intro i g hn hi h01 h0 hp
    rcases Nat.lt_or_ge i 224 with h | h
    · refine br_f (nI_ge (b := 224) h (by decide)) ⟨vp_in_nI h (by decide), nm_r (cr_ub0 (by omega)) (nm_r (nI_1 i) (ih (i + 1) _ (by omega) (by omega) (cr_01u h01 (Or.inl rfl)) (fun j hj => ?_) hp))⟩
      by_cases e : j = i
      · subst e; exact pk_us
      · rw [pk_un e]; exact h0 j (by omega)
    · exact br_t (nI_le (a := 224) h (by omega)) (hp g h01 (fun j hj => h0 j (by omega)))
theorem cx_dr (h01 : cr_01 hx) (hp : ∀ g', cr_01 g' → (∀ j, j < 224 → g' j = 0) → post (xL, xW, xP, xT, xC, xR, 0, -1, aC, aL, aT, aE, aB, aF, iE, iF, iL, g')) : wpX_dropInput post (xL, xW, xP, xT, xC, xR, xN, xH, aC, aL, aT, aE, aB, aF, iE, iF, iL, hx) :=
  ⟨225, cx_drl (xN := 0) (xH := -1) 225 0 hx (by omega) (by omega) h01 (fun j hj => by omega) hp⟩
/-- what a leaf's cells become -/
def cr_mv (hx g : Nat → Int32) (b t : Nat) (e : Prop) (s : Prop) : Prop :=
  (∀ j, j < b ∨ b + t ≤ j → g j = hx j) ∧ (∀ v, 1 ≤ v → v ≤ t → (¬ g (b + v - 1) = 0 ↔ (v = 1 ∧ e) ∨ (1 < v ∧ ¬ hx (b + v - 2) = 0) ∨ (s ∧ v = t ∧ ¬ hx (b + v - 1) = 0)))
theorem cx_mvl {b t : Nat} {e s : Int32} (t1 : 1 ≤ t) (t2 : b + t ≤ 224) (he : e = 0 ∨ e = 1) {S : Prop} (hs : ¬ s = 0 ↔ S ∧ ¬ hx (b + t - 1) = 0) : ∀ n c g, c - b < n → b ≤ c → c ≤ b + t - 1 → cr_01 g → (∀ j, j ≤ c → g j = hx j) → (∀ j, c < j → j ≤ b + t - 1 → g j = hx (j - 1)) → (∀ j, b + t ≤ j → g j = hx j) →
    (∀ g', cr_01 g' → cr_mv hx g' b t (¬ e = 0) S → post (xL, xW, xP, xT, xC, xR, xN, xH, aC, aL, aT, aE, aB, aF, iE, iF, iL, g')) → wX_moveOn_49 post e (nI b) (nI (b + t - 1)) s xL xW xP xT xC xR xN xH n (nI c) aC aL aT aE aB aF iE iF iL g := by
  intro n
  induction n with
  | zero => intro c g h; omega
  | succ n ih =>
    intro c g hn hc1 hc2 h01 g1 g2 g3 hp
    rcases Nat.lt_or_ge b c with h | h
    · have em : nI c - 1 = nI (c - 1) := cr_s1' (by omega)
      have em2 : nI c + (-1) = nI (c - 1) := by
        obtain ⟨m, rfl⟩ : ∃ m, c = m + 1 := ⟨c - 1, by omega⟩
        exact pk_m1 m
      refine br_f (nI_ge h (by omega)) ⟨(by rw [em]; exact vp_in_nI (by omega) (by decide)), vp_in_nI (by omega) (by decide), nm_r (e' := upd g c (g (c - 1))) ?_ (nm_r em2 (ih (c - 1) _ (by omega) (by omega) (by omega) (cr_01u h01 (h01 _)) (fun j hj => ?_) (fun j hj hj2 => ?_) (fun j hj => ?_) hp))⟩
      · rw [em, nI_clamp (by omega), nI_clamp (by omega), cr_nb (h01 _)]
      · rw [pk_un (by omega)]; exact g1 j (by omega)
      · by_cases ej : j = c
        · subst ej; rw [pk_us]; exact g1 _ (by omega)
        · rw [pk_un ej]; exact g2 j (by omega) hj2
      · rw [pk_un (by omega)]; exact g3 j hj
    · have ec : c = b := by omega
      subst ec
      refine br_t (nI_le (Nat.le_refl c) (by omega)) ⟨vp_in_nI (by omega) (by decide), nm_r (cr_ub (by omega) he) ?_⟩
      have h01' : cr_01 (upd g c e) := cr_01u h01 he
      by_cases z : s = 0
      · refine br_t z (hp _ h01' ⟨fun j hj => ?_, fun v v1 v2 => ?_⟩)
        · rw [pk_un (by omega)]
          rcases hj with hj | hj
          · exact g1 j (by omega)
          · exact g3 j hj
        · have ns : ¬ (S ∧ ¬ hx (c + t - 1) = 0) := fun k => hs.mpr k z
          by_cases ev : v = 1
          · subst ev
            have ej : c + 1 - 1 = c := by omega
            rw [ej, pk_us]
            constructor
            · intro k; exact Or.inl ⟨rfl, k⟩
            · rintro (k | k | ⟨k1, k2, k3⟩)
              · exact k.2
              · omega
              · rw [← k2] at ns; rw [ej] at ns; exact absurd ⟨k1, k3⟩ ns
          · rw [pk_un (by omega), g2 (c + v - 1) (by omega) (by omega), show c + v - 1 - 1 = c + v - 2 by omega]
            constructor
            · intro k; exact Or.inr (Or.inl ⟨by omega, k⟩)
            · rintro (k | k | ⟨k1, k2, k3⟩)
              · omega
              · exact k.2
              · rw [← k2] at ns; exact absurd ⟨k1, k3⟩ ns
      · obtain ⟨z1, z2⟩ := hs.mp z
        refine br_f z ⟨vp_in_nI (by omega) (by decide), nm_r (cr_ub1 (by omega)) (hp _ (cr_01u h01' (Or.inr rfl)) ⟨fun j hj => ?_, fun v v1 v2 => ?_⟩)⟩
        · rw [pk_un (by omega), pk_un (by omega)]
          rcases hj with hj | hj
          · exact g1 j (by omega)
          · exact g3 j hj
        · by_cases et : v = t
          · subst et
            rw [pk_us]
            exact ⟨fun _ => Or.inr (Or.inr ⟨z1, rfl, z2⟩), fun _ => cr_10⟩
          · rw [pk_un (by omega)]
            by_cases ev : v = 1
            · subst ev
              have ej : c + 1 - 1 = c := by omega
              rw [ej, pk_us]
              constructor
              · intro k; exact Or.inl ⟨rfl, k⟩
              · rintro (k | k | ⟨k1, k2, k3⟩)
                · exact k.2
                · omega
                · exact absurd k2 et
            · rw [pk_un (by omega), g2 (c + v - 1) (by omega) (by omega), show c + v - 1 - 1 = c + v - 2 by omega]
              constructor
              · intro k; exact Or.inr (Or.inl ⟨by omega, k⟩)
              · rintro (k | k | ⟨k1, k2, k3⟩)
                · omega
                · exact k.2
                · exact absurd k2 et
theorem cx_mv {p : Nat} {e : Int32} (G : cr_lf lv ls tp bs aL aT aE aB) (hp : p < lv) (h01 : cr_01 hx) (he : e = 0 ∨ e = 1)
    (H : ∀ g', cr_01 g' → cr_mv hx g' (bs p) (tp p) (¬ e = 0) (¬ aE p = 0) → post (xL, xW, xP, xT, xC, xR, xN, xH, aC, aL, aT, aE, aB, aF, iE, iF, iL, g')) : wpX_moveOn post (xL, xW, xP, xT, xC, xR, xN, xH, aC, aL, aT, aE, aB, aF, iE, iF, iL, hx) (nI p) e := by
  obtain ⟨g1, g2, g3⟩ := G
  obtain ⟨eL, eT, eB, eE, t1, t2, t3⟩ := g2 p hp
  have hi : vp_in (nI p) 12 := vp_in_nI (by omega) (by decide)
  have cp : (nI p).toNatClampNeg = p := nI_clamp (by omega)
  have loop : ∀ s : Int32, (¬ s = 0 ↔ ¬ aE p = 0 ∧ ¬ hx (bs p + tp p - 1) = 0) → ∃ n49 : Nat, wX_moveOn_49 post e (nI (bs p)) (nI (bs p + tp p - 1)) s xL xW xP xT xC xR xN xH n49 (nI (bs p + tp p - 1)) aC aL aT aE aB aF iE iF iL hx := fun s hs =>
    ⟨tp p + 1, cx_mvl t1 t3 he hs (tp p + 1) (bs p + tp p - 1) hx (by omega) (by omega) (by omega) h01 (fun j _ => rfl) (fun j a b => by omega) (fun j _ => rfl) H⟩
  refine ⟨hi, nm_r (e' := nI (bs p)) (by rw [cp, eB]) ⟨hi, nm_r (e' := nI (bs p + tp p - 1)) (by rw [cp, eT, nI_add, cr_s1' (by omega)]) ⟨hi, ?_⟩⟩⟩
  by_cases z : aE p = 0
  · exact br_t (by rw [cp]; exact z) (loop 0 ⟨fun k => absurd rfl k, fun k => absurd z k.1⟩)
  · refine br_f (by rw [cp]; exact z) ⟨vp_in_nI (by omega) (by decide), ?_⟩
    by_cases w : hx (bs p + tp p - 1) = 0
    · exact br_t (by rw [nI_clamp (by omega)]; exact w) (loop 0 ⟨fun k => absurd rfl k, fun k => absurd w k.2⟩)
    · exact br_f (by rw [nI_clamp (by omega)]; exact w) (loop 1 ⟨fun _ => ⟨z, w⟩, fun _ => cr_10⟩)
theorem cx_dpl {p : Nat} (G : cr_lf lv ls tp bs aL aT aE aB) (hp : p < lv) : ∀ n a g, tp p + 1 - a < n → 1 ≤ a → a ≤ tp p + 1 → cr_01 g → (∀ j, j < bs p ∨ bs p + tp p ≤ j → g j = hx j) → (∀ v, 1 ≤ v → v < a → g (bs p + v - 1) = 0) →
    (∀ g', cr_01 g' → (∀ j, j < bs p ∨ bs p + tp p ≤ j → g' j = hx j) → (∀ v, 1 ≤ v → v ≤ tp p → g' (bs p + v - 1) = 0) → post (xL, xW, xP, xT, xC, xR, xN, xH, aC, aL, aT, aE, aB, aF, iE, iF, iL, g')) → wX_dropPairs_2 post (nI p) xL xW xP xT xC xR xN xH n (nI a) aC aL aT aE aB aF iE iF iL g := by
  obtain ⟨g1, g2, g3⟩ := G
  obtain ⟨eL, eT, eB, eE, t1, t2, t3⟩ := g2 p hp
  have hi : vp_in (nI p) 12 := vp_in_nI (by omega) (by decide)
  have cp : (nI p).toNatClampNeg = p := nI_clamp (by omega)
  intro n
  induction n with
  | zero => intro a g h; omega
  | succ n ih =>
    intro a g hn ha1 ha2 h01 o1 o2 H
    rcases Nat.lt_or_ge (tp p) a with h | h
    · exact ⟨hi, br_t (by rw [cp, eT]; exact nI_lt h (by omega)) (H g h01 o1 (fun v v1 v2 => o2 v v1 (by omega)))⟩
    · have e := cr_cell (aB := aB) (show p < 12 by omega) eB ha1
      refine ⟨hi, br_f (by rw [cp, eT]; exact nI_nlt h (by omega)) ⟨hi, (by rw [e]; exact vp_in_nI (by omega) (by decide)), nm_r (e' := upd g (bs p + a - 1) 0) (by rw [e]; exact cr_ub0 (by omega)) (nm_r (nI_1 a) (ih (a + 1) _ (by omega) (by omega) (by omega) (cr_01u h01 (Or.inl rfl)) (fun j hj => ?_) (fun v v1 v2 => ?_) H))⟩⟩
      · rw [pk_un (by omega)]; exact o1 j hj
      · by_cases ev : v = a
        · subst ev; exact pk_us
        · rw [pk_un (by omega)]; exact o2 v v1 (by omega)
theorem cx_dp {p : Nat} (G : cr_lf lv ls tp bs aL aT aE aB) (hp : p < lv) (h01 : cr_01 hx)
    (H : ∀ g', cr_01 g' → (∀ j, j < bs p ∨ bs p + tp p ≤ j → g' j = hx j) → (∀ v, 1 ≤ v → v ≤ tp p → g' (bs p + v - 1) = 0) → post (xL, xW, xP, xT, xC, xR, xN, xH, aC, aL, aT, aE, aB, aF, iE, iF, iL, g')) : wpX_dropPairs post (xL, xW, xP, xT, xC, xR, xN, xH, aC, aL, aT, aE, aB, aF, iE, iF, iL, hx) (nI p) :=
  ⟨tp p + 1, cx_dpl G hp (tp p + 1) 1 hx (by omega) (by omega) (by omega) h01 (fun j _ => rfl) (fun v a b => by omega) H⟩
/-- (p,v) is held after one letter x more -/
def cr_W (aC aE hx : Nat → Int32) (tp bs : Nat → Nat) (en : Nat → Prop) (x p v : Nat) : Prop :=
  bt (aC p) x = true ∧ ((v = 1 ∧ en p) ∨ (1 < v ∧ ¬ hx (bs p + v - 2) = 0) ∨ (¬ aE p = 0 ∧ v = tp p ∧ ¬ hx (bs p + v - 1) = 0))
theorem cr_far (G : cr_lf lv ls tp bs aL aT aE aB) {p q v : Nat} (hp : p < lv) (hq : q < lv) (hn : q ≠ p) (v1 : 1 ≤ v) (v2 : v ≤ tp q) : bs q + v - 1 < bs p ∨ bs p + tp p ≤ bs q + v - 1 := by
  rcases Nat.lt_or_ge q p with h | h
  · have := G.2.2 q p h hp; omega
  · have := G.2.2 p q (by omega) hq; omega
theorem cx_apl {x : Nat} {en : Int32} (hx8 : x < 8) (G : cr_lf lv ls tp bs aL aT aE aB) : ∀ n i g, lv - i < n → i ≤ lv → cr_01 g →
    (∀ q, q < i → ∀ v, 1 ≤ v → v ≤ tp q → (¬ g (bs q + v - 1) = 0 ↔ cr_W aC aE hx tp bs (fun p => bt en p = true) x q v)) →
    (∀ q, i ≤ q → q < lv → ∀ v, 1 ≤ v → v ≤ tp q → g (bs q + v - 1) = hx (bs q + v - 1)) →
    (∀ g', cr_01 g' → (∀ q, q < lv → ∀ v, 1 ≤ v → v ≤ tp q → (¬ g' (bs q + v - 1) = 0 ↔ cr_W aC aE hx tp bs (fun p => bt en p = true) x q v)) → post (xL, xW, xP, xT, nI lv, xR, xN + 1, xH, aC, aL, aT, aE, aB, aF, iE, iF, iL, g')) →
    wX_append_7 post (nI x) en n (nI i) xL xW xP xT (nI lv) xR xN xH aC aL aT aE aB aF iE iF iL g := by
  have g1 := G.1
  intro n
  induction n with
  | zero => intro i g h; omega
  | succ n ih =>
    intro i g hn hi h01 o1 o2 H
    rcases Nat.lt_or_ge i lv with h | h
    · have cp : (nI i).toNatClampNeg = i := nI_clamp (by omega)
      refine br_f (nI_ge h (by omega)) ⟨vp_in_nI (by omega) (by decide), cx_con (by omega) (fun z => br_f cr_10 ?_) (fun z => br_t rfl ?_)⟩
      · rw [cp] at z
        have mv : ∀ e : Int32, (e = 0 ∨ e = 1) → (¬ e = 0 ↔ bt en i = true) → ∀ g', cr_01 g' → cr_mv g g' (bs i) (tp i) (¬ e = 0) (¬ aE i = 0) → wX_append_7 post (nI x) en n (nI (i + 1)) xL xW xP xT (nI lv) xR xN xH aC aL aT aE aB aF iE iF iL g' := by
          intro e he hee g' h01' M
          refine ih (i + 1) g' (by omega) (by omega) h01' (fun q hq v v1 v2 => ?_) (fun q hq1 hq2 v v1 v2 => ?_) H
          · by_cases eq : q = i
            · subst eq
              rw [M.2 v v1 v2, hee]
              constructor
              · rintro (k | ⟨k1, k2⟩ | ⟨k1, k2, k3⟩)
                · exact ⟨z, Or.inl k⟩
                · have ev : bs q + v - 2 = bs q + (v - 1) - 1 := by omega
                  rw [ev, o2 q (Nat.le_refl q) h (v - 1) (by omega) (by omega), ← ev] at k2
                  exact ⟨z, Or.inr (Or.inl ⟨k1, k2⟩)⟩
                · rw [o2 q (Nat.le_refl q) h v v1 v2] at k3
                  exact ⟨z, Or.inr (Or.inr ⟨k1, k2, k3⟩)⟩
              · rintro ⟨_, k | ⟨k1, k2⟩ | ⟨k1, k2, k3⟩⟩
                · exact Or.inl k
                · have ev : bs q + v - 2 = bs q + (v - 1) - 1 := by omega
                  refine Or.inr (Or.inl ⟨k1, ?_⟩)
                  rw [ev, o2 q (Nat.le_refl q) h (v - 1) (by omega) (by omega), ← ev]; exact k2
                · refine Or.inr (Or.inr ⟨k1, k2, ?_⟩)
                  rw [o2 q (Nat.le_refl q) h v v1 v2]; exact k3
            · rw [M.1 _ (cr_far G h (by omega) eq v1 v2)]
              exact o1 q (by omega) v v1 v2
          · rw [M.1 _ (cr_far G h hq2 (by omega) v1 v2)]
            exact o2 q (by omega) hq2 v v1 v2
        refine cx_con (by omega) (fun w => ?_) (fun w => ?_)
        · exact cx_mv G h h01 (Or.inr rfl) (fun g' a b => nm_r (nI_1 i) (mv 1 (Or.inr rfl) ⟨fun _ => w, fun _ => cr_10⟩ g' a b))
        · exact cx_mv G h h01 (Or.inl rfl) (fun g' a b => nm_r (nI_1 i) (mv 0 (Or.inl rfl) ⟨fun k => absurd rfl k, fun k => by rw [w] at k; exact absurd k (by decide)⟩ g' a b))
      · rw [cp] at z
        refine cx_dp G h h01 (fun g' h01' p1 p2 => nm_r (nI_1 i) (ih (i + 1) g' (by omega) (by omega) h01' (fun q hq v v1 v2 => ?_) (fun q hq1 hq2 v v1 v2 => ?_) H))
        · by_cases eq : q = i
          · subst eq
            rw [p2 v v1 v2]
            exact ⟨fun k => absurd rfl k, fun k => by rw [k.1] at z; exact absurd z (by decide)⟩
          · rw [p1 _ (cr_far G h (by omega) eq v1 v2)]
            exact o1 q (by omega) v v1 v2
        · rw [p1 _ (cr_far G h hq2 (by omega) v1 v2)]
          exact o2 q (by omega) hq2 v v1 v2
    · exact br_t (nI_le h (by omega)) (nm_e (H g h01 (fun q hq v v1 v2 => o1 q (by omega) v v1 v2)))
/-- the leaves that can be entered, at X's state -/
def cr_xn (xP xN : Int32) (lv : Nat) (C : Nat → Prop) (aF iF : Nat → Int32) (p : Nat) : Prop := ((xP = 2 ∨ xN = 0) ∧ bt (iF 0) p = true) ∨ ∃ q, q < lv ∧ C q ∧ bt (aF q) p = true
theorem cx_ap {x : Nat} (hx8 : x < 8) (G : cr_lf lv ls tp bs aL aT aE aB) (h01 : cr_01 hx)
    (H : ∀ g', cr_01 g' → (∀ q, q < lv → ∀ v, 1 ≤ v → v ≤ tp q → (¬ g' (bs q + v - 1) = 0 ↔ cr_W aC aE hx tp bs (cr_xn xP xN lv (cr_C hx ls tp bs) aF iF) x q v)) → post (xL, xW, xP, xT, nI lv, xR, xN + 1, xH, aC, aL, aT, aE, aB, aF, iE, iF, iL, g')) :
    wpX_append post (xL, xW, xP, xT, nI lv, xR, xN, xH, aC, aL, aT, aE, aB, aF, iE, iF, iL, hx) (nI x) := by
  have g1 := G.1
  refine cx_en G (fun en he => ⟨lv + 1, cx_apl (hx := hx) hx8 G (lv + 1) 0 hx (by omega) (by omega) h01 (fun q hq => by omega) (fun q _ _ v _ _ => rfl) (fun g' h01' k => H g' h01' (fun q hq v v1 v2 => (k q hq v v1 v2).trans ?_))⟩)
  have := he q (by omega)
  unfold cr_W
  dsimp only
  rw [this]
  exact Iff.rfl
end CRS
end
section
section CRB
/-! X while building: what follows what, joins, wraps, a leaf -/
variable {xL xW xP xT xC xR xN xH : Int32} {aC aL aT aE aB aF iE iF iL hx : Nat → Int32} {lv h rm : Nat}
theorem cx_lfl {post : St2 → Prop} {s t : Int32} (hl : lv ≤ 12) : ∀ n i f, lv - i < n → i ≤ lv → (∀ q, q < i → ∀ p, (bt (f q) p = true ↔ bt (aF q) p = true ∨ (bt s q = true ∧ bt t p = true))) → (∀ q, i ≤ q → f q = aF q) →
    (∀ f', (∀ q, q < lv → ∀ p, (bt (f' q) p = true ↔ bt (aF q) p = true ∨ (bt s q = true ∧ bt t p = true))) → post (xL, xW, xP, xT, nI lv, xR, xN, xH, aC, aL, aT, aE, aB, f', iE, iF, iL, hx)) → wX_letFollow_2 post s t xL xW xP xT (nI lv) xR xN xH n (nI i) aC aL aT aE aB f iE iF iL hx := by
  intro n
  induction n with
  | zero => intro i f h; omega
  | succ n ih =>
    intro i f hn hi o1 o2 H
    rcases Nat.lt_or_ge i lv with h | h
    · have cp : (nI i).toNatClampNeg = i := nI_clamp (by omega)
      have hin : vp_in (nI i) 12 := vp_in_nI (by omega) (by decide)
      refine br_f (nI_ge h (by omega)) (cx_con (by omega) (fun z => br_f cr_10 ⟨hin, hin, nm_r (e' := upd f i (f i ||| t)) (by rw [cp]) (nm_r (nI_1 i) (ih (i + 1) _ (by omega) (by omega) (fun q hq p => ?_) (fun q hq => ?_) H))⟩) (fun z => br_t rfl (nm_r (nI_1 i) (ih (i + 1) _ (by omega) (by omega) (fun q hq p => ?_) (fun q hq => ?_) H))))
      · by_cases e : q = i
        · subst e
          rw [pk_us, b_or, Bool.or_eq_true, o2 q (Nat.le_refl q)]
          exact ⟨fun k => k.elim Or.inl (fun k => Or.inr ⟨z, k⟩), fun k => k.elim Or.inl (fun k => Or.inr k.2)⟩
        · rw [pk_un e]; exact o1 q (by omega) p
      · rw [pk_un (by omega)]; exact o2 q (by omega)
      · by_cases e : q = i
        · subst e
          rw [o2 q (Nat.le_refl q)]
          exact ⟨Or.inl, fun k => k.elim id (fun k => by rw [z] at k; exact absurd k.1 (by decide))⟩
        · exact o1 q (by omega) p
      · exact o2 q (by omega)
    · exact br_t (nI_le h (by omega)) (H f (fun q hq p => o1 q (by omega) p))
theorem cx_lf {post : St2 → Prop} {s t : Int32} (hl : lv ≤ 12) (H : ∀ f', (∀ q, q < lv → ∀ p, (bt (f' q) p = true ↔ bt (aF q) p = true ∨ (bt s q = true ∧ bt t p = true))) → post (xL, xW, xP, xT, nI lv, xR, xN, xH, aC, aL, aT, aE, aB, f', iE, iF, iL, hx)) :
    wpX_letFollow post (xL, xW, xP, xT, nI lv, xR, xN, xH, aC, aL, aT, aE, aB, aF, iE, iF, iL, hx) s t :=
  ⟨lv + 1, cx_lfl hl (lv + 1) 0 aF (by omega) (by omega) (fun q hq => by omega) (fun q _ => rfl) H⟩
/-- item l of the stack is a new one -/
def cr_it (l : Nat) (iE iF iL e' f' l' : Nat → Int32) (e : Prop) (f la : Nat → Prop) : Prop :=
  (∀ i, i ≠ l → e' i = iE i ∧ f' i = iF i ∧ l' i = iL i) ∧ (¬ e' l = 0 ↔ e) ∧ (∀ p, bt (f' l) p = true ↔ f p) ∧ (∀ p, bt (l' l) p = true ↔ la p)
theorem cr_bo {x y : Int32} {p : Nat} : bt (x ||| y) p = true ↔ bt x p = true ∨ bt y p = true := by rw [b_or, Bool.or_eq_true]
theorem cx_cat {post : St2 → Prop} {l r : Nat} (hl : lv ≤ 12) (l12 : l < 12) (r12 : r < 12) (hn : l ≠ r)
    (H : ∀ f' e1 f1 l1, (∀ q, q < lv → ∀ p, (bt (f' q) p = true ↔ bt (aF q) p = true ∨ (bt (iL l) q = true ∧ bt (iF r) p = true))) →
      cr_it l iE iF iL e1 f1 l1 (¬ iE l = 0 ∧ ¬ iE r = 0) (fun p => bt (iF l) p = true ∨ (¬ iE l = 0 ∧ bt (iF r) p = true)) (fun p => bt (iL r) p = true ∨ (¬ iE r = 0 ∧ bt (iL l) p = true)) →
      post (xL, xW, xP, xT, nI lv, xR, xN, xH, aC, aL, aT, aE, aB, f', e1, f1, l1, hx)) : wpX_concatenate post (xL, xW, xP, xT, nI lv, xR, xN, xH, aC, aL, aT, aE, aB, aF, iE, iF, iL, hx) (nI l) (nI r) := by
  have cl : (nI l).toNatClampNeg = l := nI_clamp (by omega)
  have cr : (nI r).toNatClampNeg = r := nI_clamp (by omega)
  have il : vp_in (nI l) 12 := vp_in_nI l12 (by decide)
  have ir : vp_in (nI r) 12 := vp_in_nI r12 (by decide)
  refine ⟨il, ir, ?_⟩
  rw [cl, cr]
  refine cx_lf hl (fun f' hf => ?_)
  -- the end: empty
  have c79 : ∀ f1 l1, (∀ i, i ≠ l → f1 i = iF i ∧ l1 i = iL i) → (∀ p, bt (f1 l) p = true ↔ bt (iF l) p = true ∨ (¬ iE l = 0 ∧ bt (iF r) p = true)) → (∀ p, bt (l1 l) p = true ↔ bt (iL r) p = true ∨ (¬ iE r = 0 ∧ bt (iL l) p = true)) →
      wX_concatenate_79 post (nI l) (nI r) xL xW xP xT (nI lv) xR xN xH aC aL aT aE aB f' iE f1 l1 hx := by
    intro f1 l1 o1 o2 o3
    have fin : ∀ e : Int32, (¬ e = 0 ↔ ¬ iE l = 0 ∧ ¬ iE r = 0) → post (xL, xW, xP, xT, nI lv, xR, xN, xH, aC, aL, aT, aE, aB, f', upd iE l e, f1, l1, hx) := by
      intro e he
      refine H f' _ f1 l1 hf ⟨fun i hi => ⟨pk_un hi, o1 i hi⟩, ?_, o2, o3⟩
      rw [pk_us]; exact he
    refine ⟨il, ?_⟩
    by_cases z : iE l = 0
    · exact br_t (by rw [cl]; exact z) ⟨il, nm_r (cr_ub0 (by omega)) (fin 0 ⟨fun k => absurd rfl k, fun k => absurd z k.1⟩)⟩
    · refine br_f (by rw [cl]; exact z) ⟨ir, ?_⟩
      by_cases w : iE r = 0
      · exact br_t (by rw [cr]; exact w) ⟨il, nm_r (cr_ub0 (by omega)) (fin 0 ⟨fun k => absurd rfl k, fun k => absurd w k.2⟩)⟩
      · exact br_f (by rw [cr]; exact w) ⟨il, nm_r (cr_ub1 (by omega)) (fin 1 ⟨fun _ => ⟨z, w⟩, fun _ => cr_10⟩)⟩
  have c40 : ∀ f1, (∀ i, i ≠ l → f1 i = iF i) → (∀ p, bt (f1 l) p = true ↔ bt (iF l) p = true ∨ (¬ iE l = 0 ∧ bt (iF r) p = true)) → wX_concatenate_40 post (nI l) (nI r) xL xW xP xT (nI lv) xR xN xH aC aL aT aE aB f' iE f1 iL hx := by
    intro f1 o1 o2
    refine ⟨ir, ?_⟩
    by_cases w : iE r = 0
    · refine br_t (by rw [cr]; exact w) ⟨ir, il, nm_r (e' := upd iL l (iL r)) (by rw [cl, cr]) (c79 f1 _ (fun i hi => ⟨o1 i hi, pk_un hi⟩) o2 (fun p => ?_))⟩
      rw [pk_us]
      exact ⟨Or.inl, fun k => k.elim id (fun k => absurd w k.1)⟩
    · refine br_f (by rw [cr]; exact w) ⟨il, ir, il, nm_r (e' := upd iL l (iL l ||| iL r)) (by rw [cl, cr]) (c79 f1 _ (fun i hi => ⟨o1 i hi, pk_un hi⟩) o2 (fun p => ?_))⟩
      rw [pk_us, cr_bo]
      exact ⟨fun k => k.elim (fun k => Or.inr ⟨w, k⟩) Or.inl, fun k => k.elim Or.inr (fun k => Or.inl k.2)⟩
  refine ⟨il, ?_⟩
  by_cases z : iE l = 0
  · exact br_t z (c40 iF (fun i _ => rfl) (fun p => ⟨Or.inl, fun k => k.elim id (fun k => absurd z k.1)⟩))
  · refine br_f z ⟨il, ir, il, nm_r (e' := upd iF l (iF l ||| iF r)) rfl (c40 _ (fun i hi => pk_un hi) (fun p => ?_))⟩
    rw [pk_us, cr_bo]
    exact ⟨fun k => k.elim Or.inl (fun k => Or.inr ⟨z, k⟩), fun k => k.elim Or.inl (fun k => Or.inr k.2)⟩
theorem cx_alt {post : St2 → Prop} (h12 : h + 2 ≤ 12)
    (H : ∀ e1 f1 l1, cr_it h iE iF iL e1 f1 l1 (¬ iE h = 0 ∨ ¬ iE (h + 1) = 0) (fun p => bt (iF h) p = true ∨ bt (iF (h + 1)) p = true) (fun p => bt (iL h) p = true ∨ bt (iL (h + 1)) p = true) →
      post (xL, xW, xP, nI (h + 1), xC, xR, xN, xH, aC, aL, aT, aE, aB, aF, e1, f1, l1, hx)) : wpX_joinUppermost post (xL, xW, xP, nI (h + 2), xC, xR, xN, xH, aC, aL, aT, aE, aB, aF, iE, iF, iL, hx) 2 := by
  have cl : (nI h).toNatClampNeg = h := nI_clamp (by omega)
  have cr : (nI (h + 1)).toNatClampNeg = h + 1 := nI_clamp (by omega)
  have il : vp_in (nI h) 12 := vp_in_nI (by omega) (by decide)
  have ir : vp_in (nI (h + 1)) 12 := vp_in_nI (by omega) (by decide)
  have c56 : ∀ e : Int32, (e = 0 ∨ e = 1) → (¬ e = 0 ↔ ¬ iE h = 0 ∨ ¬ iE (h + 1) = 0) → wX_joinUppermost_56 post (nI h) (nI (h + 1)) e (nI h) xL xW xP (nI (h + 2)) xC xR xN xH aC aL aT aE aB aF iE iF iL hx := by
    intro e he hee
    refine ⟨il, nm_r (cr_ub (by omega) he) ⟨il, ir, il, nm_r (e' := upd iF h (iF h ||| iF (h + 1))) (by rw [cl, cr]) ⟨il, ir, il, nm_r (e' := upd iL h (iL h ||| iL (h + 1))) (by rw [cl, cr]) (nm_r (e' := nI (h + 1)) (cr_s1' (by omega)) (H _ _ _ ⟨fun i hi => ⟨pk_un hi, pk_un hi, pk_un hi⟩, ?_, fun p => ?_, fun p => ?_⟩))⟩⟩⟩
    · rw [pk_us]; exact hee
    · rw [pk_us, cr_bo]
    · rw [pk_us, cr_bo]
  refine nm_r (e' := nI h) (pk_sub (a := h + 2) (b := 2) (by omega)) (nm_r (e' := nI (h + 1)) (cr_s1' (by omega)) (br_f (by decide) ⟨il, ?_⟩))
  by_cases z : iE h = 0
  · refine br_t (by rw [cl]; exact z) ⟨ir, ?_⟩
    by_cases w : iE (h + 1) = 0
    · exact br_t (by rw [cr]; exact w) (c56 0 (Or.inl rfl) ⟨fun k => absurd rfl k, fun k => k.elim (fun k => absurd z k) (fun k => absurd w k)⟩)
    · exact br_f (by rw [cr]; exact w) (c56 1 (Or.inr rfl) ⟨fun _ => Or.inr w, fun _ => cr_10⟩)
  · exact br_f (by rw [cl]; exact z) (c56 1 (Or.inr rfl) ⟨fun _ => Or.inl z, fun _ => cr_10⟩)
theorem cx_join1 {post : St2 → Prop} (hl : lv ≤ 12) (h12 : h + 2 ≤ 12)
    (H : ∀ f' e1 f1 l1, (∀ q, q < lv → ∀ p, (bt (f' q) p = true ↔ bt (aF q) p = true ∨ (bt (iL h) q = true ∧ bt (iF (h + 1)) p = true))) →
      cr_it h iE iF iL e1 f1 l1 (¬ iE h = 0 ∧ ¬ iE (h + 1) = 0) (fun p => bt (iF h) p = true ∨ (¬ iE h = 0 ∧ bt (iF (h + 1)) p = true)) (fun p => bt (iL (h + 1)) p = true ∨ (¬ iE (h + 1) = 0 ∧ bt (iL h) p = true)) →
      post (xL, xW, xP, nI (h + 1), nI lv, xR, xN, xH, aC, aL, aT, aE, aB, f', e1, f1, l1, hx)) : wpX_joinUppermost post (xL, xW, xP, nI (h + 2), nI lv, xR, xN, xH, aC, aL, aT, aE, aB, aF, iE, iF, iL, hx) 1 :=
  nm_r (e' := nI h) (pk_sub (a := h + 2) (b := 2) (by omega)) (nm_r (e' := nI (h + 1)) (cr_s1' (by omega)) (br_t rfl
    (cx_cat hl (by omega) (by omega) (by omega) (fun f' e1 f1 l1 a b => nm_r (e' := nI (h + 1)) (cr_s1' (by omega)) (H f' e1 f1 l1 a b)))))
theorem cx_wrap {post : St2 → Prop} {k : Nat} (hl : lv ≤ 12) (h12 : h + 1 ≤ 12) (k3 : 3 ≤ k) (k5 : k ≤ 5)
    (H : ∀ f' e1, (∀ q, q < lv → ∀ p, (bt (f' q) p = true ↔ bt (aF q) p = true ∨ ((k = 3 ∨ k = 4) ∧ bt (iL h) q = true ∧ bt (iF h) p = true))) →
      cr_it h iE iF iL e1 iF iL (k ≠ 4 ∨ ¬ iE h = 0) (fun p => bt (iF h) p = true) (fun p => bt (iL h) p = true) →
      post (xL, xW, xP, nI (h + 1), nI lv, nI rm, xN, xH, aC, aL, aT, aE, aB, f', e1, iF, iL, hx)) : wpX_wrapUppermost post (xL, xW, xP, nI (h + 1), nI lv, nI (rm + 1), xN, xH, aC, aL, aT, aE, aB, aF, iE, iF, iL, hx) (nI k) := by
  have cl : (nI h).toNatClampNeg = h := nI_clamp (by omega)
  have il : vp_in (nI h) 12 := vp_in_nI (by omega) (by decide)
  have c28 : ∀ f', (∀ q, q < lv → ∀ p, (bt (f' q) p = true ↔ bt (aF q) p = true ∨ ((k = 3 ∨ k = 4) ∧ bt (iL h) q = true ∧ bt (iF h) p = true))) → wX_wrapUppermost_28 post (nI k) (nI h) xL xW xP (nI (h + 1)) (nI lv) (nI (rm + 1)) xN xH aC aL aT aE aB f' iE iF iL hx := by
    intro f' hf
    refine pk_eq k 4 (fun z => nm_r (nI_pred rm) (H f' iE hf ⟨fun i _ => ⟨rfl, rfl, rfl⟩, ?_, fun p => Iff.rfl, fun p => Iff.rfl⟩)) (fun z => ⟨il, nm_r (cr_ub1 (by omega)) (nm_r (nI_pred rm) (H f' _ hf ⟨fun i hi => ⟨pk_un hi, rfl, rfl⟩, ?_, fun p => Iff.rfl, fun p => Iff.rfl⟩))⟩)
    · exact ⟨fun w => Or.inr w, fun w => w.elim (fun w => absurd z w) id⟩
    · rw [pk_us]
      exact ⟨fun _ => Or.inl z, fun _ => cr_10⟩
  refine nm_r (e' := nI h) (cr_s1' (by omega)) (pk_eq k 5 (fun z => c28 aF (fun q hq p => ?_)) (fun z => ⟨il, il, ?_⟩))
  · exact ⟨Or.inl, fun w => w.elim id (fun w => by omega)⟩
  · rw [cl]
    refine cx_lf hl (fun f' hf => c28 f' (fun q hq p => (hf q hq p).trans ?_))
    exact ⟨fun w => w.elim Or.inl (fun w => Or.inr ⟨by omega, w⟩), fun w => w.elim Or.inl (fun w => Or.inr w.2)⟩
/-! op -/
theorem cx_op1 {post : Int32 → St2 → Prop} (hl : lv ≤ 12) (h12 : h + 2 ≤ 12)
    (H : ∀ f' e1 f1 l1, (∀ q, q < lv → ∀ p, (bt (f' q) p = true ↔ bt (aF q) p = true ∨ (bt (iL h) q = true ∧ bt (iF (h + 1)) p = true))) →
      cr_it h iE iF iL e1 f1 l1 (¬ iE h = 0 ∧ ¬ iE (h + 1) = 0) (fun p => bt (iF h) p = true ∨ (¬ iE h = 0 ∧ bt (iF (h + 1)) p = true)) (fun p => bt (iL (h + 1)) p = true ∨ (¬ iE (h + 1) = 0 ∧ bt (iL h) p = true)) →
      post (nI (h + 1)) (xL, xW, 0, nI (h + 1), nI lv, xR, xN, xH, aC, aL, aT, aE, aB, f', e1, f1, l1, hx)) : wpX_op post (xL, xW, 0, nI (h + 2), nI lv, xR, xN, xH, aC, aL, aT, aE, aB, aF, iE, iF, iL, hx) 1 :=
  br_t rfl (br_f (by decide) (br_t (by decide) (br_t rfl (br_f cr_10 (br_t (nI_le (a := 2) (by omega) (by omega)) (br_f cr_10 (br_f cr_10 (cx_join1 hl h12 H))))))))
theorem cx_op2 {post : Int32 → St2 → Prop} (h12 : h + 2 ≤ 12)
    (H : ∀ e1 f1 l1, cr_it h iE iF iL e1 f1 l1 (¬ iE h = 0 ∨ ¬ iE (h + 1) = 0) (fun p => bt (iF h) p = true ∨ bt (iF (h + 1)) p = true) (fun p => bt (iL h) p = true ∨ bt (iL (h + 1)) p = true) →
      post (nI (h + 1)) (xL, xW, 0, nI (h + 1), xC, xR, xN, xH, aC, aL, aT, aE, aB, aF, e1, f1, l1, hx)) : wpX_op post (xL, xW, 0, nI (h + 2), xC, xR, xN, xH, aC, aL, aT, aE, aB, aF, iE, iF, iL, hx) 2 :=
  br_t rfl (br_f (by decide) (br_t (by decide) (br_f (by decide) (br_t rfl (br_f cr_10 (br_t (nI_le (a := 2) (by omega) (by omega)) (br_f cr_10 (br_f cr_10 (cx_alt h12 H)))))))))
theorem cx_op3 {post : Int32 → St2 → Prop} {k : Nat} (hl : lv ≤ 12) (h12 : h + 1 ≤ 12) (k3 : 3 ≤ k) (k5 : k ≤ 5) (hr : rm < 1000)
    (H : ∀ f' e1, (∀ q, q < lv → ∀ p, (bt (f' q) p = true ↔ bt (aF q) p = true ∨ ((k = 3 ∨ k = 4) ∧ bt (iL h) q = true ∧ bt (iF h) p = true))) →
      cr_it h iE iF iL e1 iF iL (k ≠ 4 ∨ ¬ iE h = 0) (fun p => bt (iF h) p = true) (fun p => bt (iL h) p = true) →
      post (nI (h + 1)) (xL, xW, 0, nI (h + 1), nI lv, nI rm, xN, xH, aC, aL, aT, aE, aB, f', e1, iF, iL, hx)) : wpX_op post (xL, xW, 0, nI (h + 1), nI lv, nI (rm + 1), xN, xH, aC, aL, aT, aE, aB, aF, iE, iF, iL, hx) (nI k) :=
  br_t rfl (br_f (nI_nlt (b := 1) (by omega) (by omega)) (br_t (nI_le (b := 5) k5 (by decide)) (pk_eq k 1 (fun z => by omega) (fun _ => pk_eq k 2 (fun z => by omega) (fun _ => br_t rfl (br_t (nI_le (a := 1) (by omega) (by omega)) (br_t rfl (br_t (nI_le (a := 1) (by omega) (by omega)) (br_t rfl (cx_wrap hl h12 k3 k5 H))))))))))
end CRB
end
section
section CRQ
variable {xL xW xP xT xC xR xN xH : Int32} {aC aL aT aE aB aF iE iF iL hx : Nat → Int32} {lv h rm li ce : Nat} {ls tp bs : Nat → Nat}
def cr_ct (b : Nat → Int32) : Nat → Nat
  | 0 => 0
  | n + 1 => cr_ct b n + (if b n = 0 then 0 else 1)
theorem cr_ct_le (b : Nat → Int32) : ∀ n, cr_ct b n ≤ n := by
  intro n
  induction n with
  | zero => exact Nat.le_refl 0
  | succ n ih =>
    show cr_ct b n + (if b n = 0 then 0 else 1) ≤ n + 1
    split <;> omega
theorem cr_ctc {f g : Nat → Int32} : ∀ n, (∀ j, j < n → f j = g j) → cr_ct f n = cr_ct g n := by
  intro n
  induction n with
  | zero => exact fun _ => rfl
  | succ n ih =>
    intro hj
    show cr_ct f n + (if f n = 0 then 0 else 1) = cr_ct g n + (if g n = 0 then 0 else 1)
    rw [ih (fun j h => hj j (by omega)), hj n (by omega)]
theorem cr_ctz {f : Nat → Int32} {n : Nat} : ∀ d, (∀ j, n ≤ j → j < n + d → f j = 0) → cr_ct f (n + d) = cr_ct f n := by
  intro d
  induction d with
  | zero => exact fun _ => rfl
  | succ d ih =>
    intro hj
    show cr_ct f (n + d) + (if f (n + d) = 0 then 0 else 1) = cr_ct f n
    rw [ih (fun j a b => hj j a (by omega)), hj (n + d) (by omega) (by omega), if_pos rfl, Nat.add_zero]
theorem cx_szl {post : Int32 → Prop} {p : Nat} (G : cr_lf lv ls tp bs aL aT aE aB) (hp : p < lv) (H : post (nI (cr_ct (fun j => hx (bs p + j)) (tp p)))) : ∀ n i, tp p - i < n → i ≤ tp p →
    wX_size_14 post (nI p) xL xW xP xT xC xR xN xH aC aL aT aE aB aF iE iF iL hx n (nI (cr_ct (fun j => hx (bs p + j)) i)) (nI (i + 1)) := by
  obtain ⟨g1, g2, g3⟩ := G
  obtain ⟨eL, eT, eB, eE, t1, t2, t3⟩ := g2 p hp
  have hi : vp_in (nI p) 12 := vp_in_nI (by omega) (by decide)
  have cp : (nI p).toNatClampNeg = p := nI_clamp (by omega)
  intro n
  induction n with
  | zero => intro i h; omega
  | succ n ih =>
    intro i hn hit
    rcases Nat.lt_or_ge i (tp p) with h | h
    · have e : ((aB (nI p).toNatClampNeg) + nI (i + 1)) - 1 = nI (bs p + i) := cr_cell (aB := aB) (show p < 12 by omega) eB (by omega)
      have ce : (nI (bs p + i)).toNatClampNeg = bs p + i := nI_clamp (by omega)
      have hv : vp_in (((aB (nI p).toNatClampNeg) + nI (i + 1)) - 1) 224 := by rw [e]; exact vp_in_nI (by omega) (by decide)
      have ih' := ih (i + 1) (by omega) (by omega)
      have es : cr_ct (fun j => hx (bs p + j)) (i + 1) = cr_ct (fun j => hx (bs p + j)) i + (if hx (bs p + i) = 0 then 0 else 1) := rfl
      refine ⟨hi, br_f (by rw [cp, eT]; exact nI_nlt (by omega) (by omega)) ⟨hi, hv, ?_⟩⟩
      by_cases z : hx (bs p + i) = 0
      · rw [es, if_pos z, Nat.add_zero] at ih'
        exact br_t (by rw [e, ce]; exact z) (nm_r (nI_1 (i + 1)) ih')
      · rw [es, if_neg z] at ih'
        exact br_f (by rw [e, ce]; exact z) (nm_r (nI_1 _) (nm_r (nI_1 (i + 1)) ih'))
    · have e : i = tp p := by omega
      subst e
      exact ⟨hi, br_t (by rw [cp, eT]; exact nI_lt (by omega) (by omega)) H⟩
def cr_mx (f : Nat → Int32) (n m : Nat) : Prop := m ≤ n ∧ (m = 0 ∨ ¬ f m = 0) ∧ ∀ v, m < v → v ≤ n → f v = 0
def cr_mn (f : Nat → Int32) (n m : Nat) : Prop := (m = 0 ∧ ∀ v, 1 ≤ v → v ≤ n → f v = 0) ∨ (1 ≤ m ∧ m ≤ n ∧ ¬ f m = 0 ∧ ∀ v, 1 ≤ v → v < m → f v = 0)
theorem cx_lgl {post : Int32 → Prop} {p : Nat} (G : cr_lf lv ls tp bs aL aT aE aB) (hp : p < lv) (H : ∀ m, cr_mx (fun v => hx (bs p + v - 1)) (tp p) m → post (nI m)) : ∀ i n, i < n → i ≤ tp p → (∀ v, i < v → v ≤ tp p → hx (bs p + v - 1) = 0) →
    wX_largest_17 post (nI p) xL xW xP xT xC xR xN xH aC aL aT aE aB aF iE iF iL hx n (nI i) := by
  obtain ⟨g1, g2, g3⟩ := G
  obtain ⟨eL, eT, eB, eE, t1, t2, t3⟩ := g2 p hp
  have hi : vp_in (nI p) 12 := vp_in_nI (by omega) (by decide)
  intro i
  induction i with
  | zero =>
    intro n hn hit h0
    obtain ⟨n, rfl⟩ : ∃ n', n = n' + 1 := ⟨n - 1, by omega⟩
    exact br_t (by decide) (H 0 ⟨by omega, Or.inl rfl, h0⟩)
  | succ i ih =>
    intro n hn hit h0
    obtain ⟨n, rfl⟩ : ∃ n', n = n' + 1 := ⟨n - 1, by omega⟩
    have e := cr_cell (aB := aB) (a := i + 1) (show p < 12 by omega) eB (by omega)
    have ce : (nI (bs p + (i + 1) - 1)).toNatClampNeg = bs p + (i + 1) - 1 := nI_clamp (by omega)
    refine br_f (nI_nlt (b := 1) (by omega) (by omega)) ⟨hi, (by rw [e]; exact vp_in_nI (by omega) (by decide)), ?_⟩
    by_cases z : hx (bs p + (i + 1) - 1) = 0
    · refine br_t (by rw [e, ce]; exact z) (nm_r (pk_m1 i) (ih n (by omega) (by omega) (fun v v1 v2 => ?_)))
      by_cases ev : v = i + 1
      · subst ev; exact z
      · exact h0 v (by omega) v2
    · exact br_f (by rw [e, ce]; exact z) (H (i + 1) ⟨hit, Or.inr z, h0⟩)
theorem cx_sml {post : Int32 → Prop} {p : Nat} (G : cr_lf lv ls tp bs aL aT aE aB) (hp : p < lv) (H : ∀ m, cr_mn (fun v => hx (bs p + v - 1)) (tp p) m → post (nI m)) : ∀ n i, tp p + 1 - i < n → 1 ≤ i → i ≤ tp p + 1 → (∀ v, 1 ≤ v → v < i → hx (bs p + v - 1) = 0) →
    wX_smallest_12 post (nI p) xL xW xP xT xC xR xN xH aC aL aT aE aB aF iE iF iL hx n (nI i) := by
  obtain ⟨g1, g2, g3⟩ := G
  obtain ⟨eL, eT, eB, eE, t1, t2, t3⟩ := g2 p hp
  have hi : vp_in (nI p) 12 := vp_in_nI (by omega) (by decide)
  have cp : (nI p).toNatClampNeg = p := nI_clamp (by omega)
  intro n
  induction n with
  | zero => intro i h; omega
  | succ n ih =>
    intro i hn i1 hit h0
    rcases Nat.lt_or_ge (tp p) i with h | h
    · exact ⟨hi, br_t (by rw [cp, eT]; exact nI_lt h (by omega)) (H 0 (Or.inl ⟨rfl, fun v v1 v2 => h0 v v1 (by omega)⟩))⟩
    · have e := cr_cell (aB := aB) (show p < 12 by omega) eB i1
      have ce : (nI (bs p + i - 1)).toNatClampNeg = bs p + i - 1 := nI_clamp (by omega)
      refine ⟨hi, br_f (by rw [cp, eT]; exact nI_nlt h (by omega)) ⟨hi, (by rw [e]; exact vp_in_nI (by omega) (by decide)), ?_⟩⟩
      by_cases z : hx (bs p + i - 1) = 0
      · refine br_t (by rw [e, ce]; exact z) (nm_r (nI_1 i) (ih (i + 1) (by omega) (by omega) (by omega) (fun v v1 v2 => ?_)))
        by_cases ev : v = i
        · subst ev; exact z
        · exact h0 v v1 (by omega)
      · exact br_f (by rw [e, ce]; exact z) (H i (Or.inr ⟨i1, h, z, h0⟩))
theorem cr_clamp (x : Int32) {a b : Nat} (hab : a ≤ b) (hb : b < 2 ^ 31) : ∃ j, a ≤ j ∧ j ≤ b ∧ ∀ P : Int32 → Prop, P (nI j) → ((nI a ≤ x → ((x ≤ nI b → P x) ∧ (¬ x ≤ nI b → P (nI b)))) ∧ (¬ nI a ≤ x → P (nI a))) := by
  by_cases h : nI a ≤ x
  · by_cases h2 : x ≤ nI b
    · have h0 : ¬ x < 0 := Int32.not_lt.mpr (Int32.le_trans (nI_pos' (by omega)) h)
      obtain ⟨j, hj, rfl⟩ := nI_of h0
      rw [nI_leI (by omega) hj] at h
      rw [nI_leI hj hb] at h2
      exact ⟨j, h, h2, fun P p => br_t (nI_le h hj) (br_t (nI_le h2 hb) p)⟩
    · exact ⟨b, hab, Nat.le_refl b, fun P p => br_t h (br_f h2 p)⟩
  · exact ⟨a, Nat.le_refl a, hab, fun P p => br_f h p⟩
theorem cx_so {post : St2 → Prop} (h01 : cr_01 hx) (H : ∀ g, cr_01 g → (∀ j, j < 224 → g j = 0) → post (nI li, nI ce, 0, 0, 0, nI ce, 0, -1, aC, aL, aT, aE, aB, aF, iE, iF, iL, g)) : wpX_startOver post (nI li, nI ce, xP, xT, xC, xR, xN, xH, aC, aL, aT, aE, aB, aF, iE, iF, iL, hx) :=
  cx_dr (xN := xN) (xH := xH) h01 H
theorem cx_bf {post : Int32 → Prop} {w : Int32} {l t : Nat} (hl2 : l < 2 ^ 31) (ht2 : t < 2 ^ 31) (t1 : 1 ≤ t) (hl : l ≤ t) (hw : w = -1 ∨ (¬ w = -1 ∧ w = nI t)) (H : post 1) : wpX_boundsFit post () (nI l) w := by
  refine br_t (nI_pos' hl2) ?_
  rcases hw with z | ⟨z, z2⟩
  · exact br_t z H
  · exact br_f z (br_f (by rw [z2]; exact nI_nlt (b := 1) t1 ht2) (br_f (by rw [z2]; exact nI_nlt hl ht2) H))
def cr_w (w : Int32) (l t : Nat) : Prop := (w = -1 ∧ ((l ≤ 1 ∧ t = 1) ∨ (1 < l ∧ t = l))) ∨ (¬ w = -1 ∧ w = nI t)
theorem cr_wt {w : Int32} {l t : Nat} (h : cr_w w l t) : w = -1 ∨ (¬ w = -1 ∧ w = nI t) := h.elim (fun k => Or.inl k.1) Or.inr
theorem cx_to {post : Int32 → Prop} {w : Int32} {l t : Nat} (hl2 : l < 2 ^ 31) (hw : cr_w w l t) (H : post (nI t)) : wpX_topOf post () (nI l) w := by
  rcases hw with ⟨z, z2⟩ | ⟨z, z2⟩
  · refine br_t z (pk_le l 1 (fun q => ?_) (fun q => ?_))
    · rw [show t = 1 by omega] at H; exact H
    · rw [show t = l by omega] at H; exact H
  · rw [← z2] at H
    exact br_f z H
theorem cx_leaf {post : Int32 → St2 → Prop} {m w : Int32} {l t : Nat} (h12 : lv < li) (li12 : li ≤ 12) (hh : h ≤ lv) (hc : rm ≤ ce) (hc2 : ce ≤ 224) (t1 : 1 ≤ t) (ht : t ≤ rm) (hl : l ≤ t) (m1 : ¬ m < 1) (m2 : ¬ 255 < m) (hw : cr_w w l t)
    (H : ∀ e z : Int32, (e = 0 ∨ e = 1) → (¬ e = 0 ↔ w = -1) → (¬ z = 0 ↔ l = 0) → post (nI lv) (nI li, nI ce, 0, nI (h + 1), nI (lv + 1), nI (rm - t), xN, xH, upd aC lv m, upd aL lv (nI l), upd aT lv (nI t), upd aE lv e, upd aB lv (nI (ce - rm)), upd aF lv 0, upd iE h z, upd iF h ((1 : Int32) <<< (nI lv &&& 31)), upd iL h ((1 : Int32) <<< (nI lv &&& 31)), hx)) :
    wpX_leaf post (nI li, nI ce, 0, nI h, nI lv, nI rm, xN, xH, aC, aL, aT, aE, aB, aF, iE, iF, iL, hx) m (nI l) w := by
  have il : vp_in (nI lv) 12 := vp_in_nI (by omega) (by decide)
  have ih : vp_in (nI h) 12 := vp_in_nI (by omega) (by decide)
  have l151 : ∀ e z : Int32, (e = 0 ∨ e = 1) → (¬ e = 0 ↔ w = -1) → (z = 0 ∨ z = 1) → (¬ z = 0 ↔ l = 0) → wX_leaf_151 post (nI t) (nI lv) z (nI h) (nI li) (nI ce) 0 (nI h) (nI lv) (nI rm) xN xH (upd aC lv m) (upd aL lv (nI l)) (upd aT lv (nI t)) (upd aE lv e) (upd aB lv (nI (ce - rm))) (upd aF lv 0) iE iF iL hx := by
    intro e z he hee hz hzz
    exact ⟨ih, nm_r (cr_ub (by omega) hz) ⟨ih, nm_r (cr_ui (by omega)) ⟨ih, nm_r (cr_ui (by omega)) (nm_r (nI_1 h) (nm_r (nI_1 lv) (nm_r (pk_sub ht) (H e z he hee hzz))))⟩⟩⟩
  have l109 : ∀ e : Int32, (e = 0 ∨ e = 1) → (¬ e = 0 ↔ w = -1) → wX_leaf_109 post (nI l) (nI t) (nI lv) e (nI lv) (nI li) (nI ce) 0 (nI h) (nI lv) (nI rm) xN xH (upd aC lv m) (upd aL lv (nI l)) (upd aT lv (nI t)) aE aB aF iE iF iL hx := by
    intro e he hee
    refine ⟨il, nm_r (cr_ub (by omega) he) ⟨il, nm_r (e' := upd aB lv (nI (ce - rm))) (by rw [nI_clamp (by omega), pk_sub hc]) ⟨il, nm_r (cr_ui (by omega)) (pk_eq l 0 (fun z => ?_) (fun z => ?_))⟩⟩⟩
    · exact l151 e 1 he hee (Or.inr rfl) ⟨fun _ => z, fun _ => cr_10⟩
    · exact l151 e 0 he hee (Or.inl rfl) ⟨fun q => absurd rfl q, fun q => absurd q z⟩
  refine br_t rfl (br_f m1 (br_f m2 (cx_bf (by omega) (by omega) t1 hl (cr_wt hw) (br_f cr_10 (cx_to (by omega) hw (br_f (nI_ge h12 (by omega)) (br_t (nI_le ht (by omega)) ⟨il, nm_r (cr_ui (by omega)) ⟨il, nm_r (cr_ui (by omega)) ⟨il, nm_r (cr_ui (by omega)) ?_⟩⟩⟩)))))))
  by_cases z : w = -1
  · exact br_t z (l109 1 (Or.inr rfl) ⟨fun _ => z, fun _ => cr_10⟩)
  · exact br_f z (l109 0 (Or.inl rfl) ⟨fun q => absurd rfl q, fun q => absurd q z⟩)
end CRQ
end
section
section CLF
/-! the law's own functions -/
variable {L b p k : Nat} {xs : Nat → Int32} {post : Int32 → Prop}
def cl_n (L : Nat) (xs : Nat → Int32) (k : Nat) : Nat := (if k < L then xs k else (0 : Int32)).toBitVec.toNat % 2 ^ 31
theorem cl_nl : cl_n L xs k < 2 ^ 31 := Nat.mod_lt _ (by decide)
theorem cl_num (hL : L ≤ 260) (hk : k < 2 ^ 30) (H : post (nI (cl_n L xs k))) : wpL_num post L xs () (nI k) := by
  have e : ∀ x : Int32, x &&& 2147483647 = nI (x.toBitVec.toNat % 2 ^ 31) := fun x => pk_and x 31 (by decide)
  unfold cl_n at H
  refine pk_le L k (fun z => ?_) (fun z => ⟨vp_in_nI z (by omega), ?_⟩)
  · rw [if_neg (by omega)] at H
    show post ((0 : Int32) &&& 2147483647)
    rw [e]; exact H
  · rw [if_pos z] at H
    show post (xs (nI k).toNatClampNeg &&& 2147483647)
    rw [e, nI_clamp (by omega)]; exact H
theorem cl_ix (c : Nat) : (nI b + 4 * nI p) + nI c = nI (b + 4 * p + c) := by
  have e : (4 : Int32) * nI p = nI (4 * p) := pk_mul 4 p
  rw [e, nI_add, nI_add]
def cl_m (L : Nat) (xs : Nat → Int32) (b p : Nat) : Nat := if cl_n L xs (b + 4 * p + 1) % 5 = 0 then 255 else cl_n L xs (b + 4 * p + 1) % 255 + 1
theorem cl_mb : 1 ≤ cl_m L xs b p ∧ cl_m L xs b p ≤ 255 := by
  unfold cl_m
  split <;> omega
theorem cl_mask (hL : L ≤ 260) (hb : b < 1000) (hp : p < 4) (H : post (nI (cl_m L xs b p))) : wpL_mask post L xs () (nI b) (nI p) := by
  have ei : (nI b + (4 * nI p)) + 1 = nI (b + 4 * p + 1) := cl_ix 1
  unfold cl_m at H
  unfold wpL_mask
  rw [ei]
  refine cl_num hL (by omega) ⟨by decide, ?_⟩
  refine pk_eq (cl_n L xs (b + 4 * p + 1) % 5) 0 (fun z => ?_) (fun z => ⟨by decide, ?_⟩) (pk_rem cl_nl (by decide) (by decide))
  · rw [if_pos z] at H; exact H
  · rw [if_neg z] at H
    have e2 : nI (cl_n L xs (b + 4 * p + 1)) - nI (cl_n L xs (b + 4 * p + 1)) / 255 * 255 = nI (cl_n L xs (b + 4 * p + 1) % 255) := pk_rem cl_nl (by decide) (by decide)
    rw [e2, nI_1]; exact H
def cl_l (L : Nat) (xs : Nat → Int32) (b p : Nat) : Nat := if cl_n L xs (b + 4 * p + 2) % 3 = 0 then cl_n L xs (b + 4 * p + 2) / 3 % 4 else cl_n L xs (b + 4 * p + 2) / 3 % 24
theorem cl_lb : cl_l L xs b p ≤ 23 := by
  unfold cl_l
  split <;> omega
theorem cl_least (hL : L ≤ 260) (hb : b < 1000) (hp : p < 4) (H : post (nI (cl_l L xs b p))) : wpL_least post L xs () (nI b) (nI p) := by
  have ei : (nI b + (4 * nI p)) + 2 = nI (b + 4 * p + 2) := cl_ix 2
  unfold cl_l at H
  unfold wpL_least
  rw [ei]
  refine cl_num hL (by omega) ⟨by decide, ?_⟩
  have hn := cl_nl (L := L) (xs := xs) (k := b + 4 * p + 2)
  have e3 : nI (cl_n L xs (b + 4 * p + 2)) / 3 = nI (cl_n L xs (b + 4 * p + 2) / 3) := pk_div hn (by decide) (by decide)
  refine pk_eq (cl_n L xs (b + 4 * p + 2) % 3) 0 (fun z => ⟨by decide, by decide, ?_⟩) (fun z => ⟨by decide, by decide, ?_⟩) (pk_rem hn (by decide) (by decide))
  · rw [if_pos z] at H
    have e4 : nI (cl_n L xs (b + 4 * p + 2) / 3) - nI (cl_n L xs (b + 4 * p + 2) / 3) / 4 * 4 = nI (cl_n L xs (b + 4 * p + 2) / 3 % 4) := pk_rem (by omega) (by decide) (by decide)
    rw [e3, e4]; exact H
  · rw [if_neg z] at H
    have e4 : nI (cl_n L xs (b + 4 * p + 2) / 3) - nI (cl_n L xs (b + 4 * p + 2) / 3) / 24 * 24 = nI (cl_n L xs (b + 4 * p + 2) / 3 % 24) := pk_rem (by omega) (by decide) (by decide)
    rw [e3, e4]; exact H
def cl_h (L : Nat) (xs : Nat → Int32) (b p : Nat) : Nat := cl_n L xs (b + 4 * p + 3)
/-- leaf p is endless -/
def cl_e (L : Nat) (xs : Nat → Int32) (b p : Nat) : Prop := cl_h L xs b p % 4 = 0
def cl_v (L : Nat) (xs : Nat → Int32) (b p : Nat) : Nat := cl_l L xs b p + cl_h L xs b p / 4 % (if cl_h L xs b p % 4 = 1 then 3 else 24)
def cl_t (L : Nat) (xs : Nat → Int32) (b p : Nat) : Nat := if cl_h L xs b p % 4 = 0 then (if cl_l L xs b p ≤ 1 then 1 else cl_l L xs b p) else (if 1 ≤ cl_v L xs b p then cl_v L xs b p else 1)
def cl_M (L : Nat) (xs : Nat → Int32) (b p : Nat) : Int32 := if cl_h L xs b p % 4 = 0 then -1 else nI (cl_t L xs b p)
theorem cl_vb : cl_v L xs b p ≤ 46 ∧ cl_l L xs b p ≤ cl_v L xs b p := by
  have := cl_lb (L := L) (xs := xs) (b := b) (p := p)
  unfold cl_v
  split <;> omega
theorem cl_tb : 1 ≤ cl_t L xs b p ∧ cl_t L xs b p ≤ 46 ∧ cl_l L xs b p ≤ cl_t L xs b p := by
  have h1 := cl_lb (L := L) (xs := xs) (b := b) (p := p)
  have h2 := cl_vb (L := L) (xs := xs) (b := b) (p := p)
  unfold cl_t
  split
  · split <;> omega
  · split <;> omega
theorem cl_ne1 {n : Nat} (h : n < 2 ^ 31) : ¬ nI n = -1 := by
  intro e
  have z := nI_pos (n := n) h
  rw [e] at z
  exact z (by decide)
theorem cl_Me : cl_M L xs b p = -1 ↔ cl_e L xs b p := by
  have h2 := cl_tb (L := L) (xs := xs) (b := b) (p := p)
  unfold cl_M cl_e
  constructor
  · intro z
    by_cases h : cl_h L xs b p % 4 = 0
    · exact h
    · rw [if_neg h] at z
      exact absurd z (cl_ne1 (by omega))
  · intro z
    rw [if_pos z]
theorem cl_Mw : cr_w (cl_M L xs b p) (cl_l L xs b p) (cl_t L xs b p) := by
  have h2 := cl_tb (L := L) (xs := xs) (b := b) (p := p)
  unfold cr_w
  by_cases h : cl_h L xs b p % 4 = 0
  · refine Or.inl ⟨cl_Me.mpr h, ?_⟩
    unfold cl_t
    rw [if_pos h]
    by_cases h3 : cl_l L xs b p ≤ 1
    · rw [if_pos h3]; exact Or.inl ⟨h3, rfl⟩
    · rw [if_neg h3]; exact Or.inr ⟨by omega, rfl⟩
  · refine Or.inr ⟨fun z => h (cl_Me.mp z), ?_⟩
    unfold cl_M
    rw [if_neg h]
theorem cl_most (hL : L ≤ 260) (hb : b < 1000) (hp : p < 4) (H : post (cl_M L xs b p)) : wpL_most post L xs () (nI b) (nI p) := by
  have ei : (nI b + (4 * nI p)) + 3 = nI (b + 4 * p + 3) := cl_ix 3
  have hn := cl_nl (L := L) (xs := xs) (k := b + 4 * p + 3)
  have hv := cl_vb (L := L) (xs := xs) (b := b) (p := p)
  have hlb := cl_lb (L := L) (xs := xs) (b := b) (p := p)
  unfold cl_M at H
  unfold wpL_most
  rw [ei]
  have eh : cl_n L xs (b + 4 * p + 3) = cl_h L xs b p := rfl
  refine cl_num hL (by omega) ⟨by decide, ?_⟩
  rw [eh] at hn ⊢
  have er : nI (cl_h L xs b p) - nI (cl_h L xs b p) / 4 * 4 = nI (cl_h L xs b p % 4) := pk_rem hn (by decide) (by decide)
  have ed : nI (cl_h L xs b p) / 4 = nI (cl_h L xs b p / 4) := pk_div hn (by decide) (by decide)
  refine pk_eq (cl_h L xs b p % 4) 0 (fun z => ?_) (fun z => ?_) er
  · rw [if_pos z] at H; exact H
  · rw [if_neg z] at H
    have m42 : ∀ c : Nat, 0 < c → c < 2 ^ 31 → cl_v L xs b p = cl_l L xs b p + cl_h L xs b p / 4 % c → wL_most_42 post L xs (nI c) (nI (cl_h L xs b p) / 4) (nI (cl_l L xs b p)) := by
      intro c c0 c1 ev
      have e5 : nI (cl_h L xs b p / 4) - nI (cl_h L xs b p / 4) / nI c * nI c = nI (cl_h L xs b p / 4 % c) := pk_rem (by omega) c0 c1
      refine ⟨nI_ne0 c0 c1, nm_r (e' := nI (cl_v L xs b p)) (by rw [ed, e5, nI_add, ev]) (pk_le 1 (cl_v L xs b p) (fun w => ?_) (fun w => ?_))⟩
      · unfold cl_t at H; rw [if_neg z, if_pos w] at H; exact H
      · unfold cl_t at H; rw [if_neg z, if_neg (by omega)] at H; exact H
    refine cl_least hL hb hp ⟨by decide, by decide, pk_eq (cl_h L xs b p % 4) 1 (fun w => m42 3 (by decide) (by decide) ?_) (fun w => m42 24 (by decide) (by decide) ?_) er⟩
    · unfold cl_v; rw [if_pos w]
    · unfold cl_v; rw [if_neg w]
theorem cl_top (hL : L ≤ 260) (hb : b < 1000) (hp : p < 4) (H : post (nI (cl_t L xs b p))) : wpL_top post L xs () (nI b) (nI p) := by
  have hlb := cl_lb (L := L) (xs := xs) (b := b) (p := p)
  unfold wpL_top
  refine cl_most hL hb hp (cl_least hL hb hp ?_)
  rcases cl_Mw (L := L) (xs := xs) (b := b) (p := p) with ⟨z, z2⟩ | ⟨z, z2⟩
  · refine br_t z (pk_le (cl_l L xs b p) 1 (fun q => ?_) (fun q => ?_))
    · rw [show cl_t L xs b p = 1 by omega] at H; exact H
    · rw [show cl_t L xs b p = cl_l L xs b p by omega] at H; exact H
  · rw [← z2] at H
    exact br_f z H
def cl_u (x : Nat) : Nat := if 3 ≤ x % 8 ∧ x % 8 ≤ 5 then x % 8 else 0
theorem cl_ub (x : Nat) : cl_u x = 0 ∨ (3 ≤ cl_u x ∧ cl_u x ≤ 5) := by
  unfold cl_u
  split <;> omega
theorem cl_un {x : Nat} (hx : x < 2 ^ 31) (H : post (nI (cl_u x))) : wpL_unary post () (nI x) := by
  have er : nI x - nI x / 8 * 8 = nI (x % 8) := pk_rem hx (by decide) (by decide)
  refine ⟨by decide, pk_lt (x % 8) 3 (fun z => ?_) (fun z => ⟨by decide, pk_lt 5 (x % 8) (fun w => ?_) (fun w => ⟨by decide, ?_⟩) rfl er⟩) er⟩
  · rw [show cl_u x = 0 by unfold cl_u; rw [if_neg (by omega)]] at H; exact H
  · rw [show cl_u x = 0 by unfold cl_u; rw [if_neg (by omega)]] at H; exact H
  · rw [show cl_u x = x % 8 by unfold cl_u; rw [if_pos (by omega)]] at H
    rw [er]; exact H
theorem cl_pick {post : Int64 → Prop} {c : Nat → Nat} (hp : p < 4) (H : post (lN (c p))) : wpL_pick post () (nI p) (lN (c 0)) (lN (c 1)) (lN (c 2)) (lN (c 3)) := by
  refine pk_eq p 0 (fun z => ?_) (fun z0 => pk_eq p 1 (fun z => ?_) (fun z1 => pk_eq p 2 (fun z => ?_) (fun z2 => ?_)))
  · subst z; exact H
  · subst z; exact H
  · subst z; exact H
  · rw [show p = 3 by omega] at H; exact H
end CLF
end
section
section CLB
/-! the law's functions on sets of bits -/
variable {L b p k : Nat} {xs : Nat → Int32} {post : Int32 → Prop}
theorem cl_bn (w i : Nat) (hi : i < 32) : bt (nI w) i = w.testBit i := by
  show (BitVec.ofNat 32 w).getLsbD i = w.testBit i
  rw [BitVec.getLsbD_ofNat]
  simp [hi]
theorem cl_nor (a b : Nat) : nI a ||| nI b = nI (a ||| b) := by
  apply b_ext
  intro i hi
  rw [b_or, cl_bn a i hi, cl_bn b i hi, cl_bn _ i hi, Nat.testBit_or]
theorem cl_b15 : ∀ i, i < 32 → bt 15 i = decide (i < 4) := by decide +kernel
/-- bit p of x, as the law asks it -/
theorem cl_bit {s : Int32} {p : Nat} (hp : p < 32) : ((s >>> (nI p &&& 31)) &&& 1) = 0 ↔ bt s p = false := by
  have h1 : ∀ x : Int32, x &&& 1 = 0 ↔ ¬ x &&& 1 = 1 := by
    intro x
    constructor
    · intro z w; rw [z] at w; exact absurd w (by decide)
    · intro z
      apply b_ext
      intro i hi
      rw [b_and, b_0, cr_b1 i hi]
      by_cases e : i = 0
      · subst e
        cases hb : bt x 0
        · rfl
        · refine absurd ?_ z
          apply b_ext
          intro j hj
          rw [b_and, cr_b1 j hj]
          by_cases ej : j = 0
          · subst ej; rw [hb]; rfl
          · simp [ej]
      · simp [e]
  rw [h1, cr_bit1 hp]
  cases bt s p <;> simp
theorem cl_cb {s : Int32} {p : Nat} {A B : Prop} (hp : p < 32) (h0 : bt s p = false → A) (h1 : bt s p = true → B) : (((s >>> (nI p &&& 31)) &&& 1) = 0 → A) ∧ (¬ ((s >>> (nI p &&& 31)) &&& 1) = 0 → B) := by
  rw [cl_bit hp]
  exact ⟨h0, fun z => h1 (by cases h : bt s p; exact absurd h z; rfl)⟩
/-- the first leaves of an item -/
theorem cl_hi {w i : Nat} (hi : i < 32) : bt ((nI w >>> ((4 : Int32) &&& 31)) &&& 15) i = true ↔ i < 4 ∧ w.testBit (4 + i) = true := by
  have e : bt (nI w >>> ((4 : Int32) &&& 31)) i = if 4 + i < 32 then bt (nI w) (4 + i) else bt (nI w) 31 := b_sshr 4 (by decide) (nI w) hi
  rw [b_and, cl_b15 i hi, e, Bool.and_eq_true, decide_eq_true_iff]
  by_cases h : i < 4
  · rw [if_pos (by omega), cl_bn w _ (by omega)]
    exact ⟨fun z => ⟨z.2, z.1⟩, fun z => ⟨z.2, z.1⟩⟩
  · exact ⟨fun z => absurd z.2 h, fun z => absurd z.1 h⟩
theorem cl_lo {w i : Nat} (hi : i < 32) : bt (nI w &&& 15) i = true ↔ i < 4 ∧ w.testBit i = true := by
  rw [b_and, cl_b15 i hi, cl_bn w i hi, Bool.and_eq_true, decide_eq_true_iff]
  exact ⟨fun z => ⟨z.2, z.1⟩, fun z => ⟨z.2, z.1⟩⟩
theorem cl_gt {w : Nat} (hw : w < 512) : (255 : Int32) < nI w ↔ w.testBit 8 = true := by
  have e : (255 : Int32) < nI w ↔ 255 < w := nI_ltI (a := 255) (by decide) (by omega)
  rw [e, Nat.testBit_eq_decide_div_mod_eq, decide_eq_true_iff]
  omega
theorem cl_ge {w : Nat} (hw : w < 512) : nI w ≤ (255 : Int32) ↔ ¬ w.testBit 8 = true := by
  rw [← cl_gt hw, Int32.not_lt]
/-- some count of at least l -/
theorem cl_sh {c l : Nat} (hc : c < 2 ^ 63) (hl : l < 64) : ((lN c).toUInt64 >>> ((nI l).toInt64.toUInt64 &&& Int64.toUInt64 63)).toInt64 = 0 ↔ ¬ ∃ v, l ≤ v ∧ c.testBit v = true := by
  rw [wb_shr (by omega) hl]
  have e : lN (c / 2 ^ l) = 0 ↔ c / 2 ^ l = 0 := pk_lEQ (b := 0) (Nat.lt_of_le_of_lt (Nat.div_le_self _ _) hc) (by decide)
  rw [e]
  constructor
  · rintro z ⟨v, v1, v2⟩
    have : (c / 2 ^ l).testBit (v - l) = true := by
      rw [Nat.testBit_div_two_pow, show v - l + l = v by omega]; exact v2
    rw [z, Nat.zero_testBit] at this
    exact absurd this (by decide)
  · intro z
    by_cases h : c / 2 ^ l = 0
    · exact h
    · obtain ⟨i, hi⟩ := Nat.exists_testBit_of_ne_zero h
      rw [Nat.testBit_div_two_pow] at hi
      exact absurd ⟨i + l, by omega, hi⟩ z
theorem cl_exl {c : Nat → Nat} (hL : L ≤ 260) (hb : b < 1000) (hc : ∀ p, p < 4 → c p < 2 ^ 63) (H : ∀ r, (∀ i, i < 32 → (bt r i = true ↔ i < 4 ∧ ∃ v, cl_l L xs b i ≤ v ∧ (c i).testBit v = true)) → post r) :
    ∀ n p x, 4 - p < n → p ≤ 4 → (∀ i, i < 32 → (bt x i = true ↔ i < p ∧ ∃ v, cl_l L xs b i ≤ v ∧ (c i).testBit v = true)) →
    wL_exits_6 post L xs (nI b) (lN (c 0)) (lN (c 1)) (lN (c 2)) (lN (c 3)) n x (nI p) := by
  intro n
  induction n with
  | zero => intro p x h; omega
  | succ n ih =>
    intro p x hn hp hx
    rcases Nat.lt_or_ge p 4 with h | h
    · have hlb := cl_lb (L := L) (xs := xs) (b := b) (p := p)
      have hs := cl_sh (hc p h) (show cl_l L xs b p < 64 by omega)
      have n1 : 4 - (p + 1) < n := by clear hx hs; omega
      refine br_f (nI_ge (b := 4) h (by decide)) (cl_pick h (cl_least hL hb h ?_))
      by_cases z : ∃ v, cl_l L xs b p ≤ v ∧ (c p).testBit v = true
      · refine br_f (fun w => hs.mp w z) (nm_e (nm_r (nI_1 p) (ih (p + 1) _ n1 h (fun i hi => ?_))))
        rw [b_or, Bool.or_eq_true, cr_sl (by clear hx hs; omega) hi, decide_eq_true_iff, hx i hi]
        constructor
        · rintro (⟨w1, w2⟩ | w)
          · exact ⟨by clear hx hs w2; omega, w2⟩
          · subst w; exact ⟨by clear hx hs; omega, z⟩
        · rintro ⟨w1, w2⟩
          by_cases e : i = p
          · exact Or.inr e
          · exact Or.inl ⟨by clear hx hs w2; omega, w2⟩
      · refine br_t (hs.mpr z) (nm_r (nI_1 p) (ih (p + 1) _ n1 h (fun i hi => ?_)))
        rw [hx i hi]
        constructor
        · rintro ⟨w1, w2⟩
          exact ⟨by clear hx hs w2; omega, w2⟩
        · rintro ⟨w1, w2⟩
          by_cases e : i = p
          · subst e; exact absurd w2 z
          · exact ⟨by clear hx hs w2; omega, w2⟩
    · have e : p = 4 := by clear hx; omega
      subst e
      exact br_t (by decide) (H x hx)
theorem cl_ex {c : Nat → Nat} (hL : L ≤ 260) (hb : b < 1000) (hc : ∀ p, p < 4 → c p < 2 ^ 63) (H : ∀ r, (∀ i, i < 32 → (bt r i = true ↔ i < 4 ∧ ∃ v, cl_l L xs b i ≤ v ∧ (c i).testBit v = true)) → post r) :
    wpL_exits post L xs () (nI b) (lN (c 0)) (lN (c 1)) (lN (c 2)) (lN (c 3)) :=
  ⟨5, cl_exl hL hb hc H 5 0 0 (by omega) (by omega) (fun i hi => by rw [b_0]; exact ⟨fun z => absurd z (by decide), fun z => absurd z.1 (by omega)⟩)⟩
theorem cl_a15 {ex : Int32} {w : Nat} : ((ex &&& nI w) &&& 15) = 0 ↔ ¬ ∃ q, q < 4 ∧ bt ex q = true ∧ w.testBit q = true := by
  constructor
  · rintro z ⟨q, q1, q2, q3⟩
    have h : bt ((ex &&& nI w) &&& 15) q = false := by rw [z, b_0]
    rw [b_and, b_and, cl_bn w q (by omega), cl_b15 q (by omega), q2, q3, decide_eq_true q1] at h
    exact absurd h (by decide)
  · intro z
    apply b_ext
    intro i hi
    rw [b_and, b_and, cl_bn w i hi, cl_b15 i hi, b_0]
    by_cases h : i < 4
    · cases h1 : bt ex i
      · rfl
      · cases h2 : w.testBit i
        · rfl
        · exact absurd ⟨i, h, h1, h2⟩ z
    · simp [h]
theorem cl_acc {ex o : Int32} {w : Nat} (hw : w < 512) (h1 : (¬ o = 0 ∧ w.testBit 8 = true) ∨ (∃ q, q < 4 ∧ bt ex q = true ∧ w.testBit q = true) → post 1)
    (h0 : ¬ ((¬ o = 0 ∧ w.testBit 8 = true) ∨ ∃ q, q < 4 ∧ bt ex q = true ∧ w.testBit q = true) → post 0) : wpL_accepted post () (nI w) o ex := by
  have a11 : ¬ (¬ o = 0 ∧ w.testBit 8 = true) → wL_accepted_11 post (nI w) ex := by
    intro z
    by_cases y : ∃ q, q < 4 ∧ bt ex q = true ∧ w.testBit q = true
    · exact br_f (fun k => cl_a15.mp k y) (h1 (Or.inr y))
    · exact br_t (cl_a15.mpr y) (h0 (fun k => k.elim z y))
  by_cases e : o = 0
  · exact br_t e (a11 (fun z => z.1 e))
  · refine br_f e ?_
    by_cases t : w.testBit 8 = true
    · exact br_t ((cl_gt hw).mpr t) (h1 (Or.inl ⟨e, t⟩))
    · exact br_f (fun k => t ((cl_gt hw).mp k)) (a11 (fun z => t z.2))
theorem cl_4 (q : Nat) : (4 : Int32) * nI q = nI (4 * q) := pk_mul 4 q
theorem cl_fol {ex fol : Int32} (H : ∀ r, (∀ i, i < 32 → (bt r i = true ↔ i < 4 ∧ ∃ q, q < 4 ∧ bt ex q = true ∧ bt fol (4 * q + i) = true)) → post r) : wpL_follow post () ex fol := by
  have loop : ∀ n q x, 4 - q < n → q ≤ 4 → (∀ i, i < 32 → (bt x i = true ↔ i < 4 ∧ ∃ r, r < q ∧ bt ex r = true ∧ bt fol (4 * r + i) = true)) → wL_follow_4 post ex fol n x (nI q) := by
    intro n
    induction n with
    | zero => intro q x h; omega
    | succ n ih =>
      intro q x hn hq hx
      rcases Nat.lt_or_ge q 4 with h | h
      · have n1 : 4 - (q + 1) < n := by clear hx; omega
        refine br_f (nI_ge (b := 4) h (by decide)) (cl_cb (by clear hx; omega) (fun z => nm_r (nI_1 q) (ih (q + 1) _ n1 h (fun i hi => ?_))) (fun z => nm_e (nm_r (nI_1 q) (ih (q + 1) _ n1 h (fun i hi => ?_)))))
        · rw [hx i hi]
          constructor
          · rintro ⟨a, r, r1, r2⟩
            exact ⟨a, r, by clear hx r2; omega, r2⟩
          · rintro ⟨a, r, r1, r2, r3⟩
            refine ⟨a, r, ?_, r2, r3⟩
            by_cases e : r = q
            · subst e; rw [z] at r2; exact absurd r2 (by decide)
            · clear hx r2 r3; omega
        · rw [cl_4, b_or, Bool.or_eq_true, b_and, cl_b15 i hi, Bool.and_eq_true, decide_eq_true_iff, b_sshr (4 * q) (by clear hx; omega) fol hi, hx i hi]
          constructor
          · rintro (⟨a, r, r1, r2⟩ | ⟨a, a4⟩)
            · exact ⟨a, r, by clear hx r2; omega, r2⟩
            · rw [if_pos (by clear hx; omega)] at a
              exact ⟨a4, q, by clear hx; omega, z, a⟩
          · rintro ⟨a, r, r1, r2, r3⟩
            by_cases e : r = q
            · subst e
              refine Or.inr ⟨?_, a⟩
              rw [if_pos (by clear hx r2 r3; omega)]; exact r3
            · exact Or.inl ⟨a, r, by clear hx r2 r3; omega, r2, r3⟩
      · have e : q = 4 := by clear hx; omega
        subst e
        exact br_t (by decide) (H x hx)
  exact ⟨5, loop 5 0 0 (by omega) (by omega) (fun i hi => by rw [b_0]; exact ⟨fun z => absurd z (by decide), fun ⟨_, r, r1, _⟩ => absurd r1 (by omega)⟩)⟩
theorem cl_cro {la fi : Int32} (hf : ∀ i, 4 ≤ i → i < 32 → bt fi i = false) (H : ∀ r, (∀ q p, q < 4 → p < 4 → (bt r (4 * q + p) = true ↔ bt la q = true ∧ bt fi p = true)) → post r) : wpL_cross post () la fi := by
  have loop : ∀ n q x, 4 - q < n → q ≤ 4 → (∀ r p, r < 4 → p < 4 → (bt x (4 * r + p) = true ↔ r < q ∧ bt la r = true ∧ bt fi p = true)) → wL_cross_4 post la fi n x (nI q) := by
    intro n
    induction n with
    | zero => intro q x h; omega
    | succ n ih =>
      intro q x hn hq hx
      rcases Nat.lt_or_ge q 4 with h | h
      · have n1 : 4 - (q + 1) < n := by clear hx; omega
        refine br_f (nI_ge (b := 4) h (by decide)) (cl_cb (by clear hx; omega) (fun z => nm_r (nI_1 q) (ih (q + 1) _ n1 h (fun r p hr hp => ?_))) (fun z => nm_e (nm_r (nI_1 q) (ih (q + 1) _ n1 h (fun r p hr hp => ?_)))))
        · rw [hx r p hr hp]
          constructor
          · rintro ⟨a, b⟩
            exact ⟨by clear hx b; omega, b⟩
          · rintro ⟨a, b1, b2⟩
            refine ⟨?_, b1, b2⟩
            by_cases e : r = q
            · subst e; rw [z] at b1; exact absurd b1 (by decide)
            · clear hx b1 b2; omega
        · rw [cl_4, b_or, Bool.or_eq_true, b_shl (4 * q) (by clear hx; omega) fi (by clear hx; omega), Bool.and_eq_true, decide_eq_true_iff, hx r p hr hp]
          constructor
          · rintro (⟨a, b⟩ | ⟨a, b⟩)
            · exact ⟨by clear hx b; omega, b⟩
            · by_cases e : r = q
              · subst e
                rw [show 4 * r + p - 4 * r = p by clear hx b; omega] at b
                exact ⟨by clear hx b; omega, z, b⟩
              · rw [hf (4 * r + p - 4 * q) (by clear hx b; omega) (by clear hx b; omega)] at b
                exact absurd b (by decide)
          · rintro ⟨a, b1, b2⟩
            by_cases e : r = q
            · subst e
              refine Or.inr ⟨by clear hx b1 b2; omega, ?_⟩
              rw [show 4 * r + p - 4 * r = p by clear hx b1 b2; omega]; exact b2
            · exact Or.inl ⟨by clear hx b1 b2; omega, b1, b2⟩
      · have e : q = 4 := by clear hx; omega
        subst e
        exact br_t (by decide) (H x (fun r p hr hp => (hx r p hr hp).trans ⟨fun k => k.2, fun k => ⟨hr, k⟩⟩))
  exact ⟨5, loop 5 0 0 (by omega) (by omega) (fun r p hr hp => by rw [b_0]; exact ⟨fun z => absurd z (by decide), fun k => absurd k.1 (by omega)⟩)⟩
end CLB
end
section
section CLI
/-! the law's items: nine bits; the leaf sets as longs -/
variable {L b p k lv : Nat} {xs : Nat → Int32} {post : Int32 → Prop} {iE iF iL : Nat → Int32}
/-- item w of the law: empty, first, last -/
def cb_J (w : Nat) (e : Prop) (f l : Nat → Prop) : Prop := w < 512 ∧ (w.testBit 8 = true ↔ e) ∧ (∀ p, p < 4 → (w.testBit (4 + p) = true ↔ f p)) ∧ (∀ p, p < 4 → (w.testBit p = true ↔ l p))
theorem cb_240 : ∀ p, p < 4 → (240).testBit p = false ∧ (240).testBit (4 + p) = true ∧ (15).testBit p = true ∧ (15).testBit (4 + p) = false ∧ (256).testBit p = false ∧ (256).testBit (4 + p) = false := by decide
theorem cb_8 : (240).testBit 8 = false ∧ (15).testBit 8 = false ∧ (256).testBit 8 = true := by decide
theorem cl_alt {a c : Nat} (ha : a < 512) (hc : c < 512) : cb_J (a ||| c) (c.testBit 8 = true ∨ a.testBit 8 = true) (fun p => c.testBit (4 + p) = true ∨ a.testBit (4 + p) = true) (fun p => c.testBit p = true ∨ a.testBit p = true) := by
  refine ⟨Nat.or_lt_two_pow (n := 9) ha hc, ?_, fun p hp => ?_, fun p hp => ?_⟩
  · rw [Nat.testBit_or, Bool.or_eq_true]; exact Or.comm
  · rw [Nat.testBit_or, Bool.or_eq_true]; exact Or.comm
  · rw [Nat.testBit_or, Bool.or_eq_true]; exact Or.comm
theorem cl_w8 {a : Nat} (ha : a < 512) : cb_J (a ||| 256) True (fun p => a.testBit (4 + p) = true) (fun p => a.testBit p = true) := by
  refine ⟨Nat.or_lt_two_pow (n := 9) ha (by decide), ?_, fun p hp => ?_, fun p hp => ?_⟩
  · rw [Nat.testBit_or, cb_8.2.2, Bool.or_true]; exact ⟨fun _ => trivial, fun _ => rfl⟩
  · rw [Nat.testBit_or, (cb_240 p hp).2.2.2.2.2, Bool.or_false]
  · rw [Nat.testBit_or, (cb_240 p hp).2.2.2.2.1, Bool.or_false]
theorem cl_leafw {i : Nat} (hi : i < 4) : ∀ z, (z = 0 ∨ z = 256) → cb_J (17 * 2 ^ i ||| z) (z = 256) (fun p => p = i) (fun p => p = i) := by
  have h : ∀ i, i < 4 → ∀ z, (z = 0 ∨ z = 256) → (17 * 2 ^ i ||| z) < 512 ∧ ((17 * 2 ^ i ||| z).testBit 8 = true ↔ z = 256) ∧ ∀ p, p < 4 → ((17 * 2 ^ i ||| z).testBit (4 + p) = true ↔ p = i) ∧ ((17 * 2 ^ i ||| z).testBit p = true ↔ p = i) := by
    rintro i hi z (rfl | rfl)
    · revert i; decide
    · revert i; decide
  intro z hz
  obtain ⟨h1, h2, h3⟩ := h i hi z hz
  exact ⟨h1, h2, fun p hp => (h3 p hp).1, fun p hp => (h3 p hp).2⟩
theorem cl_17 : ∀ i, i < 4 → ((1 : Int32) <<< (nI i &&& 31)) * 17 = nI (17 * 2 ^ i) := by decide +kernel
theorem cl_cat {a c : Nat} (ha : a < 512) (hc : c < 512)
    (H : ∀ w, cb_J w (a.testBit 8 = true ∧ c.testBit 8 = true) (fun p => a.testBit (4 + p) = true ∨ (a.testBit 8 = true ∧ c.testBit (4 + p) = true)) (fun p => c.testBit p = true ∨ (c.testBit 8 = true ∧ a.testBit p = true)) → post (nI w)) : wpL_cat post () (nI a) (nI c) := by
  have a240 : nI a &&& 240 = nI (a &&& 240) := nx_and a 240
  have c240 : nI c &&& 240 = nI (c &&& 240) := nx_and c 240
  have a15 : nI a &&& 15 = nI (a &&& 15) := nx_and a 15
  have c15 : nI c &&& 15 = nI (c &&& 15) := nx_and c 15
  have ac : (nI a &&& nI c) &&& 256 = nI ((a &&& c) &&& 256) := by rw [nx_and]; exact nx_and (a &&& c) 256
  have fin : ∀ f l : Nat, (f < 512) → (l < 512) → (f.testBit 8 = false) → (l.testBit 8 = false) → (∀ p, p < 4 → (f.testBit (4 + p) = true ↔ a.testBit 8 = true ∧ c.testBit (4 + p) = true) ∧ f.testBit p = false) →
      (∀ p, p < 4 → (l.testBit p = true ↔ c.testBit 8 = true ∧ a.testBit p = true) ∧ l.testBit (4 + p) = false) →
      post (nI ((((a &&& 240) ||| f) ||| (c &&& 15)) ||| l ||| ((a &&& c) &&& 256))) := by
    intro f l hf hl f8 l8 hff hll
    refine H _ ⟨?_, ?_, fun p hp => ?_, fun p hp => ?_⟩
    · exact Nat.or_lt_two_pow (n := 9) (Nat.or_lt_two_pow (n := 9) (Nat.or_lt_two_pow (n := 9) (Nat.or_lt_two_pow (n := 9) (Nat.and_lt_two_pow a (by decide)) hf) (Nat.and_lt_two_pow c (by decide))) hl) (Nat.and_lt_two_pow _ (by decide))
    · simp only [Nat.testBit_or, Nat.testBit_and, cb_8.1, cb_8.2.1, cb_8.2.2, f8, l8, Bool.and_false, Bool.or_false, Bool.and_true, Bool.false_or, Bool.and_eq_true]
    · obtain ⟨k1, k2, k3, k4, k5, k6⟩ := cb_240 p hp
      simp only [Nat.testBit_or, Nat.testBit_and, k2, k4, k6, (hll p hp).2, Bool.and_false, Bool.or_false, Bool.and_true, Bool.or_eq_true, (hff p hp).1]
    · obtain ⟨k1, k2, k3, k4, k5, k6⟩ := cb_240 p hp
      simp only [Nat.testBit_or, Nat.testBit_and, k1, k3, k5, (hff p hp).2, Bool.and_false, Bool.or_false, Bool.false_or, Bool.and_true, Bool.or_eq_true, (hll p hp).1]
  have z512 : (0 : Nat) < 512 := by decide
  have c21 : ∀ (f : Nat) (F : Int32), F = nI f → (f < 512) → (f.testBit 8 = false) → (∀ p, p < 4 → (f.testBit (4 + p) = true ↔ a.testBit 8 = true ∧ c.testBit (4 + p) = true) ∧ f.testBit p = false) → wL_cat_21 post (nI a) (nI c) F (nI a &&& 240) := by
    intro f F eF hf f8 hff
    by_cases h : c.testBit 8 = true
    · refine br_f (fun z => (cl_ge hc).mp z h) ?_
      unfold wL_cat_42
      rw [eF, a240, c15, a15, ac, cl_nor, cl_nor, cl_nor, cl_nor]
      refine fin f (a &&& 15) hf (Nat.and_lt_two_pow (n := 9) a (by decide)) f8 ?_ hff (fun p hp => ?_)
      · rw [Nat.testBit_and, cb_8.2.1, Bool.and_false]
      · obtain ⟨k1, k2, k3, k4, k5, k6⟩ := cb_240 p hp
        rw [Nat.testBit_and, Nat.testBit_and, k3, k4, Bool.and_true, Bool.and_false]
        exact ⟨⟨fun z => ⟨h, z⟩, fun z => z.2⟩, rfl⟩
    · refine br_t ((cl_ge hc).mpr h) ?_
      unfold wL_cat_42
      have e0 : (0 : Int32) = nI 0 := rfl
      rw [eF, a240, c15, ac, e0, cl_nor, cl_nor, cl_nor, cl_nor]
      refine fin f 0 hf z512 f8 (Nat.zero_testBit 8) hff (fun p hp => ⟨?_, Nat.zero_testBit _⟩)
      rw [Nat.zero_testBit]
      exact ⟨fun z => absurd z (by decide), fun z => absurd z.1 h⟩
  by_cases h : a.testBit 8 = true
  · refine br_f (fun z => (cl_ge ha).mp z h) (c21 (c &&& 240) _ c240 (Nat.and_lt_two_pow (n := 9) c (by decide)) ?_ (fun p hp => ?_))
    · rw [Nat.testBit_and, cb_8.1, Bool.and_false]
    · obtain ⟨k1, k2, k3, k4, k5, k6⟩ := cb_240 p hp
      rw [Nat.testBit_and, Nat.testBit_and, k1, k2, Bool.and_true, Bool.and_false]
      exact ⟨⟨fun z => ⟨h, z⟩, fun z => z.2⟩, rfl⟩
  · refine br_t ((cl_ge ha).mpr h) (c21 0 0 rfl z512 (Nat.zero_testBit 8) (fun p hp => ⟨?_, Nat.zero_testBit _⟩))
    rw [Nat.zero_testBit]
    exact ⟨fun z => absurd z (by decide), fun z => absurd z.1 h⟩
/-! one leaf's set after one letter more -/
theorem cl_1 (c : Nat) : lN c <<< ((1 : Int32).toInt64 &&& 63) = lN (c * 2) := wb_shl c (k := 1) (by decide)
theorem cl_g1 {c t : Nat} (ht : t ≤ 46) : (lN c <<< ((1 : Int32).toInt64 &&& 63)) &&& (((2 : Int64) <<< ((nI t).toInt64 &&& 63)) - 1) = lN (c * 2 % 2 ^ (t + 1)) := by
  have e2 : (2 : Int64) <<< ((nI t).toInt64 &&& 63) = lN (2 * 2 ^ t) := wb_shl 2 (by omega)
  have ep : 2 * 2 ^ t = 2 ^ (t + 1) := by rw [Nat.pow_succ, Nat.mul_comm]
  have pos : 1 ≤ 2 ^ (t + 1) := Nat.one_le_two_pow
  have e3 : lN (2 ^ (t + 1)) - 1 = lN (2 ^ (t + 1) - 1) := lN_sub pos
  rw [cl_1, e2, ep, e3, wb_mod (c * 2), wb_mask (Nat.mod_lt _ (by decide)) (by omega)]
  congr 1
  exact Nat.mod_mod_of_dvd _ (Nat.pow_dvd_pow 2 (by omega))
theorem cl_g2 {c t : Nat} (hc : c < 2 ^ 63) (ht : t ≤ 46) : lN c &&& ((1 : Int64) <<< ((nI t).toInt64 &&& 63)) = lN (c &&& 2 ^ t) := by
  have e1 : (1 : Int64) <<< ((nI t).toInt64 &&& 63) = lN (1 * 2 ^ t) := wb_shl 1 (by omega)
  have h46 : 2 ^ t ≤ 2 ^ 46 := Nat.pow_le_pow_right (by decide) ht
  rw [e1, Nat.one_mul, wb_and (by omega) (by omega)]
def cl_G (L : Nat) (xs : Nat → Int32) (b p : Nat) (c : Nat) (e : Int32) (x v : Nat) : Prop :=
  bt (nI (cl_m L xs b p)) x = true ∧ ((v = 1 ∧ bt e p = true) ∨ (1 ≤ v ∧ v ≤ cl_t L xs b p ∧ c.testBit (v - 1) = true) ∨ (cl_e L xs b p ∧ v = cl_t L xs b p ∧ c.testBit v = true))
theorem cl_grow {post : Int64 → Prop} {c x : Nat} {e : Int32} (hL : L ≤ 260) (hb : b < 1000) (hp : p < 4) (hx : x < 8) (hc : c < 2 ^ 63)
    (H : ∀ c', c' < 2 ^ 63 → (∀ v, c'.testBit v = true ↔ cl_G L xs b p c e x v) → post (lN c')) : wpL_grow post L xs () (nI b) (nI p) (lN c) e (nI x) := by
  have tb := cl_tb (L := L) (xs := xs) (b := b) (p := p)
  have h47 : 2 ^ (cl_t L xs b p + 1) ≤ 2 ^ 47 := Nat.pow_le_pow_right (by decide) (by omega)
  have h46 : 2 ^ cl_t L xs b p ≤ 2 ^ 46 := Nat.pow_le_pow_right (by decide) (by omega)
  have g1 : c * 2 % 2 ^ (cl_t L xs b p + 1) < 2 ^ 47 := Nat.lt_of_lt_of_le (Nat.mod_lt _ (Nat.two_pow_pos _)) h47
  have g2 : c &&& 2 ^ cl_t L xs b p < 2 ^ 47 := Nat.lt_of_le_of_lt Nat.and_le_right (by omega)
  have b1 : ∀ v, (c * 2 % 2 ^ (cl_t L xs b p + 1)).testBit v = true ↔ 1 ≤ v ∧ v ≤ cl_t L xs b p ∧ c.testBit (v - 1) = true := by
    intro v
    rw [Nat.testBit_mod_two_pow, Bool.and_eq_true, decide_eq_true_iff, show c * 2 = c * 2 ^ 1 from rfl, Nat.testBit_mul_two_pow, Bool.and_eq_true, decide_eq_true_iff]
    constructor
    · rintro ⟨a, a2, a3⟩; exact ⟨a2, by omega, a3⟩
    · rintro ⟨a, a2, a3⟩; exact ⟨by omega, a, a3⟩
  have b2 : ∀ v, (c &&& 2 ^ cl_t L xs b p).testBit v = true ↔ v = cl_t L xs b p ∧ c.testBit v = true := by
    intro v
    rw [Nat.testBit_and, Nat.testBit_two_pow, Bool.and_eq_true, decide_eq_true_iff]
    constructor
    · rintro ⟨a, a2⟩; exact ⟨a2.symm, a⟩
    · rintro ⟨a, a2⟩; exact ⟨a2, a.symm⟩
  have b3 : ∀ v, (2 : Nat).testBit v = true ↔ v = 1 := by
    intro v
    rw [show (2 : Nat) = 2 ^ 1 from rfl, Nat.testBit_two_pow, decide_eq_true_iff]
    exact ⟨Eq.symm, Eq.symm⟩
  unfold wpL_grow
  refine cl_mask hL hb hp (cl_cb (by omega) (fun z => ?_) (fun z => ?_))
  · refine H 0 (by decide) (fun v => ?_)
    rw [Nat.zero_testBit]
    exact ⟨fun k => absurd k (by decide), fun k => by rw [k.1] at z; exact absurd z (by decide)⟩
  · refine cl_top hL hb hp (nm_r (cl_g1 (by omega)) (cl_most hL hb hp ?_))
    have g59 : ∀ g, g < 2 ^ 47 → (∀ v, g.testBit v = true ↔ (1 ≤ v ∧ v ≤ cl_t L xs b p ∧ c.testBit (v - 1) = true) ∨ (cl_e L xs b p ∧ v = cl_t L xs b p ∧ c.testBit v = true)) → wL_grow_59 post L xs (nI p) e (lN g) := by
      intro g hg hgb
      refine cl_cb (by omega) (fun w => H g (by omega) (fun v => ?_)) (fun w => ?_)
      · rw [hgb v]
        exact ⟨fun k => ⟨z, Or.inr k⟩, fun k => k.2.elim (fun q => by rw [w] at q; exact absurd q.2 (by decide)) id⟩
      · have e2 : lN g ||| 2 = lN (g ||| 2) := wb_or (b := 2) (by omega) (by decide)
        rw [e2]
        have hg2 : g ||| 2 < 2 ^ 47 := Nat.or_lt_two_pow hg (by decide)
        refine H (g ||| 2) (by omega) (fun v => ?_)
        rw [Nat.testBit_or, Bool.or_eq_true, hgb v, b3 v]
        exact ⟨fun k => ⟨z, k.elim Or.inr (fun k => Or.inl ⟨k, w⟩)⟩, fun k => k.2.elim (fun q => Or.inr q.1) Or.inl⟩
    by_cases q : cl_e L xs b p
    · refine br_t (cl_Me.mpr q) (nm_r (e' := lN (c * 2 % 2 ^ (cl_t L xs b p + 1) ||| (c &&& 2 ^ cl_t L xs b p))) ?_ (g59 _ (Nat.or_lt_two_pow g1 g2) (fun v => ?_)))
      · rw [cl_g2 hc (by omega), wb_or (by omega) (by omega)]
      · rw [Nat.testBit_or, Bool.or_eq_true, b1 v, b2 v]
        exact ⟨fun k => k.elim Or.inl (fun k => Or.inr ⟨q, k⟩), fun k => k.elim Or.inl (fun k => Or.inr k.2)⟩
    · refine br_f (fun k => q (cl_Me.mp k)) (g59 _ g1 (fun v => ?_))
      rw [b1 v]
      exact ⟨Or.inl, fun k => k.elim id (fun k => absurd k.1 q)⟩
end CLI
end
section
section CBP
/-! building: the picture -/
variable {L b n i lv h rm : Nat} {xs : Nat → Int32} {bs : Nat → Nat} {aC aL aT aE aB aF iE iF iL f' e1 f1 l1 : Nat → Int32} {fol : Int32}
def cb_R (lv : Nat) (iE iF iL : Nat → Int32) (j w : Nat) : Prop :=
  w < 512 ∧ (¬ iE j = 0 ↔ w.testBit 8 = true) ∧ (∀ p, p < 32 → (bt (iF j) p = true ↔ p < 4 ∧ w.testBit (4 + p) = true)) ∧ (∀ p, p < 32 → (bt (iL j) p = true ↔ p < 4 ∧ w.testBit p = true)) ∧
  (∀ p, p < 4 → w.testBit (4 + p) = true → p < lv) ∧ (∀ p, p < 4 → w.testBit p = true → p < lv)
def cb_K (R : Nat → Nat → Prop) : Nat → Nat → Prop
  | 0, s => s = 0
  | h + 1, s => R h (s % 512) ∧ cb_K R h (s / 512)
theorem cb_Km {R R' : Nat → Nat → Prop} : ∀ h s, (∀ j, j < h → ∀ w, R j w → R' j w) → cb_K R h s → cb_K R' h s := by
  intro h
  induction h with
  | zero => exact fun s _ k => k
  | succ h ih => exact fun s m k => ⟨m h (by omega) _ k.1, ih (s / 512) (fun j hj => m j (by omega)) k.2⟩
theorem cb_Kl {R : Nat → Nat → Prop} : ∀ h s, cb_K R h s → s < 512 ^ h := by
  intro h
  induction h with
  | zero =>
    intro s k
    have e : s = 0 := k
    subst e; decide
  | succ h ih =>
    intro s k
    have h1 := ih (s / 512) k.2
    rw [Nat.pow_succ]
    generalize 512 ^ h = m at h1 ⊢
    omega
theorem cb_K36 {R : Nat → Nat → Prop} {h s : Nat} (hh : h ≤ 4) (k : cb_K R h s) : s < 2 ^ 36 := by
  have h1 := cb_Kl h s k
  have h2 : 512 ^ h ≤ 512 ^ 4 := Nat.pow_le_pow_right (by decide) hh
  have h3 : (512 : Nat) ^ 4 = 2 ^ 36 := by decide
  omega
def cb_F (lv : Nat) (fol : Int32) (aF : Nat → Int32) : Prop :=
  (∀ q p, q < 4 → p < 4 → (bt fol (4 * q + p) = true ↔ q < lv ∧ bt (aF q) p = true)) ∧ (∀ q, q < lv → ∀ p, p < 4 → bt (aF q) p = true → p < lv)
def cb_S (L : Nat) (xs : Nat → Int32) (b lv rm : Nat) (bs : Nat → Nat) (aC aL aT aE aB : Nat → Int32) : Prop :=
  cr_lf lv (cl_l L xs b) (cl_t L xs b) bs aL aT aE aB ∧ (∀ p, p < lv → aC p = nI (cl_m L xs b p) ∧ (¬ aE p = 0 ↔ cl_e L xs b p) ∧ bs p + cl_t L xs b p ≤ 224 - rm) ∧ rm ≤ 224
theorem cb_Srm {rm' : Nat} (h : cb_S L xs b lv rm bs aC aL aT aE aB) (hr : rm' ≤ rm) : cb_S L xs b lv rm' bs aC aL aT aE aB := by
  obtain ⟨s1, s2, s3⟩ := h
  exact ⟨s1, fun p hp => ⟨(s2 p hp).1, (s2 p hp).2.1, by have := (s2 p hp).2.2; omega⟩, by omega⟩
theorem cb_Rn {l w' : Nat} {e pe : Prop} {f la pf pl : Nat → Prop} (it : cr_it l iE iF iL e1 f1 l1 pe pf pl) (J : cb_J w' e f la) (he : pe ↔ e) (hf : ∀ p, p < 32 → (pf p ↔ p < 4 ∧ f p)) (hl : ∀ p, p < 32 → (pl p ↔ p < 4 ∧ la p))
    (bf : ∀ p, p < 4 → f p → p < lv) (bl : ∀ p, p < 4 → la p → p < lv) : cb_R lv e1 f1 l1 l w' := by
  obtain ⟨j1, j2, j3, j4⟩ := J
  refine ⟨j1, (it.2.1.trans he).trans j2.symm, fun p hp => ((it.2.2.1 p).trans (hf p hp)).trans ?_, fun p hp => ((it.2.2.2 p).trans (hl p hp)).trans ?_, fun p hp z => bf p hp ((j3 p hp).mp z), fun p hp z => bl p hp ((j4 p hp).mp z)⟩
  · exact ⟨fun z => ⟨z.1, (j3 p z.1).mpr z.2⟩, fun z => ⟨z.1, (j3 p z.1).mp z.2⟩⟩
  · exact ⟨fun z => ⟨z.1, (j4 p z.1).mpr z.2⟩, fun z => ⟨z.1, (j4 p z.1).mp z.2⟩⟩
theorem cb_Ro {l j w : Nat} {pe : Prop} {pf pl : Nat → Prop} (it : cr_it l iE iF iL e1 f1 l1 pe pf pl) (hj : j ≠ l) (R : cb_R lv iE iF iL j w) : cb_R lv e1 f1 l1 j w := by
  obtain ⟨o1, o2, o3⟩ := it.1 j hj
  unfold cb_R at R ⊢
  rw [o1, o2, o3]; exact R
theorem cb_Fn {cr : Int32} {Al Bl : Nat → Prop} (F : cb_F lv fol aF) (hc : ∀ q p, q < 4 → p < 4 → (bt cr (4 * q + p) = true ↔ Al q ∧ Bl p)) (hf : ∀ q, q < lv → ∀ p, p < 4 → (bt (f' q) p = true ↔ bt (aF q) p = true ∨ (Al q ∧ Bl p)))
    (ha : ∀ q, q < 4 → Al q → q < lv) (hb : ∀ p, p < 4 → Bl p → p < lv) : cb_F lv (fol ||| cr) f' := by
  refine ⟨fun q p hq hp => ?_, fun q hq p hp z => ?_⟩
  · rw [cr_bo, F.1 q p hq hp, hc q p hq hp]
    constructor
    · rintro (⟨z1, z2⟩ | z)
      · exact ⟨z1, (hf q z1 p hp).mpr (Or.inl z2)⟩
      · exact ⟨ha q hq z.1, (hf q (ha q hq z.1) p hp).mpr (Or.inr z)⟩
    · rintro ⟨z1, z2⟩
      exact ((hf q z1 p hp).mp z2).elim (fun z => Or.inl ⟨z1, z⟩) Or.inr
  · exact ((hf q hq p hp).mp z).elim (F.2 q hq p hp) (fun z => hb p hp z.2)
/-- in the midst of a leaf's operators: i leaves before it, h items below the uppermost one -/
def cb_I (L : Nat) (xs : Nat → Int32) (b n i h j u rm w s : Nat) (fol : Int32) (bs : Nat → Nat) (aC aL aT aE aB aF iE iF iL : Nat → Int32) : Prop :=
  (i < n ∧ n ≤ 4 ∧ h ≤ i ∧ (u = 0 ∨ (3 ≤ u ∧ u ≤ 5)) ∧ 224 + (if u = 0 then 0 else 1) ≤ rm + 47 * (i + 1) + (i - h) ∧ (i + 1 = n → h = 0 ∨ h + j ≤ 3)) ∧
  cb_S L xs b (i + 1) rm bs aC aL aT aE aB ∧ cb_F (i + 1) fol aF ∧ cb_K (cb_R (i + 1) iE iF iL) h s ∧ cb_R (i + 1) iE iF iL h w
/-- between two leaves -/
def cb_O (L : Nat) (xs : Nat → Int32) (b n i h rm s : Nat) (fol : Int32) (bs : Nat → Nat) (aC aL aT aE aB aF iE iF iL : Nat → Int32) : Prop :=
  (i ≤ n ∧ n ≤ 4 ∧ h ≤ i ∧ 224 ≤ rm + 47 * i + (i - h) ∧ (i = n → h = 1)) ∧ cb_S L xs b i rm bs aC aL aT aE aB ∧ cb_F i fol aF ∧ cb_K (cb_R i iE iF iL) h s
end CBP
end
section
section CBI
/-! building: the operators behind a leaf -/
variable {L b n i : Nat} {xs : Nat → Int32} {bs : Nat → Nat} {aC aL aT aE aB aF iE iF iL hx : Nat → Int32} {xN xH : Int32} {post : Int32 → Prop} {kc ks : Nat}
abbrev cb_T14 : Type := Int32 → Int32 → Int32 → Int32 → Int32 → Int32 → Int32 → Int32 → Int32 → (Nat → Int32) → (Nat → Int32) → (Nat → Int32) → (Nat → Int32) → (Nat → Int32) → (Nat → Int32) → (Nat → Int32) → (Nat → Int32) → (Nat → Int32) → (Nat → Int32) → Prop
abbrev cb_T49 : Type := Int32 → Int32 → Int32 → Int32 → Int64 → Int32 → Int32 → Int32 → Int32 → Int32 → Int32 → Int32 → Int32 → Int32 → (Nat → Int32) → (Nat → Int32) → (Nat → Int32) → (Nat → Int32) → (Nat → Int32) → (Nat → Int32) → (Nat → Int32) → (Nat → Int32) → (Nat → Int32) → (Nat → Int32) → Prop
abbrev cb_T156 : Type := Int32 → Int32 → Int32 → Int32 → Int64 → Int32 → Int32 → Int32 → Int32 → Int32 → Int32 → Int32 → Int32 → Int32 → Int32 → (Nat → Int32) → (Nat → Int32) → (Nat → Int32) → (Nat → Int32) → (Nat → Int32) → (Nat → Int32) → (Nat → Int32) → (Nat → Int32) → (Nat → Int32) → (Nat → Int32) → Prop
variable {J14 : cb_T14} {J49 : cb_T49} {J156 : cb_T156}
theorem cb_335 {h j rm g w s : Nat} {fol : Int32} (hg : g < 2 ^ 31) (hj : j < 1000) (H : ∀ u, (u = 0 ∨ (3 ≤ u ∧ u ≤ 5)) → J156 fol (nI h) (nI (i - h)) (nI w) (lN s) (nI u) (nI (j + 1)) (nI 4) (nI 224) 0 (nI (h + 1)) (nI (i + 1)) (nI rm) xN xH aC aL aT aE aB aF iE iF iL hx) {x11 x13 x4 : Int32} :
    wL_law_335 post L xs J14 J49 J156 (nI b) x4 fol (nI h) (nI (i - h)) (lN s) x11 x13 (nI j) (nI g) (nI w) kc ks (nI 4) (nI 224) 0 (nI (h + 1)) (nI (i + 1)) (nI rm) xN xH aC aL aT aE aB aF iE iF iL hx := by
  have ed : nI g / 3 = nI (g / 3) := pk_div hg (by decide) (by decide)
  refine ⟨by decide, ?_⟩
  rw [ed]
  exact cl_un (by omega) (nm_r (nI_1 j) (H (cl_u (g / 3)) (cl_ub _)))
theorem cb_215 {h j lim rm w s : Nat} {fol : Int32} (hL : L ≤ 260) (hb : b < 900) (hl3 : lim ≤ 3) (hln : i + 1 = n → lim = 3) (hj : j ≤ lim)
    (I : cb_I L xs b n i h j 0 rm w s fol bs aC aL aT aE aB aF iE iF iL)
    (H : ∀ h' u' w' s' fol' aF' iE' iF' iL', cb_I L xs b n i h' (j + 1) u' rm w' s' fol' bs aC aL aT aE aB aF' iE' iF' iL' → J156 fol' (nI h') (nI (i - h')) (nI w') (lN s') (nI u') (nI (j + 1)) (nI 4) (nI 224) 0 (nI (h' + 1)) (nI (i + 1)) (nI rm) xN xH aC aL aT aE aB aF' iE' iF' iL' hx) :
    wL_law_215 post L xs J14 J49 J156 (nI b) (nI n) fol (nI h) (nI (i - h)) (nI w) (lN s) (nI i) (nI lim) (nI j) kc ks (nI 4) (nI 224) 0 (nI (h + 1)) (nI (i + 1)) (nI rm) xN xH aC aL aT aE aB aF iE iF iL hx := by
  obtain ⟨⟨n1, n2, n3, n4, n5, n6⟩, S1, F1, K1, R1⟩ := id I
  rw [if_pos rfl] at n5
  have stay : (i + 1 = n → h = 0 ∨ h + (j + 1) ≤ 3) → J156 fol (nI h) (nI (i - h)) (nI w) (lN s) 0 (nI (j + 1)) (nI 4) (nI 224) 0 (nI (h + 1)) (nI (i + 1)) (nI rm) xN xH aC aL aT aE aB aF iE iF iL hx := fun z =>
    H h 0 w s fol aF iE iF iL ⟨⟨n1, n2, n3, n4, by rw [if_pos rfl]; exact n5, z⟩, S1, F1, K1, R1⟩
  refine pk_le lim j (fun z => nm_r (nI_1 j) (stay (fun q => by have := hln q; have := n6 q; omega))) (fun z => pk_le h 0 (fun z0 => nm_r (nI_1 j) (stay (fun _ => Or.inl (by omega)))) (fun z0 => ?_))
  obtain ⟨h, rfl⟩ : ∃ h', h = h' + 1 := ⟨h - 1, by omega⟩
  obtain ⟨KR, KK⟩ := K1
  have s36 : s < 2 ^ 36 := cb_K36 (h := h + 1) (by omega) ⟨KR, KK⟩
  have ei : ((nI b + 1) + (4 * nI n)) + nI (i - (h + 1)) = nI (b + 1 + 4 * n + (i - (h + 1))) := by rw [cl_4, nI_1, nI_add, nI_add]
  rw [ei]
  refine cl_num hL (by omega) ?_
  have hg := cl_nl (L := L) (xs := xs) (k := b + 1 + 4 * n + (i - (h + 1)))
  generalize cl_n L xs (b + 1 + 4 * n + (i - (h + 1))) = g at hg ⊢
  have e511 : (lN s &&& 511).toInt32 = nI (s % 512) := by
    have : lN s &&& 511 = lN (s % 512) := g_mask (p := 512) (s := 9) rfl (by decide) (by omega)
    rw [this, lN_i]
  have e9 : ((lN s).toUInt64 >>> ((9 : Int32).toInt64.toUInt64 &&& Int64.toUInt64 63)).toInt64 = lN (s / 512) := wb_shr (n := s) (k := 9) (by omega) (by decide)
  have eh : nI (h + 1) + (-1) = nI h := pk_m1 h
  have e7 : nI (i - (h + 1)) + 1 = nI (i - h) := by rw [nI_1]; congr 1; omega
  have er : nI g - nI g / 3 * 3 = nI (g % 3) := pk_rem hg (by decide) (by decide)
  have hw := R1.1
  have hlw := KR.1
  generalize hlf : s % 512 = lft at KR hlw e511
  have n6' : i + 1 = n → h = 0 ∨ h + (j + 1) ≤ 3 := fun q => by have := n6 q; omega
  have room : ∀ u : Nat, 224 + (if u = 0 then 0 else 1) ≤ rm + 47 * (i + 1) + (i - h) := fun u => by split <;> omega
  refine nm_r e511 (nm_r e7 (nm_r e9 (nm_r eh ⟨by decide, ?_⟩)))
  refine pk_eq (g % 3) 0 (fun g0 => ?_) (fun g0 => ?_) er
  · -- ALT
    refine cx_op2 (by omega) (fun e1 f1 l1 it => ⟨by decide, pk_eq (g % 3) 0 (fun _ => ⟨by decide, pk_eq (g % 3) 0 (fun _ => ?_) (fun z => absurd g0 z) er⟩) (fun z => absurd g0 z) er⟩)
    rw [cl_nor]
    refine cb_335 hg (by omega) (fun u hu => H h u (w ||| lft) (s / 512) fol aF e1 f1 l1 ⟨⟨n1, n2, by omega, hu, room u, n6'⟩, S1, F1, cb_Km h _ (fun q hq v hv => cb_Ro it (by omega) hv) KK, cb_Rn it (cl_alt hw hlw) ?_ (fun p hp => ?_) (fun p hp => ?_) (fun p hp => ?_) (fun p hp => ?_)⟩)
    · rw [KR.2.1, R1.2.1]
    · rw [KR.2.2.1 p hp, R1.2.2.1 p hp]
      exact ⟨fun k => k.elim (fun k => ⟨k.1, Or.inl k.2⟩) (fun k => ⟨k.1, Or.inr k.2⟩), fun k => k.2.elim (fun q => Or.inl ⟨k.1, q⟩) (fun q => Or.inr ⟨k.1, q⟩)⟩
    · rw [KR.2.2.2.1 p hp, R1.2.2.2.1 p hp]
      exact ⟨fun k => k.elim (fun k => ⟨k.1, Or.inl k.2⟩) (fun k => ⟨k.1, Or.inr k.2⟩), fun k => k.2.elim (fun q => Or.inl ⟨k.1, q⟩) (fun q => Or.inr ⟨k.1, q⟩)⟩
    · exact fun k => k.elim (KR.2.2.2.2.1 p hp) (R1.2.2.2.2.1 p hp)
    · exact fun k => k.elim (KR.2.2.2.2.2 p hp) (R1.2.2.2.2.2 p hp)
  · -- CAT
    refine cx_op1 (by omega) (by omega) (fun f' e1 f1 l1 hf it => ⟨by decide, pk_eq (g % 3) 0 (fun z => absurd z g0) (fun _ => ?_) er⟩)
    refine cl_cro (fun q q4 q32 => ?_) (fun cr hcr => nm_e ⟨by decide, pk_eq (g % 3) 0 (fun z => absurd z g0) (fun _ => ?_) er⟩)
    · cases hq : bt ((nI w >>> ((4 : Int32) &&& 31)) &&& 15) q
      · rfl
      · exact absurd ((cl_hi q32).mp hq).1 (by omega)
    refine cl_cat hlw hw (fun w' J' => cb_335 hg (by omega) (fun u hu => H h u w' (s / 512) (fol ||| cr) f' e1 f1 l1 ⟨⟨n1, n2, by omega, hu, room u, n6'⟩, S1, ?_, cb_Km h _ (fun q hq v hv => cb_Ro it (by omega) hv) KK, cb_Rn it J' ?_ (fun p hp => ?_) (fun p hp => ?_) (fun p hp => ?_) (fun p hp => ?_)⟩))
    · refine cb_Fn (Al := fun q => lft.testBit q = true) (Bl := fun p => w.testBit (4 + p) = true) F1 (fun q p hq hp => ?_) (fun q hq p hp => ?_) (fun q hq z => KR.2.2.2.2.2 q hq z) (fun p hp z => R1.2.2.2.2.1 p hp z)
      · rw [hcr q p hq hp, cl_lo (by omega), cl_hi (by omega)]
        exact ⟨fun k => ⟨k.1.2, k.2.2⟩, fun k => ⟨⟨hq, k.1⟩, hp, k.2⟩⟩
      · rw [hf q hq p, KR.2.2.2.1 q (by omega), R1.2.2.1 p (by omega)]
        exact ⟨fun k => k.elim Or.inl (fun k => Or.inr ⟨k.1.2, k.2.2⟩), fun k => k.elim Or.inl (fun k => Or.inr ⟨⟨by omega, k.1⟩, hp, k.2⟩)⟩
    · rw [KR.2.1, R1.2.1]
    · rw [KR.2.2.1 p hp, KR.2.1, R1.2.2.1 p hp]
      exact ⟨fun k => k.elim (fun k => ⟨k.1, Or.inl k.2⟩) (fun k => ⟨k.2.1, Or.inr ⟨k.1, k.2.2⟩⟩), fun k => k.2.elim (fun q => Or.inl ⟨k.1, q⟩) (fun q => Or.inr ⟨q.1, k.1, q.2⟩)⟩
    · rw [R1.2.2.2.1 p hp, R1.2.1, KR.2.2.2.1 p hp]
      exact ⟨fun k => k.elim (fun k => ⟨k.1, Or.inl k.2⟩) (fun k => ⟨k.2.1, Or.inr ⟨k.1, k.2.2⟩⟩), fun k => k.2.elim (fun q => Or.inl ⟨k.1, q⟩) (fun q => Or.inr ⟨q.1, k.1, q.2⟩)⟩
    · exact fun k => k.elim (KR.2.2.2.2.1 p hp) (fun k => R1.2.2.2.2.1 p hp k.2)
    · exact fun k => k.elim (R1.2.2.2.2.2 p hp) (fun k => KR.2.2.2.2.2 p hp k.2)
theorem cb_156 {lim : Nat} (hL : L ≤ 260) (hb : b < 900) (hl3 : lim ≤ 3) (hln : i + 1 = n → lim = 3)
    (H : ∀ h u rm w s fol aF iE iF iL, cb_I L xs b n i h (lim + 1) u rm w s fol bs aC aL aT aE aB aF iE iF iL → J49 fol (nI (h + 1)) (nI (i - h)) (nI w) (lN (s * 512 + w)) (nI (i + 1)) (nI 4) (nI 224) 0 (nI (h + 1)) (nI (i + 1)) (nI rm) xN xH aC aL aT aE aB aF iE iF iL hx) :
    ∀ m j h u rm w s fol aF iE iF iL, lim + 1 - j < m → j ≤ lim + 1 → cb_I L xs b n i h j u rm w s fol bs aC aL aT aE aB aF iE iF iL →
    wL_law_156 post L xs J14 J49 (nI b) (nI n) (nI i) (nI lim) kc ks m fol (nI h) (nI (i - h)) (nI w) (lN s) (nI u) (nI j) (nI 4) (nI 224) 0 (nI (h + 1)) (nI (i + 1)) (nI rm) xN xH aC aL aT aE aB aF iE iF iL hx := by
  intro m
  induction m with
  | zero => intro j h u rm w s fol aF iE iF iL hm; omega
  | succ m ih =>
    intro j h u rm w s fol aF iE iF iL hm hj I
    obtain ⟨⟨n1, n2, n3, n4, n5, n6⟩, S1, F1, K1, R1⟩ := id I
    have s36 : s < 2 ^ 36 := cb_K36 (by omega) K1
    have hw := R1.1
    rcases Nat.lt_or_ge lim j with hlt | hge
    · have ej : j = lim + 1 := by omega
      subst ej
      have e9 : (lN s <<< ((9 : Int32).toInt64 &&& 63)) ||| (nI w).toInt64 = lN (s * 512 + w) := by
        have e1 : lN s <<< ((9 : Int32).toInt64 &&& 63) = lN (s * 2 ^ 9) := wb_shl s (k := 9) (by decide)
        rw [e1, nI_l (by omega)]
        exact g_or (k := 9) (p := 2 ^ 9) rfl hw (by omega)
      exact br_t (nI_lt hlt (by omega)) (nm_r e9 (nm_r (nI_1 h) (nm_r (nI_1 i) (H h u rm w s fol aF iE iF iL I))))
    · have go : ∀ w rm fol aF iE, cb_I L xs b n i h j 0 rm w s fol bs aC aL aT aE aB aF iE iF iL → wL_law_215 post L xs J14 J49 (wL_law_156 post L xs J14 J49 (nI b) (nI n) (nI i) (nI lim) kc ks m) (nI b) (nI n) fol (nI h) (nI (i - h)) (nI w) (lN s) (nI i) (nI lim) (nI j) kc ks (nI 4) (nI 224) 0 (nI (h + 1)) (nI (i + 1)) (nI rm) xN xH aC aL aT aE aB aF iE iF iL hx := fun w rm fol aF iE I' =>
        cb_215 hL hb hl3 hln hge I' (fun h' u' w' s' fol' aF' iE' iF' iL' I'' => ih (j + 1) h' u' rm w' s' fol' aF' iE' iF' iL' (by omega) (by omega) I'')
      refine br_f (nI_nlt hge (by omega)) (pk_eq u 0 (fun u0 => ?_) (fun u0 => ?_))
      · subst u0; exact go w rm fol aF iE I
      · rw [if_neg u0] at n5
        have u35 : 3 ≤ u ∧ u ≤ 5 := n4.elim (fun z => absurd z u0) id
        obtain ⟨rm, rfl⟩ : ∃ r, rm = r + 1 := ⟨rm - 1, by omega⟩
        have S1' := cb_Srm (rm' := rm) S1 (by omega)
        have rm3 := S1.2.2
        refine cx_op3 (by omega) (by omega) u35.1 u35.2 (by omega) (fun f' e1 hf it => ?_)
        have num : i < n ∧ n ≤ 4 ∧ h ≤ i ∧ ((0 : Nat) = 0 ∨ (3 ≤ 0 ∧ 0 ≤ 5)) ∧ 224 + (if (0 : Nat) = 0 then 0 else 1) ≤ rm + 47 * (i + 1) + (i - h) ∧ (i + 1 = n → h = 0 ∨ h + j ≤ 3) := ⟨n1, n2, n3, Or.inl rfl, by rw [if_pos rfl]; omega, n6⟩
        have KK := cb_Km h s (fun q hq v hv => cb_Ro it (show q ≠ h by omega) hv) K1
        have l201 : ∀ fol', cb_F (i + 1) fol' f' → wL_law_201 post L xs J14 J49 (wL_law_156 post L xs J14 J49 (nI b) (nI n) (nI i) (nI lim) kc ks m) (nI b) (nI n) fol' (nI h) (nI (i - h)) (nI w) (lN s) (nI i) (nI lim) (nI u) (nI j) kc ks (nI 4) (nI 224) 0 (nI (h + 1)) (nI (i + 1)) (nI rm) xN xH aC aL aT aE aB f' e1 iF iL hx := by
          intro fol' F'
          refine pk_eq u 4 (fun u4 => go w rm fol' f' e1 ⟨num, S1', F', KK, ?_⟩) (fun u4 => nm_r (cl_nor w 256) (go (w ||| 256) rm fol' f' e1 ⟨num, S1', F', KK, ?_⟩))
          · refine cb_Rn it (w' := w) (e := w.testBit 8 = true) (f := fun p => w.testBit (4 + p) = true) (la := fun p => w.testBit p = true) ⟨hw, Iff.rfl, fun p _ => Iff.rfl, fun p _ => Iff.rfl⟩ ?_ (fun p hp => R1.2.2.1 p hp) (fun p hp => R1.2.2.2.1 p hp) (fun p hp => R1.2.2.2.2.1 p hp) (fun p hp => R1.2.2.2.2.2 p hp)
            rw [R1.2.1]
            exact ⟨fun k => k.elim (fun q => absurd u4 q) id, Or.inr⟩
          · exact cb_Rn it (cl_w8 hw) ⟨fun _ => trivial, fun _ => Or.inl u4⟩ (fun p hp => R1.2.2.1 p hp) (fun p hp => R1.2.2.2.1 p hp) (fun p hp => R1.2.2.2.2.1 p hp) (fun p hp => R1.2.2.2.2.2 p hp)
        refine pk_eq u 5 (fun u5 => l201 fol ⟨fun q p hq hp => ?_, fun q hq p hp z => ?_⟩) (fun u5 => ?_)
        · rw [F1.1 q p hq hp]
          exact ⟨fun z => ⟨z.1, (hf q z.1 p).mpr (Or.inl z.2)⟩, fun z => ⟨z.1, ((hf q z.1 p).mp z.2).elim id (fun k => by omega)⟩⟩
        · exact F1.2 q hq p hp (((hf q hq p).mp z).elim id (fun k => by omega))
        · refine cl_cro (fun q q4 q32 => ?_) (fun cr hcr => nm_e (l201 (fol ||| cr) (cb_Fn (Al := fun q => w.testBit q = true) (Bl := fun p => w.testBit (4 + p) = true) F1 (fun q p hq hp => ?_) (fun q hq p hp => ?_) (fun q hq z => R1.2.2.2.2.2 q hq z) (fun p hp z => R1.2.2.2.2.1 p hp z))))
          · cases hq : bt ((nI w >>> ((4 : Int32) &&& 31)) &&& 15) q
            · rfl
            · exact absurd ((cl_hi q32).mp hq).1 (by omega)
          · rw [hcr q p hq hp, cl_lo (by omega), cl_hi (by omega)]
            exact ⟨fun k => ⟨k.1.2, k.2.2⟩, fun k => ⟨⟨hq, k.1⟩, hp, k.2⟩⟩
          · rw [hf q hq p, R1.2.2.2.1 q (by omega), R1.2.2.1 p (by omega)]
            exact ⟨fun k => k.elim Or.inl (fun k => Or.inr ⟨k.2.1.2, k.2.2.2⟩), fun k => k.elim Or.inl (fun k => Or.inr ⟨by omega, ⟨by omega, k.1⟩, hp, k.2⟩)⟩
end CBI
end
section
section CBO
/-! building: leaf by leaf -/
variable {L b n : Nat} {xs : Nat → Int32} {bs : Nat → Nat} {aC aL aT aE aB aF iE iF iL hx : Nat → Int32} {xN xH : Int32} {post : Int32 → Prop} {kc ks : Nat}
variable {J14 : cb_T14}
def cb_u (f : Nat → Nat) (k x : Nat) : Nat → Nat := fun j => if j = k then x else f j
theorem cb_us {f : Nat → Nat} {k x : Nat} : cb_u f k x k = x := if_pos rfl
theorem cb_un {f : Nat → Nat} {k j x : Nat} (h : j ≠ k) : cb_u f k x j = f j := if_neg h
theorem cb_Sl {i rm : Nat} {e : Int32} (S1 : cb_S L xs b i rm bs aC aL aT aE aB) (hi : i < 4) (ht : cl_t L xs b i ≤ rm) (he : e = 0 ∨ e = 1) (hee : ¬ e = 0 ↔ cl_M L xs b i = -1) :
    cb_S L xs b (i + 1) (rm - cl_t L xs b i) (cb_u bs i (224 - rm)) (upd aC i (nI (cl_m L xs b i))) (upd aL i (nI (cl_l L xs b i))) (upd aT i (nI (cl_t L xs b i))) (upd aE i e) (upd aB i (nI (224 - rm))) := by
  obtain ⟨⟨g1, g2, g3⟩, s2, s3⟩ := S1
  have tb := cl_tb (L := L) (xs := xs) (b := b) (p := i)
  refine ⟨⟨by omega, fun p hp => ?_, fun p q hpq hq => ?_⟩, fun p hp => ?_, by omega⟩
  · by_cases e' : p = i
    · subst e'
      rw [pk_us, pk_us, pk_us, pk_us, cb_us]
      exact ⟨rfl, rfl, rfl, he, tb.1, tb.2.2, by omega⟩
    · rw [pk_un e', pk_un e', pk_un e', pk_un e', cb_un e']
      exact g2 p (by omega)
  · have e' : p ≠ i := by omega
    rw [cb_un e']
    by_cases e2 : q = i
    · subst e2
      rw [cb_us]
      exact (s2 p hpq).2.2
    · rw [cb_un e2]
      exact g3 p q hpq (by omega)
  · by_cases e' : p = i
    · subst e'
      rw [pk_us, pk_us, cb_us]
      exact ⟨rfl, hee.trans cl_Me, by omega⟩
    · rw [pk_un e', pk_un e', cb_un e']
      obtain ⟨a1, a2, a3⟩ := s2 p (by omega)
      exact ⟨a1, a2, by omega⟩
theorem cb_Fl {i : Nat} {fol : Int32} (F1 : cb_F i fol aF) : cb_F (i + 1) fol (upd aF i 0) := by
  refine ⟨fun q p hq hp => ?_, fun q hq p hp z => ?_⟩
  · rw [F1.1 q p hq hp]
    by_cases e : q = i
    · subst e
      rw [pk_us, b_0]
      exact ⟨fun k => absurd k.1 (by omega), fun k => absurd k.2 (by decide)⟩
    · rw [pk_un e]
      exact ⟨fun k => ⟨by omega, k.2⟩, fun k => ⟨by omega, k.2⟩⟩
  · by_cases e : q = i
    · subst e
      rw [pk_us, b_0] at z
      exact absurd z (by decide)
    · rw [pk_un e] at z
      have := F1.2 q (by omega) p hp z
      omega
theorem cb_Rl {i h j w : Nat} {x y z : Int32} (hj : j ≠ h) (R : cb_R i iE iF iL j w) : cb_R (i + 1) (upd iE h z) (upd iF h x) (upd iL h y) j w := by
  obtain ⟨r1, r2, r3, r4, r5, r6⟩ := R
  unfold cb_R
  rw [pk_un hj, pk_un hj, pk_un hj]
  exact ⟨r1, r2, r3, r4, fun p hp q => by have := r5 p hp q; omega, fun p hp q => by have := r6 p hp q; omega⟩
theorem cb_Rl0 {i h z256 : Nat} {z : Int32} (hi : i < 4) (h256 : z256 = 0 ∨ z256 = 256) (hz : ¬ z = 0 ↔ z256 = 256) :
    cb_R (i + 1) (upd iE h z) (upd iF h ((1 : Int32) <<< (nI i &&& 31))) (upd iL h ((1 : Int32) <<< (nI i &&& 31))) h (17 * 2 ^ i ||| z256) := by
  obtain ⟨j1, j2, j3, j4⟩ := cl_leafw hi z256 h256
  unfold cb_R
  rw [pk_us, pk_us, pk_us]
  refine ⟨j1, hz.trans j2.symm, fun p hp => ?_, fun p hp => ?_, fun p hp q => ?_, fun p hp q => ?_⟩
  · rw [cr_sl (by omega) hp, decide_eq_true_iff]
    exact ⟨fun k => ⟨by omega, (j3 p (by omega)).mpr k⟩, fun k => (j3 p k.1).mp k.2⟩
  · rw [cr_sl (by omega) hp, decide_eq_true_iff]
    exact ⟨fun k => ⟨by omega, (j4 p (by omega)).mpr k⟩, fun k => (j4 p k.1).mp k.2⟩
  · have := (j3 p hp).mp q; omega
  · have := (j4 p hp).mp q; omega
theorem cb_49 (hL : L ≤ 260) (hb : b < 900) (hn4 : n ≤ 4)
    (Hend : ∀ rm w fol bs aC aL aT aE aB aF iE iF iL, cb_O L xs b n n 1 rm w fol bs aC aL aT aE aB aF iE iF iL → ∀ m, wL_law_49 post L xs J14 (nI b) (nI n) kc ks (m + 1) fol (nI 1) (nI (n - 1)) (nI w) (lN w) (nI n) (nI 4) (nI 224) 0 (nI 1) (nI n) (nI rm) xN xH aC aL aT aE aB aF iE iF iL hx) :
    ∀ m i h rm s fol x8 bs aC aL aT aE aB aF iE iF iL, n - i < m → cb_O L xs b n i h rm s fol bs aC aL aT aE aB aF iE iF iL → (i = n → x8 = nI s) →
    wL_law_49 post L xs J14 (nI b) (nI n) kc ks m fol (nI h) (nI (i - h)) x8 (lN s) (nI i) (nI 4) (nI 224) 0 (nI h) (nI i) (nI rm) xN xH aC aL aT aE aB aF iE iF iL hx := by
  intro m
  induction m with
  | zero => intro i h rm s fol x8 bs aC aL aT aE aB aF iE iF iL hm; omega
  | succ m ih =>
    intro i h rm s fol x8 bs aC aL aT aE aB aF iE iF iL hm O h8
    obtain ⟨⟨n1, n2, n3, n4, n5⟩, S1, F1, K1⟩ := id O
    rcases Nat.lt_or_ge i n with hlt | hge
    · have tb := cl_tb (L := L) (xs := xs) (b := b) (p := i)
      have mb := cl_mb (L := L) (xs := xs) (b := b) (p := i)
      have lb := cl_lb (L := L) (xs := xs) (b := b) (p := i)
      have hb' : b < 1000 := by omega
      have hi4 : i < 4 := by omega
      have rm3 := S1.2.2
      refine br_f (nI_ge hlt (by omega)) (cl_mask hL hb' hi4 (cl_least hL hb' hi4 (cl_most hL hb' hi4 ?_)))
      refine cx_leaf (li := 4) (ce := 224) hi4 (by decide) n3 rm3 (by decide) tb.1 (by omega) tb.2.2 (nI_nlt (b := 1) (by omega) (by omega)) (nI_nlt (a := 255) (by omega) (by omega)) cl_Mw (fun e z he hee hz => ?_)
      have go : ∀ z256 : Nat, (z256 = 0 ∨ z256 = 256) → (¬ z = 0 ↔ z256 = 256) → wL_law_106 post L xs J14 (wL_law_49 post L xs J14 (nI b) (nI n) kc ks m) (nI b) (nI n) fol (nI h) (nI (i - h)) (lN s) (nI i) (nI z256) (((1 : Int32) <<< (nI i &&& 31)) * 17) kc ks (nI 4) (nI 224) 0 (nI (h + 1)) (nI (i + 1)) (nI (rm - cl_t L xs b i)) xN xH (upd aC i (nI (cl_m L xs b i))) (upd aL i (nI (cl_l L xs b i))) (upd aT i (nI (cl_t L xs b i))) (upd aE i e) (upd aB i (nI (224 - rm))) (upd aF i 0) (upd iE h z) (upd iF h ((1 : Int32) <<< (nI i &&& 31))) (upd iL h ((1 : Int32) <<< (nI i &&& 31))) hx := by
        intro z256 h256 hz256
        have ei : (nI b + (4 * nI i)) + 4 = nI (b + 4 * i + 4) := cl_ix 4
        have hg := cl_nl (L := L) (xs := xs) (k := b + 4 * i + 4)
        refine nm_r (e' := nI (17 * 2 ^ i ||| z256)) (by rw [cl_17 i hi4, cl_nor]) ?_
        rw [ei]
        refine cl_num hL (by omega) ⟨by decide, nm_r (pk_rem hg (by decide) (by decide)) ?_⟩
        generalize cl_n L xs (b + 4 * i + 4) = g at hg ⊢
        have l144 : ∀ lim : Nat, lim ≤ 3 → (i + 1 = n → lim = 3) → wL_law_144 post L xs J14 (wL_law_49 post L xs J14 (nI b) (nI n) kc ks m) (nI b) (nI n) fol (nI h) (nI (i - h)) (nI (17 * 2 ^ i ||| z256)) (lN s) (nI i) (nI (g % 24)) (nI lim) kc ks (nI 4) (nI 224) 0 (nI (h + 1)) (nI (i + 1)) (nI (rm - cl_t L xs b i)) xN xH (upd aC i (nI (cl_m L xs b i))) (upd aL i (nI (cl_l L xs b i))) (upd aT i (nI (cl_t L xs b i))) (upd aE i e) (upd aB i (nI (224 - rm))) (upd aF i 0) (upd iE h z) (upd iF h ((1 : Int32) <<< (nI i &&& 31))) (upd iL h ((1 : Int32) <<< (nI i &&& 31))) hx := by
          intro lim hl3 hln
          unfold wL_law_144
          refine cl_un (by omega) ⟨lim + 2, ?_⟩
          refine cb_156 hL hb hl3 hln (fun h' u' rm' w' s' fol' aF' iE' iF' iL' I' => ?_) (lim + 2) 0 h (cl_u (g % 24)) (rm - cl_t L xs b i) (17 * 2 ^ i ||| z256) s fol _ _ _ _ (by omega) (by omega) ⟨⟨hlt, n2, n3, cl_ub _, ?_, fun q => by omega⟩, cb_Sl S1 hi4 (by omega) he hee, cb_Fl F1, cb_Km h s (fun q hq v hv => cb_Rl (by omega) hv) K1, cb_Rl0 hi4 h256 hz256⟩
          · obtain ⟨⟨a1, a2, a3, a4, a5, a6⟩, A1, A2, A3, A4⟩ := I'
            have w512 := A4.1
            have hh : i + 1 = n → h' = 0 := fun q => by have := a6 q; have := hln q; omega
            rw [show i - h' = (i + 1) - (h' + 1) by omega]
            refine ih (i + 1) (h' + 1) rm' (s' * 512 + w') fol' (nI w') _ _ _ _ _ _ aF' iE' iF' iL' (by omega) ⟨⟨by omega, n2, by omega, ?_, fun q => by have := hh q; omega⟩, A1, A2, ?_, ?_⟩ (fun q => ?_)
            · have : (if u' = 0 then 0 else 1) ≥ 0 := Nat.zero_le _
              omega
            · rw [show (s' * 512 + w') % 512 = w' by omega]; exact A4
            · rw [show (s' * 512 + w') / 512 = s' by omega]; exact A3
            · have h0 := hh q
              subst h0
              have es : s' = 0 := A3
              rw [es, Nat.zero_mul, Nat.zero_add]
          · split <;> omega
        have en : nI n - 1 = nI (n - 1) := cr_s1' (by omega)
        refine pk_eq i (n - 1) (fun q => l144 3 (by decide) (fun _ => rfl)) (fun q => ⟨by decide, ?_⟩) rfl en
        have e8 : nI (g % 24) / 8 = nI (g % 24 / 8) := pk_div (by omega) (by decide) (by decide)
        rw [e8]
        exact l144 (g % 24 / 8) (by omega) (fun q2 => by omega)
      refine cl_least hL hb' hi4 (pk_eq (cl_l L xs b i) 0 (fun q => go 256 (Or.inr rfl) ⟨fun _ => rfl, fun _ => hz.mpr q⟩) (fun q => go 0 (Or.inl rfl) ⟨fun k => absurd (hz.mp k) q, fun k => absurd k (by decide)⟩))
    · have ei : i = n := by omega
      subst ei
      have h1 := n5 rfl
      subst h1
      have es : s / 512 = 0 := K1.2
      rw [h8 rfl]
      exact Hend rm s fol bs aC aL aT aE aB aF iE iF iL O m
end CBO
end
section
section CDR
/-! running: the pure picture of the held pairs, and both sides against it -/
def cd_ST (L : Nat) (xs : Nat → Int32) (b n rm w : Nat) (fol : Int32) (bs : Nat → Nat) (aC aL aT aE aB aF iE iF iL : Nat → Int32) : Prop :=
  n ≤ 4 ∧ cb_S L xs b n rm bs aC aL aT aE aB ∧ cb_F n fol aF ∧ cb_R n iE iF iL 0 w
def cd_H (L : Nat) (xs : Nat → Int32) (b n : Nat) (bs : Nat → Nat) (hx : Nat → Int32) (p v : Nat) : Prop := p < n ∧ 1 ≤ v ∧ v ≤ cl_t L xs b p ∧ ¬ hx (bs p + v - 1) = 0
def cd_c (c : Nat → Nat) (H : Nat → Nat → Prop) : Prop := ∀ p, p < 4 → c p < 2 ^ 63 ∧ ∀ v, (c p).testBit v = true ↔ H p v
def cd_C (L : Nat) (xs : Nat → Int32) (b : Nat) (H : Nat → Nat → Prop) (q : Nat) : Prop := ∃ v, cl_l L xs b q ≤ v ∧ H q v
def cd_en (L : Nat) (xs : Nat → Int32) (b : Nat) (st : Prop) (w : Nat) (fol : Int32) (H : Nat → Nat → Prop) (p : Nat) : Prop := (st ∧ w.testBit (4 + p) = true) ∨ ∃ q, q < 4 ∧ cd_C L xs b H q ∧ bt fol (4 * q + p) = true
def cd_W (L : Nat) (xs : Nat → Int32) (b n : Nat) (st : Prop) (w : Nat) (fol : Int32) (x : Nat) (H : Nat → Nat → Prop) (p v : Nat) : Prop :=
  p < n ∧ 1 ≤ v ∧ v ≤ cl_t L xs b p ∧ bt (nI (cl_m L xs b p)) x = true ∧ ((v = 1 ∧ cd_en L xs b st w fol H p) ∨ (1 < v ∧ H p (v - 1)) ∨ (cl_e L xs b p ∧ v = cl_t L xs b p ∧ H p v))
def cd_a (L : Nat) (xs : Nat → Int32) (b : Nat) (st : Prop) (w : Nat) (H : Nat → Nat → Prop) : Prop := (st ∧ w.testBit 8 = true) ∨ ∃ q, q < 4 ∧ cd_C L xs b H q ∧ w.testBit q = true
def cd_Q (L : Nat) (xs : Nat → Int32) (b n mode len w : Nat) (fol : Int32) (x : Nat) (H : Nat → Nat → Prop) : Nat → Nat → Nat → Prop
  | 0 => H
  | j + 1 => cd_W L xs b n (mode = 2 ∨ len + j = 0) w fol x (cd_Q L xs b n mode len w fol x H j)
noncomputable def cd_hit (acc : Nat → Prop) : Nat → Nat
  | 0 => 0
  | j + 1 => cd_hit acc j + @ite Nat (acc (j + 1)) (Classical.propDecidable _) 1 0
theorem cd_h1 {acc : Nat → Prop} {j : Nat} (h : acc (j + 1)) : cd_hit acc (j + 1) = cd_hit acc j + 1 := by
  show cd_hit acc j + @ite Nat (acc (j + 1)) (Classical.propDecidable _) 1 0 = _
  rw [if_pos h]
theorem cd_h0 {acc : Nat → Prop} {j : Nat} (h : ¬ acc (j + 1)) : cd_hit acc (j + 1) = cd_hit acc j := by
  show cd_hit acc j + @ite Nat (acc (j + 1)) (Classical.propDecidable _) 1 0 = _
  rw [if_neg h, Nat.add_zero]
variable {L b n rm w len mode x t : Nat} {xs : Nat → Int32} {bs : Nat → Nat} {aC aL aT aE aB aF iE iF iL hx : Nat → Int32} {fol xH : Int32} {st : Prop} {H : Nat → Nat → Prop}
theorem cd_enb {p : Nat} (T : cd_ST L xs b n rm w fol bs aC aL aT aE aB aF iE iF iL) (hp : p < 4) (h : cd_en L xs b st w fol H p) : p < n := by
  obtain ⟨n4, S1, F1, R1⟩ := T
  rcases h with ⟨_, h⟩ | ⟨q, q4, _, h⟩
  · exact R1.2.2.2.2.1 p hp h
  · obtain ⟨z1, z2⟩ := (F1.1 q p q4 hp).mp h
    exact F1.2 q z1 p hp z2
theorem cd_CC {q : Nat} (hq : q < n) : cr_C hx (cl_l L xs b) (cl_t L xs b) bs q ↔ cd_C L xs b (cd_H L xs b n bs hx) q := by
  constructor
  · rintro ⟨v, v1, v2, v3, v4⟩
    exact ⟨v, v2, hq, v1, v3, v4⟩
  · rintro ⟨v, v2, _, v1, v3, v4⟩
    exact ⟨v, v1, v2, v3, v4⟩
theorem cd_m2 (hm : mode = 1 ∨ mode = 2) : nI mode = 2 ↔ mode = 2 := nI_eq (b := 2) (by omega) (by decide)
theorem cd_l0 {l : Nat} (hl : l < 2 ^ 31) : nI l = 0 ↔ l = 0 := nI_eq (b := 0) hl (by decide)
theorem cd_EE {p : Nat} (T : cd_ST L xs b n rm w fol bs aC aL aT aE aB aF iE iF iL) (hm : mode = 1 ∨ mode = 2) (hl : len < 2 ^ 31) (hp : p < n) :
    cr_xn (nI mode) (nI len) n (cr_C hx (cl_l L xs b) (cl_t L xs b) bs) aF iF p ↔ cd_en L xs b (mode = 2 ∨ len = 0) w fol (cd_H L xs b n bs hx) p := by
  obtain ⟨n4, S1, F1, R1⟩ := T
  unfold cr_xn cd_en
  rw [cd_m2 hm, cd_l0 hl, R1.2.2.1 p (by omega)]
  constructor
  · rintro (⟨k1, k2⟩ | ⟨q, q1, q2, q3⟩)
    · exact Or.inl ⟨k1, k2.2⟩
    · exact Or.inr ⟨q, by omega, (cd_CC q1).mp q2, (F1.1 q p (by omega) (by omega)).mpr ⟨q1, q3⟩⟩
  · rintro (⟨k1, k2⟩ | ⟨q, q1, q2, q3⟩)
    · exact Or.inl ⟨k1, by omega, k2⟩
    · obtain ⟨z1, z2⟩ := (F1.1 q p q1 (by omega)).mp q3
      exact Or.inr ⟨q, z1, (cd_CC z1).mpr q2, z2⟩
theorem cd_AA (T : cd_ST L xs b n rm w fol bs aC aL aT aE aB aF iE iF iL) (hm : mode = 1 ∨ mode = 2) (hl : len < 2 ^ 31) :
    cr_xa (nI mode) (nI len) n (cr_C hx (cl_l L xs b) (cl_t L xs b) bs) iE iL ↔ cd_a L xs b (mode = 2 ∨ len = 0) w (cd_H L xs b n bs hx) := by
  obtain ⟨n4, S1, F1, R1⟩ := T
  unfold cr_xa cd_a
  rw [cd_m2 hm, cd_l0 hl, R1.2.1]
  constructor
  · rintro (k | ⟨q, q1, q2, q3⟩)
    · exact Or.inl k
    · exact Or.inr ⟨q, by omega, (cd_CC q1).mp q3, ((R1.2.2.2.1 q (by omega)).mp q2).2⟩
  · rintro (k | ⟨q, q1, q2, q3⟩)
    · exact Or.inl k
    · have hq := R1.2.2.2.2.2 q q1 q3
      exact Or.inr ⟨q, hq, (R1.2.2.2.1 q (by omega)).mpr ⟨q1, q3⟩, (cd_CC hq).mpr q2⟩
theorem cd_WW {g : Nat → Int32} (T : cd_ST L xs b n rm w fol bs aC aL aT aE aB aF iE iF iL) (hm : mode = 1 ∨ mode = 2) (hl : len < 2 ^ 31)
    (hg : ∀ q, q < n → ∀ v, 1 ≤ v → v ≤ cl_t L xs b q → (¬ g (bs q + v - 1) = 0 ↔ cr_W aC aE hx (cl_t L xs b) bs (cr_xn (nI mode) (nI len) n (cr_C hx (cl_l L xs b) (cl_t L xs b) bs) aF iF) x q v)) :
    cd_H L xs b n bs g = cd_W L xs b n (mode = 2 ∨ len = 0) w fol x (cd_H L xs b n bs hx) := by
  funext p v
  apply propext
  obtain ⟨_, S1, _, _⟩ := id T
  constructor
  · rintro ⟨p1, v1, v2, v3⟩
    obtain ⟨a1, a2, a3⟩ := S1.2.1 p p1
    obtain ⟨k1, k2⟩ := (hg p p1 v v1 v2).mp v3
    rw [a1] at k1
    refine ⟨p1, v1, v2, k1, ?_⟩
    rcases k2 with k | k | k
    · exact Or.inl ⟨k.1, (cd_EE T hm hl p1).mp k.2⟩
    · refine Or.inr (Or.inl ⟨k.1, p1, by omega, by omega, ?_⟩)
      rw [show bs p + (v - 1) - 1 = bs p + v - 2 by omega]; exact k.2
    · exact Or.inr (Or.inr ⟨a2.mp k.1, k.2.1, p1, v1, v2, k.2.2⟩)
  · rintro ⟨p1, v1, v2, k1, k2⟩
    obtain ⟨a1, a2, a3⟩ := S1.2.1 p p1
    refine ⟨p1, v1, v2, (hg p p1 v v1 v2).mpr ⟨by rw [a1]; exact k1, ?_⟩⟩
    rcases k2 with k | k | k
    · exact Or.inl ⟨k.1, (cd_EE T hm hl p1).mpr k.2⟩
    · refine Or.inr (Or.inl ⟨k.1, ?_⟩)
      have := k.2.2.2.2
      rw [show bs p + (v - 1) - 1 = bs p + v - 2 by omega] at this; exact this
    · exact Or.inr (Or.inr ⟨a2.mpr k.1, k.2.1, k.2.2.2.2.2⟩)
/-- X's feed -/
theorem cd_feed {post : Int32 → St2 → Prop} (T : cd_ST L xs b n rm w fol bs aC aL aT aE aB aF iE iF iL) (hm : mode = 1 ∨ mode = 2) (hx8 : x < 8) (t1 : 1 ≤ t) (t16 : t ≤ 16) (hl : len + t ≤ 4000) (x01 : cr_01 hx)
    (HP : ∀ g hit, cr_01 g → cd_H L xs b n bs g = cd_Q L xs b n mode len w fol x (cd_H L xs b n bs hx) t → post (nI (cd_hit (fun j => cd_a L xs b (mode = 2) w (cd_Q L xs b n mode len w fol x (cd_H L xs b n bs hx) j)) t)) (nI 4, nI 224, nI mode, nI 1, nI n, nI rm, nI (len + t), hit, aC, aL, aT, aE, aB, aF, iE, iF, iL, g)) :
    wpX_feed post (nI 4, nI 224, nI mode, nI 1, nI n, nI rm, nI len, xH, aC, aL, aT, aE, aB, aF, iE, iF, iL, hx) (nI x) (nI t) := by
  have G := T.2.1.1
  have loop : ∀ d j g hit, j + d = t → cr_01 g → cd_H L xs b n bs g = cd_Q L xs b n mode len w fol x (cd_H L xs b n bs hx) j →
      wX_feed_50 post (nI x) (nI t) (d + 1) (nI (cd_hit (fun j => cd_a L xs b (mode = 2) w (cd_Q L xs b n mode len w fol x (cd_H L xs b n bs hx) j)) j)) (nI j) (nI 4) (nI 224) (nI mode) (nI 1) (nI n) (nI rm) (nI (len + j)) hit aC aL aT aE aB aF iE iF iL g := by
    intro d
    induction d with
    | zero =>
      intro j g hit hj g01 hg
      have e : j = t := by omega
      subst e
      exact br_t (nI_le (Nat.le_refl j) (by omega)) (HP g hit g01 hg)
    | succ d ih =>
      intro j g hit hj g01 hg
      refine br_f (nI_ge (by omega) (by omega)) (cx_ap hx8 G g01 (fun g' g01' hgW => ?_))
      rw [nI_1 (len + j)]
      have hW : cd_H L xs b n bs g' = cd_Q L xs b n mode len w fol x (cd_H L xs b n bs hx) (j + 1) := by
        rw [cd_WW T hm (by omega) hgW, hg]; rfl
      have hA : cr_xa (nI mode) (nI (len + j + 1)) n (cr_C g' (cl_l L xs b) (cl_t L xs b) bs) iE iL ↔ cd_a L xs b (mode = 2) w (cd_Q L xs b n mode len w fol x (cd_H L xs b n bs hx) (j + 1)) := by
        rw [cd_AA T hm (by omega), hW]
        have : (mode = 2 ∨ len + j + 1 = 0) ↔ mode = 2 := by omega
        unfold cd_a
        rw [this]
      refine cx_acc G (fun z => br_f cr_10 (nm_r (nI_1 _) (nm_r (nI_1 j) ?_))) (fun z => br_t rfl (nm_r (nI_1 j) ?_))
      · have := ih (j + 1) g' (nI (len + j + 1)) (by omega) g01' hW
        rw [cd_h1 (acc := fun j => cd_a L xs b (mode = 2) w (cd_Q L xs b n mode len w fol x (cd_H L xs b n bs hx) j)) (hA.mp z)] at this
        exact this
      · have := ih (j + 1) g' hit (by omega) g01' hW
        rw [cd_h0 (acc := fun j => cd_a L xs b (mode = 2) w (cd_Q L xs b n mode len w fol x (cd_H L xs b n bs hx) j)) (fun q => z (hA.mpr q))] at this
        exact this
  have hm0 : ¬ nI mode = 0 := nI_ne0 (by omega) (by omega)
  have ea : nI len + nI t = nI (len + t) := nI_add len t
  exact br_f hm0 (br_f (nI_pos (by omega)) (br_f (nI_nlt (a := 7) (by omega) (by omega)) (br_f cr_10 (br_f (nI_nlt (b := 1) t1 (by omega)) (br_t (nI_le (b := 16) t16 (by decide)) (br_t (by rw [ea]; exact nI_le (b := 4000) hl (by decide)) ⟨t + 1, loop t 0 hx xH (by omega) x01 rfl⟩))))))
end CDR
end
section
section CDS
/-! the law's own steps -/
abbrev cd_T418 : Type := Int32 → Int32 → Int32 → Int64 → Int64 → Int64 → Int64 → Int32 → Int32 → Int32 → Int32 → Int32 → Int32 → Int32 → Int32 → Int32 → (Nat → Int32) → (Nat → Int32) → (Nat → Int32) → (Nat → Int32) → (Nat → Int32) → (Nat → Int32) → (Nat → Int32) → (Nat → Int32) → (Nat → Int32) → (Nat → Int32) → Prop
variable {L b n rm w len mode x t : Nat} {xs : Nat → Int32} {bs : Nat → Nat} {aC aL aT aE aB aF iE iF iL hx : Nat → Int32} {fol xH : Int32} {st : Prop} {H : Nat → Nat → Prop} {c : Nat → Nat}
variable {post : Int32 → Prop} {kc ks : Nat} {J14 : cb_T14} {J418 : cd_T418} {x2 x21 x25 x33 : Int32}
def cd_4 (a0 a1 a2 a3 : Nat) : Nat → Nat
  | 0 => a0
  | 1 => a1
  | 2 => a2
  | _ => a3
theorem cd_GW {p c' : Nat} {e : Int32} (T : cd_ST L xs b n rm w fol bs aC aL aT aE aB aF iE iF iL) (hp : p < 4) (hc : cd_c c H) (Hr : ∀ p v, H p v → p < n ∧ 1 ≤ v ∧ v ≤ cl_t L xs b p) (he : bt e p = true ↔ cd_en L xs b st w fol H p)
    (hG : ∀ v, c'.testBit v = true ↔ cl_G L xs b p (c p) e x v) : ∀ v, c'.testBit v = true ↔ cd_W L xs b n st w fol x H p v := by
  intro v
  have tb := cl_tb (L := L) (xs := xs) (b := b) (p := p)
  rw [hG v]
  constructor
  · rintro ⟨m, k | ⟨k1, k2, k3⟩ | ⟨k1, k2, k3⟩⟩
    · have hen := he.mp k.2
      exact ⟨cd_enb T hp hen, by omega, by omega, m, Or.inl ⟨k.1, hen⟩⟩
    · have hH := ((hc p hp).2 (v - 1)).mp k3
      have hr := Hr p (v - 1) hH
      exact ⟨hr.1, k1, k2, m, Or.inr (Or.inl ⟨by omega, hH⟩)⟩
    · have hH := ((hc p hp).2 v).mp k3
      have hr := Hr p v hH
      exact ⟨hr.1, hr.2.1, hr.2.2, m, Or.inr (Or.inr ⟨k1, k2, hH⟩)⟩
  · rintro ⟨p1, v1, v2, m, k | ⟨k1, k2⟩ | ⟨k1, k2, k3⟩⟩
    · exact ⟨m, Or.inl ⟨k.1, he.mpr k.2⟩⟩
    · exact ⟨m, Or.inr (Or.inl ⟨v1, v2, ((hc p hp).2 (v - 1)).mpr k2⟩)⟩
    · exact ⟨m, Or.inr (Or.inr ⟨k1, k2, ((hc p hp).2 v).mpr k3⟩)⟩
theorem cd_Qr (Hr : ∀ p v, H p v → p < n ∧ 1 ≤ v ∧ v ≤ cl_t L xs b p) : ∀ j p v, cd_Q L xs b n mode len w fol x H j p v → p < n ∧ 1 ≤ v ∧ v ≤ cl_t L xs b p := by
  intro j
  cases j with
  | zero => exact Hr
  | succ j => exact fun p v h => ⟨h.1, h.2.1, h.2.2.1⟩
theorem cd_Hr : ∀ p v, cd_H L xs b n bs hx p v → p < n ∧ 1 ≤ v ∧ v ≤ cl_t L xs b p := fun p v h => ⟨h.1, h.2.1, h.2.2.1⟩
theorem cd_exC {ex : Int32} (hc : cd_c c H) (hex : ∀ i, i < 32 → (bt ex i = true ↔ i < 4 ∧ ∃ v, cl_l L xs b i ≤ v ∧ (c i).testBit v = true)) {q : Nat} (hq : q < 4) : bt ex q = true ↔ cd_C L xs b H q := by
  rw [hex q (by omega)]
  constructor
  · rintro ⟨_, v, v1, v2⟩
    exact ⟨v, v1, ((hc q hq).2 v).mp v2⟩
  · rintro ⟨v, v1, v2⟩
    exact ⟨hq, v, v1, ((hc q hq).2 v).mpr v2⟩
theorem cd_990 (T : cd_ST L xs b n rm w fol bs aC aL aT aE aB aF iE iF iL) (hL : L ≤ 260) (hb : b < 1000) (hm : mode = 1 ∨ mode = 2) (hx8 : x < 8) (t1 : 1 ≤ t) (t16 : t ≤ 16) (hl : len + t ≤ 4000) (x01 : cr_01 hx)
    (HJ : ∀ c g hit, cr_01 g → cd_c c (cd_H L xs b n bs g) → J418 x2 (nI mode) (nI (len + t)) (lN (c 0)) (lN (c 1)) (lN (c 2)) (lN (c 3)) x21 (nI 4) (nI 224) (nI mode) (nI 1) (nI n) (nI rm) (nI (len + t)) hit aC aL aT aE aB aF iE iF iL g) :
    ∀ d j c, j + d = t → cd_c c (cd_Q L xs b n mode len w fol x (cd_H L xs b n bs hx) j) →
    wL_law_990 post L xs J14 J418 x2 (nI b) (nI n) fol (nI w) (nI mode) x21 (nI x) (nI t) kc ks (nI 4) (nI 224) (nI mode) (nI 1) (nI n) (nI rm) (nI len) xH aC aL aT aE aB aF iE iF iL hx (d + 1) (nI (len + j)) (lN (c 0)) (lN (c 1)) (lN (c 2)) (lN (c 3)) (nI (cd_hit (fun j => cd_a L xs b (mode = 2) w (cd_Q L xs b n mode len w fol x (cd_H L xs b n bs hx) j)) j)) (nI j) := by
  have w512 := T.2.2.2.1
  intro d
  induction d with
  | zero =>
    intro j c hj hc
    have e : j = t := by omega
    subst e
    exact br_t (nI_le (Nat.le_refl j) (by omega)) (cd_feed T hm hx8 t1 t16 hl x01 (fun g hit g01 hg => br_t rfl (HJ c g hit g01 (by rw [hg]; exact hc))))
  | succ d ih =>
    intro j c hj hc
    have Hr : ∀ p v, cd_Q L xs b n mode len w fol x (cd_H L xs b n bs hx) j p v → p < n ∧ 1 ≤ v ∧ v ≤ cl_t L xs b p := cd_Qr cd_Hr j
    refine br_f (nI_ge (by omega) (by omega)) (cl_ex hL hb (fun p hp => (hc p hp).1) (fun ex hex => cl_fol (fun fo hfo => ?_)))
    have hfo' : ∀ p, p < 4 → (bt fo p = true ↔ ∃ q, q < 4 ∧ cd_C L xs b (cd_Q L xs b n mode len w fol x (cd_H L xs b n bs hx) j) q ∧ bt fol (4 * q + p) = true) := by
      intro p hp
      rw [hfo p (by omega)]
      constructor
      · rintro ⟨_, q, q1, q2, q3⟩
        exact ⟨q, q1, (cd_exC hc hex q1).mp q2, q3⟩
      · rintro ⟨q, q1, q2, q3⟩
        exact ⟨hp, q, q1, (cd_exC hc hex q1).mpr q2, q3⟩
    have l1112 : ∀ (c' : Nat → Nat) (o : Int32), cd_c c' (cd_Q L xs b n mode len w fol x (cd_H L xs b n bs hx) (j + 1)) → (¬ o = 0 ↔ mode = 2) →
        wL_law_1112 post L xs J14 J418 (wL_law_990 post L xs J14 J418 x2 (nI b) (nI n) fol (nI w) (nI mode) x21 (nI x) (nI t) kc ks (nI 4) (nI 224) (nI mode) (nI 1) (nI n) (nI rm) (nI len) xH aC aL aT aE aB aF iE iF iL hx (d + 1)) x2 (nI b) (nI n) fol (nI w) (nI mode) (nI (len + j + 1)) (lN (c' 0)) (lN (c' 1)) (lN (c' 2)) (lN (c' 3)) x21 (nI x) (nI t) (nI (cd_hit (fun j => cd_a L xs b (mode = 2) w (cd_Q L xs b n mode len w fol x (cd_H L xs b n bs hx) j)) j)) (nI j) o (nI w) kc ks (nI 4) (nI 224) (nI mode) (nI 1) (nI n) (nI rm) (nI len) xH aC aL aT aE aB aF iE iF iL hx := by
      intro c' o hc' ho
      unfold wL_law_1112
      refine cl_ex hL hb (fun p hp => (hc' p hp).1) (fun ex' hex' => ?_)
      have hacc : ((¬ o = 0 ∧ w.testBit 8 = true) ∨ ∃ q, q < 4 ∧ bt ex' q = true ∧ w.testBit q = true) ↔ cd_a L xs b (mode = 2) w (cd_Q L xs b n mode len w fol x (cd_H L xs b n bs hx) (j + 1)) := by
        unfold cd_a
        rw [ho]
        constructor
        · rintro (k | ⟨q, q1, q2, q3⟩)
          · exact Or.inl k
          · exact Or.inr ⟨q, q1, (cd_exC hc' hex' q1).mp q2, q3⟩
        · rintro (k | ⟨q, q1, q2, q3⟩)
          · exact Or.inl k
          · exact Or.inr ⟨q, q1, (cd_exC hc' hex' q1).mpr q2, q3⟩
      have nxt := ih (j + 1) c' (by omega) hc'
      refine cl_acc w512 (fun z => br_f cr_10 (nm_r (nI_1 _) (nm_r (nI_1 j) ?_))) (fun z => br_t rfl (nm_r (nI_1 j) ?_))
      · rw [cd_h1 (acc := fun j => cd_a L xs b (mode = 2) w (cd_Q L xs b n mode len w fol x (cd_H L xs b n bs hx) j)) (hacc.mp z)] at nxt
        exact nxt
      · rw [cd_h0 (acc := fun j => cd_a L xs b (mode = 2) w (cd_Q L xs b n mode len w fol x (cd_H L xs b n bs hx) j)) (fun q => z (hacc.mpr q))] at nxt
        exact nxt
    have l1040 : ∀ e : Int32, (∀ p, p < 4 → (bt e p = true ↔ cd_en L xs b (mode = 2 ∨ len + j = 0) w fol (cd_Q L xs b n mode len w fol x (cd_H L xs b n bs hx) j) p)) →
        wL_law_1040 post L xs J14 J418 (wL_law_990 post L xs J14 J418 x2 (nI b) (nI n) fol (nI w) (nI mode) x21 (nI x) (nI t) kc ks (nI 4) (nI 224) (nI mode) (nI 1) (nI n) (nI rm) (nI len) xH aC aL aT aE aB aF iE iF iL hx (d + 1)) x2 (nI b) (nI n) fol (nI w) (nI mode) (nI (len + j)) (lN (c 0)) (lN (c 1)) (lN (c 2)) (lN (c 3)) x21 e (nI x) (nI t) (nI (cd_hit (fun j => cd_a L xs b (mode = 2) w (cd_Q L xs b n mode len w fol x (cd_H L xs b n bs hx) j)) j)) (nI j) kc ks (nI 4) (nI 224) (nI mode) (nI 1) (nI n) (nI rm) (nI len) xH aC aL aT aE aB aF iE iF iL hx := by
      intro e he
      unfold wL_law_1040
      refine cl_grow (p := 0) hL hb (by decide) hx8 (hc 0 (by decide)).1 (fun a0 s0 g0 => ?_)
      refine cl_grow (p := 1) hL hb (by decide) hx8 (hc 1 (by decide)).1 (fun a1 s1 g1 => ?_)
      refine cl_grow (p := 2) hL hb (by decide) hx8 (hc 2 (by decide)).1 (fun a2 s2 g2 => ?_)
      refine cl_grow (p := 3) hL hb (by decide) hx8 (hc 3 (by decide)).1 (fun a3 s3 g3 => nm_r (nI_1 (len + j)) ?_)
      have hc' : cd_c (cd_4 a0 a1 a2 a3) (cd_Q L xs b n mode len w fol x (cd_H L xs b n bs hx) (j + 1)) := by
        intro p hp
        have hp' : p = 0 ∨ p = 1 ∨ p = 2 ∨ p = 3 := by omega
        rcases hp' with rfl | rfl | rfl | rfl
        · exact ⟨s0, cd_GW T (by decide) hc Hr (he 0 (by decide)) g0⟩
        · exact ⟨s1, cd_GW T (by decide) hc Hr (he 1 (by decide)) g1⟩
        · exact ⟨s2, cd_GW T (by decide) hc Hr (he 2 (by decide)) g2⟩
        · exact ⟨s3, cd_GW T (by decide) hc Hr (he 3 (by decide)) g3⟩
      by_cases m2 : mode = 2
      · exact br_t ((cd_m2 hm).mpr m2) (l1112 (cd_4 a0 a1 a2 a3) 1 hc' ⟨fun _ => m2, fun _ => cr_10⟩)
      · exact br_f (fun q => m2 ((cd_m2 hm).mp q)) (l1112 (cd_4 a0 a1 a2 a3) 0 hc' ⟨fun q => absurd rfl q, fun q => absurd q m2⟩)
    have l1028 : (mode = 2 ∨ len + j = 0) → wL_law_1028 post L xs J14 J418 (wL_law_990 post L xs J14 J418 x2 (nI b) (nI n) fol (nI w) (nI mode) x21 (nI x) (nI t) kc ks (nI 4) (nI 224) (nI mode) (nI 1) (nI n) (nI rm) (nI len) xH aC aL aT aE aB aF iE iF iL hx (d + 1)) x2 (nI b) (nI n) fol (nI w) (nI mode) (nI (len + j)) (lN (c 0)) (lN (c 1)) (lN (c 2)) (lN (c 3)) x21 fo (nI x) (nI t) (nI (cd_hit (fun j => cd_a L xs b (mode = 2) w (cd_Q L xs b n mode len w fol x (cd_H L xs b n bs hx) j)) j)) (nI j) kc ks (nI 4) (nI 224) (nI mode) (nI 1) (nI n) (nI rm) (nI len) xH aC aL aT aE aB aF iE iF iL hx := by
      intro z
      refine nm_e (l1040 _ (fun p hp => ?_))
      rw [cr_bo, hfo' p hp, cl_hi (by omega)]
      unfold cd_en
      exact ⟨fun k => k.elim Or.inr (fun k => Or.inl ⟨z, k.2⟩), fun k => k.elim (fun k => Or.inr ⟨hp, k.2⟩) Or.inl⟩
    by_cases m2 : mode = 2
    · exact br_t ((cd_m2 hm).mpr m2) (l1028 (Or.inl m2))
    · refine br_f (fun q => m2 ((cd_m2 hm).mp q)) ?_
      by_cases l0 : len + j = 0
      · exact br_t ((cd_l0 (by omega)).mpr l0) (l1028 (Or.inr l0))
      · refine br_f (fun q => l0 ((cd_l0 (by omega)).mp q)) (l1040 _ (fun p hp => ?_))
        rw [hfo' p hp]
        unfold cd_en
        exact ⟨Or.inr, fun k => k.elim (fun k => absurd k.1 (fun q => q.elim m2 l0)) id⟩
/-- a letter is chosen -/
theorem cd_950 (K : ∀ x, x < 8 → ∃ fu990 : Nat, wL_law_990 post L xs J14 J418 x2 (nI b) (nI n) fol (nI w) (nI mode) x21 (nI x) (nI t) kc ks (nI 4) (nI 224) (nI mode) (nI 1) (nI n) (nI rm) (nI len) xH aC aL aT aE aB aF iE iF iL hx fu990 (nI len) (lN (c 0)) (lN (c 1)) (lN (c 2)) (lN (c 3)) 0 0) :
    ∀ m j x, 8 - j < m → j ≤ 8 → x < 8 → wL_law_950 post L xs J14 J418 x2 (nI b) (nI n) fol (nI w) (nI mode) (nI len) (lN (c 0)) (lN (c 1)) (lN (c 2)) (lN (c 3)) x21 x25 (nI t) 0 x33 kc ks (nI 4) (nI 224) (nI mode) (nI 1) (nI n) (nI rm) (nI len) xH aC aL aT aE aB aF iE iF iL hx m (nI x) (nI j) := by
  intro m
  induction m with
  | zero => intro j x h; omega
  | succ m ih =>
    intro j x hm hj hx
    rcases Nat.lt_or_ge j 8 with h | h
    · refine br_f (nI_ge (b := 8) h (by decide)) ?_
      by_cases z : x33 = 0
      · exact br_t z (K x hx)
      · refine br_f z (cl_cb (by omega) (fun _ => nm_r (e' := nI ((x + 1) % 8)) ?_ (nm_r (nI_1 j) (ih (j + 1) ((x + 1) % 8) (by omega) (by omega) (by omega)))) (fun _ => K x hx))
        rw [nI_1]
        exact pk_andN (k := 3) (by omega) (by decide)
    · exact br_t (nI_le (a := 8) h (by omega)) (K x hx)
end CDS
end
section
section CDK
/-! the law's checks -/
variable {L b n rm w len mode : Nat} {xs : Nat → Int32} {bs : Nat → Nat} {aC aL aT aE aB aF iE iF iL hx : Nat → Int32} {fol xH : Int32} {c : Nat → Nat}
variable {post : Int32 → Prop} {kc ks : Nat} {J14 : cb_T14} {J418 : cd_T418} {x2 x24 : Int32}
theorem cd_hold {p v : Nat} (T : cd_ST L xs b n rm w fol bs aC aL aT aE aB aF iE iF iL) (x01 : cr_01 hx) (hp : p < n) (hv : v < 1000) (h1 : cd_H L xs b n bs hx p v → post 1) (h0 : ¬ cd_H L xs b n bs hx p v → post 0) : wpX_holds post (nI 4, nI 224, nI mode, nI 1, nI n, nI rm, nI len, xH, aC, aL, aT, aE, aB, aF, iE, iF, iL, hx) (nI p) (nI v) := by
  obtain ⟨n4, ⟨⟨g1, g2, g3⟩, _⟩, _⟩ := T
  obtain ⟨eL, eT, eB, eE, t1, t2, t3⟩ := g2 p hp
  have hi : vp_in (nI p) 12 := vp_in_nI (by omega) (by decide)
  have cp : (nI p).toNatClampNeg = p := nI_clamp (by omega)
  refine br_f (nI_pos (by omega)) (br_f (nI_ge hp (by omega)) (br_f cr_10 (pk_lt v 1 (fun z => h0 (fun q => by have := q.2.1; omega)) (fun z => ⟨hi, ?_⟩))))
  rcases Nat.lt_or_ge (cl_t L xs b p) v with h | h
  · exact br_f (by rw [cp, eT]; exact nI_ge h (by omega)) (h0 (fun q => by have := q.2.2.1; omega))
  · have e := cr_cell (aB := aB) (show p < 12 by omega) eB z
    have ce : (nI (bs p + v - 1)).toNatClampNeg = bs p + v - 1 := nI_clamp (by omega)
    refine br_t (by rw [cp, eT]; exact nI_le h (by omega)) ⟨hi, (by rw [e]; exact vp_in_nI (by omega) (by decide)), (by rw [e, ce]; exact cr_nn (x01 _)), ?_⟩
    rw [e, ce]
    rcases x01 (bs p + v - 1) with z2 | z2
    · rw [z2]; exact h0 (fun q => q.2.2.2 z2)
    · rw [z2]; exact h1 ⟨hp, z, h, by rw [z2]; exact cr_10⟩
def cd_mx (H : Nat → Prop) (v m : Nat) : Prop := (m = 0 ∨ (m < v ∧ H m)) ∧ ∀ u, m < u → u < v → ¬ H u
def cd_mn (H : Nat → Prop) (v m : Nat) : Prop := (m = 0 ∧ ∀ u, u < v → ¬ H u) ∨ (1 ≤ m ∧ m < v ∧ H m ∧ ∀ u, u < m → ¬ H u)
theorem cd_540 {J506 : Int32 → Int32 → Prop} {p : Nat} {x25 : Int32} (hL : L ≤ 260) (hb : b < 1000) (T : cd_ST L xs b n rm w fol bs aC aL aT aE aB aF iE iF iL) (x01 : cr_01 hx) (hc : cd_c c (cd_H L xs b n bs hx)) (hp : p < n) (HJ : ∀ y, J506 y (nI (p + 1))) :
    ∀ m v big small, cl_t L xs b p + 2 - v < m → v ≤ cl_t L xs b p + 2 → cd_mx (cd_H L xs b n bs hx p) v big → cd_mn (cd_H L xs b n bs hx p) v small →
    wL_law_540 post L xs J14 J418 J506 x2 (nI b) (nI n) fol (nI w) (nI mode) (nI len) (lN (c 0)) (lN (c 1)) (lN (c 2)) (lN (c 3)) x24 x25 (nI p) (lN (c p)) kc ks (nI 4) (nI 224) (nI mode) (nI 1) (nI n) (nI rm) (nI len) xH aC aL aT aE aB aF iE iF iL hx m (nI (cr_ct (fun j => hx (bs p + j)) (if v - 1 ≤ cl_t L xs b p then v - 1 else cl_t L xs b p))) (nI big) (nI small) (nI v) := by
  obtain ⟨n4, ⟨G, S2, S3⟩, _, _⟩ := id T
  obtain ⟨eL, eT, eB, eE, t1, t2, t3⟩ := G.2.1 p hp
  have hp4 : p < 4 := by omega
  have tb := cl_tb (L := L) (xs := xs) (b := b) (p := p)
  have hi : vp_in (nI p) 12 := vp_in_nI (by omega) (by decide)
  have cp : (nI p).toNatClampNeg = p := nI_clamp (by omega)
  have l667 : wL_law_667 post L xs J14 J418 J506 x2 (nI b) (nI n) fol (nI w) (nI mode) (nI len) (lN (c 0)) (lN (c 1)) (lN (c 2)) (lN (c 3)) x24 x25 (nI p) kc ks (nI 4) (nI 224) (nI mode) (nI 1) (nI n) (nI rm) (nI len) xH aC aL aT aE aB aF iE iF iL hx := by
    unfold wL_law_667
    exact cl_mask hL hb hp4 (nm_e (nm_r (nI_1 p) (HJ _)))
  intro m
  induction m with
  | zero => intro v big small h; omega
  | succ m ih =>
    intro v big small hm hv hbig hsmall
    unfold wL_law_540
    refine cl_top hL hb hp4 (pk_lt (cl_t L xs b p + 1) v (fun z => ?_) (fun z => ?_) (nI_1 _))
    · have ev : v = cl_t L xs b p + 2 := by omega
      subst ev
      rw [if_neg (show ¬ cl_t L xs b p + 2 - 1 ≤ cl_t L xs b p by omega)]
      refine br_f (nI_pos (by omega)) (br_f (nI_ge hp (by omega)) (br_f cr_10 ⟨cl_t L xs b p + 1, cx_szl G hp (br_t rfl ?_) (cl_t L xs b p + 1) 0 (by omega) (by omega)⟩))
      refine br_f (nI_pos (by omega)) (br_f (nI_ge hp (by omega)) (br_f cr_10 ⟨hi, nm_r (e' := nI (cl_t L xs b p)) (by rw [cp, eT]) ⟨cl_t L xs b p + 1, cx_lgl G hp (fun mm hmx => br_t ?_ ?_) (cl_t L xs b p) (cl_t L xs b p + 1) (by omega) (Nat.le_refl _) (fun u u1 u2 => by omega)⟩⟩))
      · congr 1
        obtain ⟨a1, a2, a3⟩ := hmx
        obtain ⟨b1, b2⟩ := hbig
        rcases Nat.lt_trichotomy mm big with q | q | q
        · have hH : cd_H L xs b n bs hx p big := b1.elim (fun z => absurd q (by omega)) (fun z => z.2)
          exact absurd (a3 big q hH.2.2.1) hH.2.2.2
        · exact q
        · have hf : ¬ hx (bs p + mm - 1) = 0 := a2.elim (fun z => absurd q (by omega)) id
          exact absurd ⟨hp, by omega, a1, hf⟩ (b2 mm q (by omega))
      · refine br_f (nI_pos (by omega)) (br_f (nI_ge hp (by omega)) (br_f cr_10 ⟨cl_t L xs b p + 1, cx_sml G hp (fun mn hmn => br_t ?_ ?_) (cl_t L xs b p + 1) 1 (by omega) (by omega) (by omega) (fun u u1 u2 => by omega)⟩))
        · congr 1
          rcases hmn with ⟨a1, a2⟩ | ⟨a1, a2, a3, a4⟩
          · rcases hsmall with ⟨b1, b2⟩ | ⟨b1, b2, b3, b4⟩
            · omega
            · exact absurd (a2 small b3.2.1 b3.2.2.1) b3.2.2.2
          · rcases hsmall with ⟨b1, b2⟩ | ⟨b1, b2, b3, b4⟩
            · exact absurd ⟨hp, a1, a2, a3⟩ (b2 mn (by omega))
            · rcases Nat.lt_trichotomy mn small with q | q | q
              · exact absurd ⟨hp, a1, a2, a3⟩ (b4 mn q)
              · exact q
              · exact absurd (a4 small b1 q) b3.2.2.2
        · exact br_c (fun _ => br_c (fun _ => nm_r (nI_1 p) (HJ _)) (fun _ => l667)) (fun _ => l667)
    · have bit : ∀ {A B : Prop}, (¬ cd_H L xs b n bs hx p v → A) → (cd_H L xs b n bs hx p v → B) → (((((lN (c p)).toUInt64 >>> ((nI v).toInt64.toUInt64 &&& Int64.toUInt64 63)).toInt64) &&& 1) = 0 → A) ∧ (¬ ((((lN (c p)).toUInt64 >>> ((nI v).toInt64.toUInt64 &&& Int64.toUInt64 63)).toInt64) &&& 1) = 0 → B) := by
        intro A B hA hB
        obtain ⟨c63, cb⟩ := hc p hp4
        have e1 : ((((lN (c p)).toUInt64 >>> ((nI v).toInt64.toUInt64 &&& Int64.toUInt64 63)).toInt64) &&& 1) = lN (c p / 2 ^ v % 2) := wb_bit (by omega) (by omega)
        rw [e1]
        have e2 : lN (c p / 2 ^ v % 2) = 0 ↔ c p / 2 ^ v % 2 = 0 := pk_lEQ (b := 0) (by omega) (by decide)
        rw [e2]
        have e3 := cb v
        rw [Nat.testBit_eq_decide_div_mod_eq, decide_eq_true_iff] at e3
        exact ⟨fun q => hA (fun k => by rw [e3.mpr k] at q; exact absurd q (by decide)), fun q => hB (e3.mp (by clear e3 hA hB hbig hsmall; omega))⟩
      refine bit (fun q => ?_) (fun q => ?_)
      · refine cd_hold T x01 hp (by omega) (fun k => absurd k q) (fun _ => br_t rfl (br_t rfl (nm_r (nI_1 v) ?_)))
        have nx := ih (v + 1) big small (by omega) (by omega) ⟨hbig.1.elim Or.inl (fun k => Or.inr ⟨by omega, k.2⟩), fun u u1 u2 => ?_⟩ ?_
        · have ec : cr_ct (fun j => hx (bs p + j)) (if v + 1 - 1 ≤ cl_t L xs b p then v + 1 - 1 else cl_t L xs b p) = cr_ct (fun j => hx (bs p + j)) (if v - 1 ≤ cl_t L xs b p then v - 1 else cl_t L xs b p) := by
            by_cases v0 : v = 0
            · subst v0; rfl
            · by_cases vt : v ≤ cl_t L xs b p
              · rw [if_pos (by omega), if_pos (by omega)]
                obtain ⟨u, rfl⟩ : ∃ u, v = u + 1 := ⟨v - 1, by omega⟩
                have hz : hx (bs p + u) = 0 := by
                  rcases x01 (bs p + u) with k | k
                  · exact k
                  · exact absurd ⟨hp, by omega, vt, by rw [show bs p + (u + 1) - 1 = bs p + u by omega, k]; exact cr_10⟩ q
                show cr_ct (fun j => hx (bs p + j)) u + (if hx (bs p + u) = 0 then 0 else 1) = cr_ct (fun j => hx (bs p + j)) u
                rw [if_pos hz, Nat.add_zero]
              · rw [if_neg (by omega)]
                by_cases ve : v - 1 ≤ cl_t L xs b p
                · rw [if_pos ve, show v - 1 = cl_t L xs b p by omega]
                · rw [if_neg ve]
          rw [ec] at nx
          exact nx
        · by_cases eu : u = v
          · subst eu; exact q
          · exact hbig.2 u u1 (by omega)
        · rcases hsmall with ⟨b1, b2⟩ | ⟨b1, b2, b3⟩
          · refine Or.inl ⟨b1, fun u hu => ?_⟩
            by_cases eu : u = v
            · subst eu; exact q
            · exact b2 u (by omega)
          · exact Or.inr ⟨b1, by omega, b3⟩
      · obtain ⟨q1, q2, q3, q4⟩ := id q
        have ec : cr_ct (fun j => hx (bs p + j)) (if v + 1 - 1 ≤ cl_t L xs b p then v + 1 - 1 else cl_t L xs b p) = cr_ct (fun j => hx (bs p + j)) (if v - 1 ≤ cl_t L xs b p then v - 1 else cl_t L xs b p) + 1 := by
          rw [if_pos (by omega), if_pos (by omega)]
          obtain ⟨u, rfl⟩ : ∃ u, v = u + 1 := ⟨v - 1, by omega⟩
          rw [show bs p + (u + 1) - 1 = bs p + u by omega] at q4
          show cr_ct (fun j => hx (bs p + j)) u + (if hx (bs p + u) = 0 then 0 else 1) = cr_ct (fun j => hx (bs p + j)) u + 1
          rw [if_neg q4]
        have nx : ∀ small', cd_mn (cd_H L xs b n bs hx p) (v + 1) small' → _ := fun small' hs => ih (v + 1) v small' (by omega) (by omega) ⟨Or.inr ⟨by omega, q⟩, fun u u1 u2 => by omega⟩ hs
        rw [ec] at nx
        refine cd_hold T x01 hp (by omega) (fun _ => br_t rfl (br_f cr_10 (nm_r (nI_1 _) (pk_eq small 0 (fun s0 => nm_r (nI_1 v) (nx v ?_)) (fun s0 => nm_r (nI_1 v) (nx small ?_)) rfl rfl ?_ (by decide))))) (fun k => absurd q k)
        · rcases hsmall with ⟨b1, b2⟩ | ⟨b1, b2, b3⟩
          · exact Or.inr ⟨q2, by omega, q, b2⟩
          · omega
        · rcases hsmall with ⟨b1, b2⟩ | ⟨b1, b2, b3⟩
          · exact absurd b1 s0
          · exact Or.inr ⟨b1, by omega, b3⟩
        · rcases hsmall with ⟨b1, b2⟩ | ⟨b1, b2, b3⟩
          · omega
          · omega
end CDK
end
section
section CDC
/-! the law's commands -/
variable {L b n rm w len mode k : Nat} {xs : Nat → Int32} {bs : Nat → Nat} {aC aL aT aE aB aF iE iF iL hx : Nat → Int32} {fol xH : Int32} {c : Nat → Nat}
variable {post : Int32 → Prop} {kc ks : Nat} {J14 : cb_T14} {J418 : cd_T418} {x24 x25 : Int32} {xL xW xP xC xR xN : Int32}
theorem cx_bgn {post : Int32 → St2 → Prop} {md : Nat} (hm : md = 1 ∨ md = 2) (x01 : cr_01 hx) (H : ∀ g hit, cr_01 g → (∀ j, j < 224 → g j = 0) → post 0 (xL, xW, nI md, nI 1, xC, xR, 0, hit, aC, aL, aT, aE, aB, aF, iE, iF, iL, g)) : wpX_begin post (xL, xW, xP, nI 1, xC, xR, xN, xH, aC, aL, aT, aE, aB, aF, iE, iF, iL, hx) (nI md) := by
  have m13 : wX_begin_13 post (nI md) xL xW xP (nI 1) xC xR xN xH aC aL aT aE aB aF iE iF iL hx := br_t rfl (cx_dr x01 (fun g g01 g0 => br_c (fun _ => H g (-1) g01 g0) (fun _ => H g 0 g01 g0)))
  rcases hm with rfl | rfl
  · exact br_t rfl m13
  · exact br_f (by decide) (br_t rfl m13)
theorem cd_c0 {g : Nat → Int32} (T : cd_ST L xs b n rm w fol bs aC aL aT aE aB aF iE iF iL) (g0 : ∀ j, j < 224 → g j = 0) : cd_c (fun _ => 0) (cd_H L xs b n bs g) := by
  intro p hp
  refine ⟨Nat.two_pow_pos 63, fun v => ?_⟩
  show (0 : Nat).testBit v = true ↔ _
  rw [Nat.zero_testBit]
  refine ⟨fun z => absurd z (by decide), fun z => ?_⟩
  obtain ⟨z1, z2, z3, z4⟩ := z
  have := (T.2.1.1.2.1 p z1).2.2.2.2.2.2
  exact absurd (g0 _ (by omega)) z4
theorem cd_506 (hL : L ≤ 260) (hb : b < 1000) (hk : k < 1000) (T : cd_ST L xs b n rm w fol bs aC aL aT aE aB aF iE iF iL) (x01 : cr_01 hx) (hc : cd_c c (cd_H L xs b n bs hx))
    (K : ∀ x25, (L ≤ k → wL_law_696 post L xs J14 J418 (nI k) (nI b) (nI n) fol (nI w) (nI mode) (nI len) (lN (c 0)) (lN (c 1)) (lN (c 2)) (lN (c 3)) x25 0 kc ks (nI 4) (nI 224) (nI mode) (nI 1) (nI n) (nI rm) (nI len) xH aC aL aT aE aB aF iE iF iL hx) ∧ (k < L → wL_law_696 post L xs J14 J418 (nI k) (nI b) (nI n) fol (nI w) (nI mode) (nI len) (lN (c 0)) (lN (c 1)) (lN (c 2)) (lN (c 3)) x25 1 kc ks (nI 4) (nI 224) (nI mode) (nI 1) (nI n) (nI rm) (nI len) xH aC aL aT aE aB aF iE iF iL hx)) :
    ∀ m p x25, n - p < m → p ≤ n → wL_law_506 post L xs J14 J418 (nI k) (nI b) (nI n) fol (nI w) (nI mode) (nI len) (lN (c 0)) (lN (c 1)) (lN (c 2)) (lN (c 3)) x24 kc ks (nI 4) (nI 224) (nI mode) (nI 1) (nI n) (nI rm) (nI len) xH aC aL aT aE aB aF iE iF iL hx m x25 (nI p) := by
  have n4 := T.1
  intro m
  induction m with
  | zero => intro p x25 h; omega
  | succ m ih =>
    intro p x25 hm hp
    rcases Nat.lt_or_ge p n with h | h
    · refine br_f (nI_ge h (by omega)) (cl_pick (by omega) ⟨cl_t L xs b p + 3, ?_⟩)
      have e0 : cr_ct (fun j => hx (bs p + j)) (if 0 - 1 ≤ cl_t L xs b p then 0 - 1 else cl_t L xs b p) = 0 := by rw [if_pos (by omega)]; rfl
      have h5 := cd_540 (post := post) (kc := kc) (ks := ks) (J14 := J14) (J418 := J418) (x2 := nI k) (x24 := x24) (x25 := x25) (mode := mode) (len := len) (xH := xH) (J506 := wL_law_506 post L xs J14 J418 (nI k) (nI b) (nI n) fol (nI w) (nI mode) (nI len) (lN (c 0)) (lN (c 1)) (lN (c 2)) (lN (c 3)) x24 kc ks (nI 4) (nI 224) (nI mode) (nI 1) (nI n) (nI rm) (nI len) xH aC aL aT aE aB aF iE iF iL hx m) hL hb T x01 hc h (fun y => ih (p + 1) y (by omega) (by omega)) (cl_t L xs b p + 3) 0 0 0 (by omega) (by omega) ⟨Or.inl rfl, fun u _ u2 => by omega⟩ (Or.inl ⟨rfl, fun u u2 => by omega⟩)
      rw [e0] at h5
      exact h5
    · have e : p = n := by omega
      subst e
      exact br_t (nI_le h (by omega)) (pk_le L k (fun z => (K x25).1 z) (fun z => (K x25).2 z))
theorem cd_439 {o : Int32} (hL : L ≤ 260) (hb : b < 1000) (hk : k < 1000) (T : cd_ST L xs b n rm w fol bs aC aL aT aE aB aF iE iF iL) (x01 : cr_01 hx) (hc : cd_c c (cd_H L xs b n bs hx)) (hm : mode = 1 ∨ mode = 2) (hl : len ≤ 4000) (ho : ¬ o = 0 ↔ (mode = 2 ∨ len = 0))
    (K : ∀ x25, (L ≤ k → wL_law_696 post L xs J14 J418 (nI k) (nI b) (nI n) fol (nI w) (nI mode) (nI len) (lN (c 0)) (lN (c 1)) (lN (c 2)) (lN (c 3)) x25 0 kc ks (nI 4) (nI 224) (nI mode) (nI 1) (nI n) (nI rm) (nI len) xH aC aL aT aE aB aF iE iF iL hx) ∧ (k < L → wL_law_696 post L xs J14 J418 (nI k) (nI b) (nI n) fol (nI w) (nI mode) (nI len) (lN (c 0)) (lN (c 1)) (lN (c 2)) (lN (c 3)) x25 1 kc ks (nI 4) (nI 224) (nI mode) (nI 1) (nI n) (nI rm) (nI len) xH aC aL aT aE aB aF iE iF iL hx)) :
    wL_law_439 post L xs J14 J418 (nI k) (nI b) (nI n) fol (nI w) (nI mode) (nI len) (lN (c 0)) (lN (c 1)) (lN (c 2)) (lN (c 3)) o kc ks (nI 4) (nI 224) (nI mode) (nI 1) (nI n) (nI rm) (nI len) xH aC aL aT aE aB aF iE iF iL hx := by
  have w512 := T.2.2.2.1
  have G := T.2.1.1
  unfold wL_law_439
  refine cl_ex hL hb (fun p hp => (hc p hp).1) (fun ex hex => ?_)
  have hacc : ((¬ o = 0 ∧ w.testBit 8 = true) ∨ ∃ q, q < 4 ∧ bt ex q = true ∧ w.testBit q = true) ↔ cr_xa (nI mode) (nI len) n (cr_C hx (cl_l L xs b) (cl_t L xs b) bs) iE iL := by
    rw [cd_AA T hm (by omega)]
    unfold cd_a
    rw [ho]
    constructor
    · rintro (k | ⟨q, q1, q2, q3⟩)
      · exact Or.inl k
      · exact Or.inr ⟨q, q1, (cd_exC hc hex q1).mp q2, q3⟩
    · rintro (k | ⟨q, q1, q2, q3⟩)
      · exact Or.inl k
      · exact Or.inr ⟨q, q1, (cd_exC hc hex q1).mpr q2, q3⟩
  have rest : ∀ x24, ∃ fu506 : Nat, wL_law_506 post L xs J14 J418 (nI k) (nI b) (nI n) fol (nI w) (nI mode) (nI len) (lN (c 0)) (lN (c 1)) (lN (c 2)) (lN (c 3)) x24 kc ks (nI 4) (nI 224) (nI mode) (nI 1) (nI n) (nI rm) (nI len) xH aC aL aT aE aB aF iE iF iL hx fu506 0 0 := fun x24 =>
    ⟨n + 1, cd_506 hL hb hk T x01 hc K (n + 1) 0 0 (by omega) (by omega)⟩
  have hm0 : ¬ nI mode = 0 := nI_ne0 (by omega) (by omega)
  refine br_f hm0 (cx_acc G (fun z => ⟨rfl, cl_acc w512 (fun _ => br_t rfl (cl_fol (fun fo _ => br_c (fun _ => nm_e (rest _)) (fun _ => nm_e (rest _))))) (fun q => absurd (hacc.mpr z) q)⟩) (fun z => ⟨rfl, cl_acc w512 (fun q => absurd (hacc.mp q) z) (fun _ => br_t rfl (cl_fol (fun fo _ => br_c (fun _ => nm_e (rest _)) (fun _ => nm_e (rest _)))))⟩))
/-- what the next turn of the loop may rest on -/
def cd_N (L : Nat) (xs : Nat → Int32) (b n rm : Nat) (bs : Nat → Nat) (aC aL aT aE aB aF iE iF iL : Nat → Int32) (k : Nat) (J418 : cd_T418) : Prop :=
  ∀ (mode len : Nat) (c : Nat → Nat) (hx : Nat → Int32) (xH on : Int32), (mode = 1 ∨ mode = 2) → len ≤ 4000 → cr_01 hx → cd_c c (cd_H L xs b n bs hx) → (on = 0 ∨ on = 1) → J418 (nI k) (nI mode) (nI len) (lN (c 0)) (lN (c 1)) (lN (c 2)) (lN (c 3)) on (nI 4) (nI 224) (nI mode) (nI 1) (nI n) (nI rm) (nI len) xH aC aL aT aE aB aF iE iF iL hx
theorem cd_813 {d : Nat} (T : cd_ST L xs b n rm w fol bs aC aL aT aE aB aF iE iF iL) (x01 : cr_01 hx) (hd : d < 2 ^ 31) (HJ : cd_N L xs b n rm bs aC aL aT aE aB aF iE iF iL k J418) :
    wL_law_813 post L xs J14 J418 (nI k) (nI b) (nI n) fol (nI w) 1 (nI d) kc ks (nI 4) (nI 224) (nI mode) (nI 1) (nI n) (nI rm) (nI len) xH aC aL aT aE aB aF iE iF iL hx := by
  have er : nI d - nI d / 2 * 2 = nI (d % 2) := pk_rem hd (by decide) (by decide)
  refine ⟨by decide, nm_r (e' := nI (1 + d % 2)) (by rw [er]; exact nI_add 1 (d % 2)) (cx_bgn (by omega) x01 (fun g hit g01 g0 => ?_))⟩
  exact HJ (1 + d % 2) 0 (fun _ => 0) g hit 1 (by omega) (by omega) g01 (cd_c0 T g0) (Or.inr rfl)
theorem cd_914 {cc d x t : Nat} (hL : L ≤ 260) (hb : b < 1000) (T : cd_ST L xs b n rm w fol bs aC aL aT aE aB aF iE iF iL) (x01 : cr_01 hx) (hc : cd_c c (cd_H L xs b n bs hx)) (hm : mode = 1 ∨ mode = 2) (hx8 : x < 8) (t1 : 1 ≤ t) (t16 : t ≤ 16) (hl : len + t ≤ 4000)
    (HJ : cd_N L xs b n rm bs aC aL aT aE aB aF iE iF iL k J418) :
    wL_law_914 post L xs J14 J418 (nI k) (nI b) (nI n) fol (nI w) (nI mode) (nI len) (lN (c 0)) (lN (c 1)) (lN (c 2)) (lN (c 3)) 1 x25 (nI cc) (nI d) (nI x) (nI t) kc ks (nI 4) (nI 224) (nI mode) (nI 1) (nI n) (nI rm) (nI len) xH aC aL aT aE aB aF iE iF iL hx := by
  have K : ∀ x, x < 8 → ∃ fu990 : Nat, wL_law_990 post L xs J14 J418 (nI k) (nI b) (nI n) fol (nI w) (nI mode) 1 (nI x) (nI t) kc ks (nI 4) (nI 224) (nI mode) (nI 1) (nI n) (nI rm) (nI len) xH aC aL aT aE aB aF iE iF iL hx fu990 (nI len) (lN (c 0)) (lN (c 1)) (lN (c 2)) (lN (c 3)) 0 0 := fun x hx8 =>
    ⟨t + 1, cd_990 T hL hb hm hx8 t1 t16 hl x01 (fun c g hit g01 hc => HJ mode (len + t) c g hit 1 hm hl g01 hc (Or.inr rfl)) t 0 c (by omega) hc⟩
  refine ⟨by decide, by decide, by decide, by decide, by decide, br_c (fun _ => ⟨9, ?_⟩) (fun _ => ⟨9, ?_⟩)⟩
  · exact cd_950 K 9 0 x (by omega) (by omega) hx8
  · exact cd_950 K 9 0 x (by omega) (by omega) hx8
theorem cd_846 {cc d x cmd : Nat} (hL : L ≤ 260) (hb : b < 1000) (T : cd_ST L xs b n rm w fol bs aC aL aT aE aB aF iE iF iL) (x01 : cr_01 hx) (hc : cd_c c (cd_H L xs b n bs hx)) (hm : mode = 1 ∨ mode = 2) (hx8 : x < 8) (hcmd : cmd < 30) (hl : len ≤ 3984)
    (HJ : cd_N L xs b n rm bs aC aL aT aE aB aF iE iF iL k J418) :
    wL_law_846 post L xs J14 J418 (nI k) (nI b) (nI n) fol (nI w) (nI mode) (nI len) (lN (c 0)) (lN (c 1)) (lN (c 2)) (lN (c 3)) 1 x25 (nI cc) (nI d) (nI cmd) (nI x) kc ks (nI 4) (nI 224) (nI mode) (nI 1) (nI n) (nI rm) (nI len) xH aC aL aT aE aB aF iE iF iL hx := by
  have hm0 : ¬ nI mode = 0 := nI_ne0 (by omega) (by omega)
  refine pk_eq cmd 29 (fun z => ?_) (fun z => pk_le 14 cmd (fun z2 => ?_) (fun z2 => ⟨by decide, ?_⟩))
  · refine br_f hm0 (br_f (nI_pos (by omega)) (br_f (nI_nlt (a := 7) (by omega) (by omega)) (br_f cr_10 (br_f (by decide) (br_f (by decide) ?_)))))
    refine br_f hm0 (br_f (by decide) (br_t (by decide) (br_t rfl ?_)))
    refine br_f hm0 ?_
    refine br_f hm0 ?_
    refine br_f (by decide) (br_f (by decide) ?_)
    exact HJ mode len c hx xH 1 hm (by omega) x01 hc (Or.inr rfl)
  · have e : nI cmd - 12 = nI (cmd - 12) := pk_sub (b := 12) (by omega)
    rw [e]
    exact cd_914 hL hb T x01 hc hm hx8 (by omega) (by omega) (by omega) HJ
  · have er : nI cmd - nI cmd / 3 * 3 = nI (cmd % 3) := pk_rem (by omega) (by decide) (by decide)
    have e : 1 + (nI cmd - nI cmd / 3 * 3) = nI (1 + cmd % 3) := by rw [er]; exact nI_add 1 (cmd % 3)
    rw [e]
    exact cd_914 hL hb T x01 hc hm hx8 (by omega) (by omega) (by omega) HJ
theorem cd_771 {cc d x cmd : Nat} {z0 : Int32} (hL : L ≤ 260) (hb : b < 1000) (T : cd_ST L xs b n rm w fol bs aC aL aT aE aB aF iE iF iL) (x01 : cr_01 hx) (hc : cd_c c (cd_H L xs b n bs hx)) (hm : mode = 1 ∨ mode = 2) (hx8 : x < 8) (hcmd : cmd < 32) (hl : len ≤ 4000) (hd : d < 2 ^ 31)
    (HJ : cd_N L xs b n rm bs aC aL aT aE aB aF iE iF iL k J418) :
    wL_law_771 post L xs J14 J418 (nI k) (nI b) (nI n) fol (nI w) (nI mode) (nI len) (lN (c 0)) (lN (c 1)) (lN (c 2)) (lN (c 3)) 1 x25 (nI cc) (nI d) (nI cmd) (nI x) z0 kc ks (nI 4) (nI 224) (nI mode) (nI 1) (nI n) (nI rm) (nI len) xH aC aL aT aE aB aF iE iF iL hx := by
  refine pk_eq cmd 31 (fun _ => HJ mode len c hx xH 0 hm hl x01 hc (Or.inl rfl)) (fun z1 => pk_eq cmd 30 (fun _ => cd_813 T x01 hd HJ) (fun z2 => pk_lt 3984 len (fun _ => cd_813 T x01 hd HJ) (fun z3 => ?_)))
  have go := cd_846 (post := post) (kc := kc) (ks := ks) (J14 := J14) (x25 := x25) (cc := cc) (d := d) (xH := xH) hL hb T x01 hc hm hx8 (show cmd < 30 by omega) z3 HJ
  exact br_c (fun _ => go) (fun _ => ⟨by decide, br_c (fun _ => cd_813 T x01 hd HJ) (fun _ => go)⟩)
theorem cd_696 (hL : L ≤ 260) (hb : b < 1000) (hk : k < 1000) (T : cd_ST L xs b n rm w fol bs aC aL aT aE aB aF iE iF iL) (x01 : cr_01 hx) (hc : cd_c c (cd_H L xs b n bs hx)) (hm : mode = 1 ∨ mode = 2) (hl : len ≤ 4000)
    (HJ : cd_N L xs b n rm bs aC aL aT aE aB aF iE iF iL (k + 2) J418) :
    wL_law_696 post L xs J14 J418 (nI k) (nI b) (nI n) fol (nI w) (nI mode) (nI len) (lN (c 0)) (lN (c 1)) (lN (c 2)) (lN (c 3)) x25 1 kc ks (nI 4) (nI 224) (nI mode) (nI 1) (nI n) (nI rm) (nI len) xH aC aL aT aE aB aF iE iF iL hx := by
  refine br_f cr_10 (cl_num hL (by omega) ?_)
  rw [nI_1 k]
  refine cl_num hL (by omega) ?_
  have hcc := cl_nl (L := L) (xs := xs) (k := k)
  have hd := cl_nl (L := L) (xs := xs) (k := k + 1)
  generalize cl_n L xs k = cc at hcc ⊢
  generalize cl_n L xs (k + 1) = d at hd ⊢
  refine ⟨by decide, nm_r (pk_rem hcc (by decide) (by decide)) ⟨by decide, nm_r (pk_rem hd (by decide) (by decide)) (nm_r (nI_add k 2) ?_)⟩⟩
  have go : ∀ z0, wL_law_771 post L xs J14 J418 (nI (k + 2)) (nI b) (nI n) fol (nI w) (nI mode) (nI len) (lN (c 0)) (lN (c 1)) (lN (c 2)) (lN (c 3)) 1 x25 (nI cc) (nI d) (nI (cc % 32)) (nI (d % 8)) z0 kc ks (nI 4) (nI 224) (nI mode) (nI 1) (nI n) (nI rm) (nI len) xH aC aL aT aE aB aF iE iF iL hx := fun z0 =>
    cd_771 hL hb T x01 hc hm (by omega) (by omega) hl hd HJ
  exact br_c (fun _ => br_c (fun _ => go 0) (fun _ => br_c (fun _ => go 1) (fun _ => go 0))) (fun _ => go 0)
end CDC
end
section
section CDM
/-! the law -/
variable {L b n rm w : Nat} {xs : Nat → Int32} {bs : Nat → Nat} {aC aL aT aE aB aF iE iF iL : Nat → Int32} {fol : Int32} {kc ks : Nat} {J14 : cb_T14} {hx : Nat → Int32} {xP xT xC xR xN xH : Int32}
theorem cd_418 (hL : L ≤ 260) (hb : b < 900) (T : cd_ST L xs b n rm w fol bs aC aL aT aE aB aF iE iF iL)
    (HJ : ∀ k mode len hx xH, k < L → b < k → cr_01 hx → J14 (nI k) (nI 4) (nI 224) (nI mode) (nI 1) (nI n) (nI rm) (nI len) xH aC aL aT aE aB aF iE iF iL hx) :
    ∀ m k mode len c hx xH on, 1 ≤ m → L + 2 ≤ m + k → k < 900 → b < k → (mode = 1 ∨ mode = 2) → len ≤ 4000 → cr_01 hx → cd_c c (cd_H L xs b n bs hx) → (on = 0 ∨ on = 1) →
    wL_law_418 (fun r => r = 1) L xs J14 (nI b) (nI n) fol (nI w) kc ks m (nI k) (nI mode) (nI len) (lN (c 0)) (lN (c 1)) (lN (c 2)) (lN (c 3)) on (nI 4) (nI 224) (nI mode) (nI 1) (nI n) (nI rm) (nI len) xH aC aL aT aE aB aF iE iF iL hx := by
  intro m
  induction m with
  | zero => intro k mode len c hx xH on h; omega
  | succ m ih =>
    intro k mode len c hx xH on m1 m2 hk hbk hm hl x01 hc hon
    have e1158 : wL_law_1158 (fun r => r = 1) L xs J14 (nI k) kc ks (nI 4) (nI 224) (nI mode) (nI 1) (nI n) (nI rm) (nI len) xH aC aL aT aE aB aF iE iF iL hx := pk_lt k L (fun z => HJ k mode len hx xH z hbk x01) (fun _ => rfl)
    rcases hon with h0 | h1
    · exact br_t h0 e1158
    · subst h1
      have K : ∀ x25, (L ≤ k → wL_law_696 (fun r => r = 1) L xs J14 (wL_law_418 (fun r => r = 1) L xs J14 (nI b) (nI n) fol (nI w) kc ks m) (nI k) (nI b) (nI n) fol (nI w) (nI mode) (nI len) (lN (c 0)) (lN (c 1)) (lN (c 2)) (lN (c 3)) x25 0 kc ks (nI 4) (nI 224) (nI mode) (nI 1) (nI n) (nI rm) (nI len) xH aC aL aT aE aB aF iE iF iL hx) ∧ (k < L → wL_law_696 (fun r => r = 1) L xs J14 (wL_law_418 (fun r => r = 1) L xs J14 (nI b) (nI n) fol (nI w) kc ks m) (nI k) (nI b) (nI n) fol (nI w) (nI mode) (nI len) (lN (c 0)) (lN (c 1)) (lN (c 2)) (lN (c 3)) x25 1 kc ks (nI 4) (nI 224) (nI mode) (nI 1) (nI n) (nI rm) (nI len) xH aC aL aT aE aB aF iE iF iL hx) := fun x25 =>
        ⟨fun _ => br_t rfl e1158, fun z => cd_696 hL (by omega) (by omega) T x01 hc hm hl (fun mode len c hx xH on hm hl x01 hc hon => ih (k + 2) mode len c hx xH on (by omega) (by omega) (by omega) (by omega) hm hl x01 hc hon)⟩
      refine br_f cr_10 ?_
      by_cases md : mode = 2
      · exact br_t ((cd_m2 hm).mpr md) (cd_439 hL (by omega) (by omega) T x01 hc hm hl ⟨fun _ => Or.inl md, fun _ => cr_10⟩ K)
      · refine br_f (fun q => md ((cd_m2 hm).mp q)) ?_
        by_cases l0 : len = 0
        · exact br_t ((cd_l0 (by omega)).mpr l0) (cd_439 hL (by omega) (by omega) T x01 hc hm hl ⟨fun _ => Or.inr l0, fun _ => cr_10⟩ K)
        · exact br_f (fun q => l0 ((cd_l0 (by omega)).mp q)) (cd_439 hL (by omega) (by omega) T x01 hc hm hl ⟨fun q => absurd rfl q, fun q => q.elim (fun q => absurd q md) (fun q => absurd q l0)⟩ K)
theorem cd_14 (hL : L ≤ 260) : ∀ m k xP xT xC xR xN xH aC aL aT aE aB aF iE iF iL hx, 1 ≤ m → L + 2 ≤ m + k → (k < L ∨ k = 0) → cr_01 hx → wL_law_14 (fun r => r = 1) L xs kc ks m (nI k) (nI 4) (nI 224) xP xT xC xR xN xH aC aL aT aE aB aF iE iF iL hx := by
  intro m
  induction m with
  | zero => intro k xP xT xC xR xN xH aC aL aT aE aB aF iE iF iL hx h; omega
  | succ m ih =>
    intro k xP xT xC xR xN xH aC aL aT aE aB aF iE iF iL hx m1 m2 hk x01
    unfold wL_law_14 wpX_clear
    refine cx_so x01 (fun g g01 g0 => ?_)
    refine cl_num hL (by omega) ⟨by decide, ?_⟩
    have hr := cl_nl (L := L) (xs := xs) (k := k)
    generalize cl_n L xs k = r at hr ⊢
    have er : nI r - nI r / 4 * 4 = nI (r % 4) := pk_rem hr (by decide) (by decide)
    refine nm_r (e' := nI (1 + r % 4)) (by rw [er]; exact nI_add 1 (r % 4)) ⟨1 + r % 4 + 1, ?_⟩
    refine cb_49 (n := 1 + r % 4) hL (by omega) (by omega) (fun rm w fol bs aC aL aT aE aB aF iE iF iL O m' => ?_) (1 + r % 4 + 1) 0 0 224 0 0 0 (fun _ => 0) aC aL aT aE aB aF iE iF iL (by omega)
      ⟨⟨by omega, by omega, by omega, by omega, fun q => by omega⟩, ⟨⟨by omega, fun p hp => by omega, fun p q _ hq => by omega⟩, fun p hp => by omega, by omega⟩, ⟨fun q p _ _ => by rw [b_0]; exact ⟨fun z => absurd z (by decide), fun z => absurd z.1 (by omega)⟩, fun q hq => by omega⟩, rfl⟩ (fun q => by omega)
    obtain ⟨⟨o1, o2, o3, o4, o5⟩, OS, OF, OK⟩ := O
    have w0 : w / 512 = 0 := OK.2
    have OR : cb_R (1 + r % 4) iE iF iL 0 w := by
      have := OK.1
      rw [show w % 512 = w by omega] at this
      exact this
    have T : cd_ST L xs k (1 + r % 4) rm w fol bs aC aL aT aE aB aF iE iF iL := ⟨o2, OS, OF, OR⟩
    have e5 : nI k + 5 * nI (1 + r % 4) = nI (k + 5 * (1 + r % 4)) := by
      have e : (5 : Int32) * nI (1 + r % 4) = nI (5 * (1 + r % 4)) := pk_mul 5 _
      rw [e, nI_add]
    refine br_t (nI_le (Nat.le_refl _) (by omega)) (nm_r e5 (cl_num hL (by omega) ⟨by decide, ?_⟩))
    have hq := cl_nl (L := L) (xs := xs) (k := k + 5 * (1 + r % 4))
    generalize cl_n L xs (k + 5 * (1 + r % 4)) = q at hq ⊢
    have eq2 : nI q - nI q / 2 * 2 = nI (q % 2) := pk_rem hq (by decide) (by decide)
    refine nm_r (e' := nI (1 + q % 2)) (by rw [eq2]; exact nI_add 1 (q % 2)) (nm_r (nI_1 _) (cx_bgn (by omega) g01 (fun g' hit g01' g0' => ⟨L + 3, ?_⟩)))
    exact cd_418 hL (by omega) T (fun k' mode len hx xH hk' hbk x01 => ih k' _ _ _ _ _ _ _ _ _ _ _ _ _ _ _ _ (by omega) (by omega) (Or.inl hk') x01) (L + 3) (k + 5 * (1 + r % 4) + 1) (1 + q % 2) 0 (fun _ => 0) g' hit 1 (by omega) (by omega) (by omega) (by omega) (by omega) (by omega) g01' (cd_c0 T g0') (Or.inr rfl)
theorem cd_z01 : cr_01 (fun _ => 0) := fun _ => Or.inl rfl
theorem i_vc (xs : Nat → Int32) (L : Nat) (hL : L ≤ 260) : wpL_law (fun r => r = 1) L xs := by
  refine ⟨10, 332, by decide, by decide, ?_⟩
  refine ⟨by decide, by decide, by decide, by decide, by decide, by decide, by decide, by decide, by decide, by decide, by decide, by decide, by decide, by decide, by decide, by decide, by decide, by decide, by decide, by decide, ?_⟩
  refine br_t (by decide) (br_t (by decide) (br_t (by decide) (br_t (by decide) ?_)))
  refine cx_so (li := 4) (ce := 224) cd_z01 (fun g g01 g0 => ⟨L + 2, ?_⟩)
  exact cd_14 hL (L + 2) 0 _ _ _ _ _ _ _ _ _ _ _ _ _ _ _ g (by omega) (by omega) (Or.inr rfl) g01
end CDM
end
