section CLI
/-! the law's items: nine bits; the leaf sets as longs -/
variable {L b p k lv : Nat} {xs : Nat → Int32} {post : Int32 → Prop} {iE iF iL : Nat → Int32}
/-- item w of the law: empty, first, last -/
def cb_J (w : Nat) (e : Prop) (f l : Nat → Prop) : Prop := w < 512 ∧ (w.testBit 8 = true ↔ e) ∧ (∀ p, p < 4 → (w.testBit (4 + p) = true ↔ f p)) ∧ (∀ p, p < 4 → (w.testBit p = true ↔ l p))
theorem cb_240 : ∀ p, p < 4 → (240).testBit p = false ∧ (240).testBit (4 + p) = true ∧ (15).testBit p = true ∧ (15).testBit (4 + p) = false ∧ (256).testBit p = false ∧ (256).testBit (4 + p) = false := by decide
theorem cb_8 : (240).testBit 8 = false ∧ (15).testBit 8 = false ∧ (256).testBit 8 = true := by decide
theorem cl_alt {a c : Nat} (ha : a < 512) (hc : c < 512) : cb_J (a ||| c) (c.testBit 8 = true ∨ a.testBit 8 = true) (fun p => c.testBit (4 + p) = true ∨ a.testBit (4 + p) = true) (fun p => c.testBit p = true ∨ a.testBit p = true) := by
  refine ⟨Nat.or_lt_two_pow (n := 9) ha hc, ?_, fun p hp => ?_, fun p hp => ?_⟩
  · rw [Nat.testBit_or, Bool.or_eq_true]; exact Or.comm
  · rw [Nat.testBit_or, Bool.or_eq_true]; exact Or.comm
  · rw [Nat.testBit_or, Bool.or_eq_true]; exact Or.comm
theorem cl_w8 {a : Nat} (ha : a < 512) : cb_J (a ||| 256) True (fun p => a.testBit (4 + p) = true) (fun p => a.testBit p = true) := by
  refine ⟨Nat.or_lt_two_pow (n := 9) ha (by decide), ?_, fun p hp => ?_, fun p hp => ?_⟩
  · rw [Nat.testBit_or, cb_8.2.2, Bool.or_true]; exact ⟨fun _ => trivial, fun _ => rfl⟩
  · rw [Nat.testBit_or, (cb_240 p hp).2.2.2.2.2, Bool.or_false]
  · rw [Nat.testBit_or, (cb_240 p hp).2.2.2.2.1, Bool.or_false]
theorem cl_leafw {i : Nat} (hi : i < 4) : ∀ z, (z = 0 ∨ z = 256) → cb_J (17 * 2 ^ i ||| z) (z = 256) (fun p => p = i) (fun p => p = i) := by
  have h : ∀ i, i < 4 → ∀ z, (z = 0 ∨ z = 256) → (17 * 2 ^ i ||| z) < 512 ∧ ((17 * 2 ^ i ||| z).testBit 8 = true ↔ z = 256) ∧ ∀ p, p < 4 → ((17 * 2 ^ i ||| z).testBit (4 + p) = true ↔ p = i) ∧ ((17 * 2 ^ i ||| z).testBit p = true ↔ p = i) := by
    rintro i hi z (rfl | rfl)
    · revert i; decide
    · revert i; decide
  intro z hz
  obtain ⟨h1, h2, h3⟩ := h i hi z hz
  exact ⟨h1, h2, fun p hp => (h3 p hp).1, fun p hp => (h3 p hp).2⟩
theorem cl_17 : ∀ i, i < 4 → ((1 : Int32) <<< (nI i &&& 31)) * 17 = nI (17 * 2 ^ i) := by decide +kernel
theorem cl_cat {a c : Nat} (ha : a < 512) (hc : c < 512)
    (H : ∀ w, cb_J w (a.testBit 8 = true ∧ c.testBit 8 = true) (fun p => a.testBit (4 + p) = true ∨ (a.testBit 8 = true ∧ c.testBit (4 + p) = true)) (fun p => c.testBit p = true ∨ (c.testBit 8 = true ∧ a.testBit p = true)) → post (nI w)) : wpL_cat post () (nI a) (nI c) := by
  have a240 : nI a &&& 240 = nI (a &&& 240) := nx_and a 240
  have c240 : nI c &&& 240 = nI (c &&& 240) := nx_and c 240
  have a15 : nI a &&& 15 = nI (a &&& 15) := nx_and a 15
  have c15 : nI c &&& 15 = nI (c &&& 15) := nx_and c 15
  have ac : (nI a &&& nI c) &&& 256 = nI ((a &&& c) &&& 256) := by rw [nx_and]; exact nx_and (a &&& c) 256
  have fin : ∀ f l : Nat, (f < 512) → (l < 512) → (f.testBit 8 = false) → (l.testBit 8 = false) → (∀ p, p < 4 → (f.testBit (4 + p) = true ↔ a.testBit 8 = true ∧ c.testBit (4 + p) = true) ∧ f.testBit p = false) →
      (∀ p, p < 4 → (l.testBit p = true ↔ c.testBit 8 = true ∧ a.testBit p = true) ∧ l.testBit (4 + p) = false) →
      post (nI ((((a &&& 240) ||| f) ||| (c &&& 15)) ||| l ||| ((a &&& c) &&& 256))) := by
    intro f l hf hl f8 l8 hff hll
    refine H _ ⟨?_, ?_, fun p hp => ?_, fun p hp => ?_⟩
    · exact Nat.or_lt_two_pow (n := 9) (Nat.or_lt_two_pow (n := 9) (Nat.or_lt_two_pow (n := 9) (Nat.or_lt_two_pow (n := 9) (Nat.and_lt_two_pow a (by decide)) hf) (Nat.and_lt_two_pow c (by decide))) hl) (Nat.and_lt_two_pow _ (by decide))
    · simp only [Nat.testBit_or, Nat.testBit_and, cb_8.1, cb_8.2.1, cb_8.2.2, f8, l8, Bool.and_false, Bool.or_false, Bool.and_true, Bool.false_or, Bool.and_eq_true]
    · obtain ⟨k1, k2, k3, k4, k5, k6⟩ := cb_240 p hp
      simp only [Nat.testBit_or, Nat.testBit_and, k2, k4, k6, (hll p hp).2, Bool.and_false, Bool.or_false, Bool.and_true, Bool.or_eq_true, (hff p hp).1]
    · obtain ⟨k1, k2, k3, k4, k5, k6⟩ := cb_240 p hp
      simp only [Nat.testBit_or, Nat.testBit_and, k1, k3, k5, (hff p hp).2, Bool.and_false, Bool.or_false, Bool.false_or, Bool.and_true, Bool.or_eq_true, (hll p hp).1]
  have z512 : (0 : Nat) < 512 := by decide
  have c21 : ∀ (f : Nat) (F : Int32), F = nI f → (f < 512) → (f.testBit 8 = false) → (∀ p, p < 4 → (f.testBit (4 + p) = true ↔ a.testBit 8 = true ∧ c.testBit (4 + p) = true) ∧ f.testBit p = false) → wL_cat_21 post (nI a) (nI c) F (nI a &&& 240) := by
    intro f F eF hf f8 hff
    by_cases h : c.testBit 8 = true
    · refine br_f (fun z => (cl_ge hc).mp z h) ?_
      unfold wL_cat_42
      rw [eF, a240, c15, a15, ac, cl_nor, cl_nor, cl_nor, cl_nor]
      refine fin f (a &&& 15) hf (Nat.and_lt_two_pow (n := 9) a (by decide)) f8 ?_ hff (fun p hp => ?_)
      · rw [Nat.testBit_and, cb_8.2.1, Bool.and_false]
      · obtain ⟨k1, k2, k3, k4, k5, k6⟩ := cb_240 p hp
        rw [Nat.testBit_and, Nat.testBit_and, k3, k4, Bool.and_true, Bool.and_false]
        exact ⟨⟨fun z => ⟨h, z⟩, fun z => z.2⟩, rfl⟩
    · refine br_t ((cl_ge hc).mpr h) ?_
      unfold wL_cat_42
      have e0 : (0 : Int32) = nI 0 := rfl
      rw [eF, a240, c15, ac, e0, cl_nor, cl_nor, cl_nor, cl_nor]
      refine fin f 0 hf z512 f8 (Nat.zero_testBit 8) hff (fun p hp => ⟨?_, Nat.zero_testBit _⟩)
      rw [Nat.zero_testBit]
      exact ⟨fun z => absurd z (by decide), fun z => absurd z.1 h⟩
  by_cases h : a.testBit 8 = true
  · refine br_f (fun z => (cl_ge ha).mp z h) (c21 (c &&& 240) _ c240 (Nat.and_lt_two_pow (n := 9) c (by decide)) ?_ (fun p hp => ?_))
    · rw [Nat.testBit_and, cb_8.1, Bool.and_false]
    · obtain ⟨k1, k2, k3, k4, k5, k6⟩ := cb_240 p hp
      rw [Nat.testBit_and, Nat.testBit_and, k1, k2, Bool.and_true, Bool.and_false]
      exact ⟨⟨fun z => ⟨h, z⟩, fun z => z.2⟩, rfl⟩
  · refine br_t ((cl_ge ha).mpr h) (c21 0 0 rfl z512 (Nat.zero_testBit 8) (fun p hp => ⟨?_, Nat.zero_testBit _⟩))
    rw [Nat.zero_testBit]
    exact ⟨fun z => absurd z (by decide), fun z => absurd z.1 h⟩
/-! one leaf's set after one letter more -/
theorem cl_1 (c : Nat) : lN c <<< ((1 : Int32).toInt64 &&& 63) = lN (c * 2) := wb_shl c (k := 1) (by decide)
theorem cl_g1 {c t : Nat} (ht : t ≤ 46) : (lN c <<< ((1 : Int32).toInt64 &&& 63)) &&& (((2 : Int64) <<< ((nI t).toInt64 &&& 63)) - 1) = lN (c * 2 % 2 ^ (t + 1)) := by
  have e2 : (2 : Int64) <<< ((nI t).toInt64 &&& 63) = lN (2 * 2 ^ t) := wb_shl 2 (by omega)
  have ep : 2 * 2 ^ t = 2 ^ (t + 1) := by rw [Nat.pow_succ, Nat.mul_comm]
  have pos : 1 ≤ 2 ^ (t + 1) := Nat.one_le_two_pow
  have e3 : lN (2 ^ (t + 1)) - 1 = lN (2 ^ (t + 1) - 1) := lN_sub pos
  rw [cl_1, e2, ep, e3, wb_mod (c * 2), wb_mask (Nat.mod_lt _ (by decide)) (by omega)]
  congr 1
  exact Nat.mod_mod_of_dvd _ (Nat.pow_dvd_pow 2 (by omega))
theorem cl_g2 {c t : Nat} (hc : c < 2 ^ 63) (ht : t ≤ 46) : lN c &&& ((1 : Int64) <<< ((nI t).toInt64 &&& 63)) = lN (c &&& 2 ^ t) := by
  have e1 : (1 : Int64) <<< ((nI t).toInt64 &&& 63) = lN (1 * 2 ^ t) := wb_shl 1 (by omega)
  have h46 : 2 ^ t ≤ 2 ^ 46 := Nat.pow_le_pow_right (by decide) ht
  rw [e1, Nat.one_mul, wb_and (by omega) (by omega)]
def cl_G (L : Nat) (xs : Nat → Int32) (b p : Nat) (c : Nat) (e : Int32) (x v : Nat) : Prop :=
  bt (nI (cl_m L xs b p)) x = true ∧ ((v = 1 ∧ bt e p = true) ∨ (1 ≤ v ∧ v ≤ cl_t L xs b p ∧ c.testBit (v - 1) = true) ∨ (cl_e L xs b p ∧ v = cl_t L xs b p ∧ c.testBit v = true))
theorem cl_grow {post : Int64 → Prop} {c x : Nat} {e : Int32} (hL : L ≤ 260) (hb : b < 1000) (hp : p < 4) (hx : x < 8) (hc : c < 2 ^ 63)
    (H : ∀ c', c' < 2 ^ 63 → (∀ v, c'.testBit v = true ↔ cl_G L xs b p c e x v) → post (lN c')) : wpL_grow post L xs () (nI b) (nI p) (lN c) e (nI x) := by
  have tb := cl_tb (L := L) (xs := xs) (b := b) (p := p)
  have h47 : 2 ^ (cl_t L xs b p + 1) ≤ 2 ^ 47 := Nat.pow_le_pow_right (by decide) (by omega)
  have h46 : 2 ^ cl_t L xs b p ≤ 2 ^ 46 := Nat.pow_le_pow_right (by decide) (by omega)
  have g1 : c * 2 % 2 ^ (cl_t L xs b p + 1) < 2 ^ 47 := Nat.lt_of_lt_of_le (Nat.mod_lt _ (Nat.two_pow_pos _)) h47
  have g2 : c &&& 2 ^ cl_t L xs b p < 2 ^ 47 := Nat.lt_of_le_of_lt Nat.and_le_right (by omega)
  have b1 : ∀ v, (c * 2 % 2 ^ (cl_t L xs b p + 1)).testBit v = true ↔ 1 ≤ v ∧ v ≤ cl_t L xs b p ∧ c.testBit (v - 1) = true := by
    intro v
    rw [Nat.testBit_mod_two_pow, Bool.and_eq_true, decide_eq_true_iff, show c * 2 = c * 2 ^ 1 from rfl, Nat.testBit_mul_two_pow, Bool.and_eq_true, decide_eq_true_iff]
    constructor
    · rintro ⟨a, a2, a3⟩; exact ⟨a2, by omega, a3⟩
    · rintro ⟨a, a2, a3⟩; exact ⟨by omega, a, a3⟩
  have b2 : ∀ v, (c &&& 2 ^ cl_t L xs b p).testBit v = true ↔ v = cl_t L xs b p ∧ c.testBit v = true := by
    intro v
    rw [Nat.testBit_and, Nat.testBit_two_pow, Bool.and_eq_true, decide_eq_true_iff]
    constructor
    · rintro ⟨a, a2⟩; exact ⟨a2.symm, a⟩
    · rintro ⟨a, a2⟩; exact ⟨a2, a.symm⟩
  have b3 : ∀ v, (2 : Nat).testBit v = true ↔ v = 1 := by
    intro v
    rw [show (2 : Nat) = 2 ^ 1 from rfl, Nat.testBit_two_pow, decide_eq_true_iff]
    exact ⟨Eq.symm, Eq.symm⟩
  unfold wpL_grow
  refine cl_mask hL hb hp (cl_cb (by omega) (fun z => ?_) (fun z => ?_))
  · refine H 0 (by decide) (fun v => ?_)
    rw [Nat.zero_testBit]
    exact ⟨fun k => absurd k (by decide), fun k => by rw [k.1] at z; exact absurd z (by decide)⟩
  · refine cl_top hL hb hp (nm_r (cl_g1 (by omega)) (cl_most hL hb hp ?_))
    have g59 : ∀ g, g < 2 ^ 47 → (∀ v, g.testBit v = true ↔ (1 ≤ v ∧ v ≤ cl_t L xs b p ∧ c.testBit (v - 1) = true) ∨ (cl_e L xs b p ∧ v = cl_t L xs b p ∧ c.testBit v = true)) → wL_grow_59 post L xs (nI p) e (lN g) := by
      intro g hg hgb
      refine cl_cb (by omega) (fun w => H g (by omega) (fun v => ?_)) (fun w => ?_)
      · rw [hgb v]
        exact ⟨fun k => ⟨z, Or.inr k⟩, fun k => k.2.elim (fun q => by rw [w] at q; exact absurd q.2 (by decide)) id⟩
      · have e2 : lN g ||| 2 = lN (g ||| 2) := wb_or (b := 2) (by omega) (by decide)
        rw [e2]
        have hg2 : g ||| 2 < 2 ^ 47 := Nat.or_lt_two_pow hg (by decide)
        refine H (g ||| 2) (by omega) (fun v => ?_)
        rw [Nat.testBit_or, Bool.or_eq_true, hgb v, b3 v]
        exact ⟨fun k => ⟨z, k.elim Or.inr (fun k => Or.inl ⟨k, w⟩)⟩, fun k => k.2.elim (fun q => Or.inr q.1) Or.inl⟩
    by_cases q : cl_e L xs b p
    · refine br_t (cl_Me.mpr q) (nm_r (e' := lN (c * 2 % 2 ^ (cl_t L xs b p + 1) ||| (c &&& 2 ^ cl_t L xs b p))) ?_ (g59 _ (Nat.or_lt_two_pow g1 g2) (fun v => ?_)))
      · rw [cl_g2 hc (by omega), wb_or (by omega) (by omega)]
      · rw [Nat.testBit_or, Bool.or_eq_true, b1 v, b2 v]
        exact ⟨fun k => k.elim Or.inl (fun k => Or.inr ⟨q, k⟩), fun k => k.elim Or.inl (fun k => Or.inr k.2)⟩
    · refine br_f (fun k => q (cl_Me.mp k)) (g59 _ g1 (fun v => ?_))
      rw [b1 v]
      exact ⟨Or.inl, fun k => k.elim id (fun k => absurd k.1 q)⟩
end CLI
