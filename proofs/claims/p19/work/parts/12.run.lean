section CDR
/-! running: the pure picture of the held pairs, and both sides against it -/
def cd_ST (L : Nat) (xs : Nat → Int32) (b n rm w : Nat) (fol : Int32) (bs : Nat → Nat) (aC aL aT aE aB aF iE iF iL : Nat → Int32) : Prop :=
  n ≤ 4 ∧ cb_S L xs b n rm bs aC aL aT aE aB ∧ cb_F n fol aF ∧ cb_R n iE iF iL 0 w
def cd_H (L : Nat) (xs : Nat → Int32) (b n : Nat) (bs : Nat → Nat) (hx : Nat → Int32) (p v : Nat) : Prop := p < n ∧ 1 ≤ v ∧ v ≤ cl_t L xs b p ∧ ¬ hx (bs p + v - 1) = 0
def cd_c (c : Nat → Nat) (H : Nat → Nat → Prop) : Prop := ∀ p, p < 4 → c p < 2 ^ 63 ∧ ∀ v, (c p).testBit v = true ↔ H p v
def cd_C (L : Nat) (xs : Nat → Int32) (b : Nat) (H : Nat → Nat → Prop) (q : Nat) : Prop := ∃ v, cl_l L xs b q ≤ v ∧ H q v
def cd_en (L : Nat) (xs : Nat → Int32) (b : Nat) (st : Prop) (w : Nat) (fol : Int32) (H : Nat → Nat → Prop) (p : Nat) : Prop := (st ∧ w.testBit (4 + p) = true) ∨ ∃ q, q < 4 ∧ cd_C L xs b H q ∧ bt fol (4 * q + p) = true
def cd_W (L : Nat) (xs : Nat → Int32) (b n : Nat) (st : Prop) (w : Nat) (fol : Int32) (x : Nat) (H : Nat → Nat → Prop) (p v : Nat) : Prop :=
  p < n ∧ 1 ≤ v ∧ v ≤ cl_t L xs b p ∧ bt (nI (cl_m L xs b p)) x = true ∧ ((v = 1 ∧ cd_en L xs b st w fol H p) ∨ (1 < v ∧ H p (v - 1)) ∨ (cl_e L xs b p ∧ v = cl_t L xs b p ∧ H p v))
def cd_a (L : Nat) (xs : Nat → Int32) (b : Nat) (st : Prop) (w : Nat) (H : Nat → Nat → Prop) : Prop := (st ∧ w.testBit 8 = true) ∨ ∃ q, q < 4 ∧ cd_C L xs b H q ∧ w.testBit q = true
def cd_Q (L : Nat) (xs : Nat → Int32) (b n mode len w : Nat) (fol : Int32) (x : Nat) (H : Nat → Nat → Prop) : Nat → Nat → Nat → Prop
  | 0 => H
  | j + 1 => cd_W L xs b n (mode = 2 ∨ len + j = 0) w fol x (cd_Q L xs b n mode len w fol x H j)
noncomputable def cd_hit (acc : Nat → Prop) : Nat → Nat
  | 0 => 0
  | j + 1 => cd_hit acc j + @ite Nat (acc (j + 1)) (Classical.propDecidable _) 1 0
theorem cd_h1 {acc : Nat → Prop} {j : Nat} (h : acc (j + 1)) : cd_hit acc (j + 1) = cd_hit acc j + 1 := by
  show cd_hit acc j + @ite Nat (acc (j + 1)) (Classical.propDecidable _) 1 0 = _
  rw [if_pos h]
theorem cd_h0 {acc : Nat → Prop} {j : Nat} (h : ¬ acc (j + 1)) : cd_hit acc (j + 1) = cd_hit acc j := by
  show cd_hit acc j + @ite Nat (acc (j + 1)) (Classical.propDecidable _) 1 0 = _
  rw [if_neg h, Nat.add_zero]
variable {L b n rm w len mode x t : Nat} {xs : Nat → Int32} {bs : Nat → Nat} {aC aL aT aE aB aF iE iF iL hx : Nat → Int32} {fol xH : Int32} {st : Prop} {H : Nat → Nat → Prop}
theorem cd_enb {p : Nat} (T : cd_ST L xs b n rm w fol bs aC aL aT aE aB aF iE iF iL) (hp : p < 4) (h : cd_en L xs b st w fol H p) : p < n := by
  obtain ⟨n4, S1, F1, R1⟩ := T
  rcases h with ⟨_, h⟩ | ⟨q, q4, _, h⟩
  · exact R1.2.2.2.2.1 p hp h
  · obtain ⟨z1, z2⟩ := (F1.1 q p q4 hp).mp h
    exact F1.2 q z1 p hp z2
theorem cd_CC {q : Nat} (hq : q < n) : cr_C hx (cl_l L xs b) (cl_t L xs b) bs q ↔ cd_C L xs b (cd_H L xs b n bs hx) q := by
  constructor
  · rintro ⟨v, v1, v2, v3, v4⟩
    exact ⟨v, v2, hq, v1, v3, v4⟩
  · rintro ⟨v, v2, _, v1, v3, v4⟩
    exact ⟨v, v1, v2, v3, v4⟩
theorem cd_m2 (hm : mode = 1 ∨ mode = 2) : nI mode = 2 ↔ mode = 2 := nI_eq (b := 2) (by omega) (by decide)
theorem cd_l0 {l : Nat} (hl : l < 2 ^ 31) : nI l = 0 ↔ l = 0 := nI_eq (b := 0) hl (by decide)
theorem cd_EE {p : Nat} (T : cd_ST L xs b n rm w fol bs aC aL aT aE aB aF iE iF iL) (hm : mode = 1 ∨ mode = 2) (hl : len < 2 ^ 31) (hp : p < n) :
    cr_xn (nI mode) (nI len) n (cr_C hx (cl_l L xs b) (cl_t L xs b) bs) aF iF p ↔ cd_en L xs b (mode = 2 ∨ len = 0) w fol (cd_H L xs b n bs hx) p := by
  obtain ⟨n4, S1, F1, R1⟩ := T
  unfold cr_xn cd_en
  rw [cd_m2 hm, cd_l0 hl, R1.2.2.1 p (by omega)]
  constructor
  · rintro (⟨k1, k2⟩ | ⟨q, q1, q2, q3⟩)
    · exact Or.inl ⟨k1, k2.2⟩
    · exact Or.inr ⟨q, by omega, (cd_CC q1).mp q2, (F1.1 q p (by omega) (by omega)).mpr ⟨q1, q3⟩⟩
  · rintro (⟨k1, k2⟩ | ⟨q, q1, q2, q3⟩)
    · exact Or.inl ⟨k1, by omega, k2⟩
    · obtain ⟨z1, z2⟩ := (F1.1 q p q1 (by omega)).mp q3
      exact Or.inr ⟨q, z1, (cd_CC z1).mpr q2, z2⟩
theorem cd_AA (T : cd_ST L xs b n rm w fol bs aC aL aT aE aB aF iE iF iL) (hm : mode = 1 ∨ mode = 2) (hl : len < 2 ^ 31) :
    cr_xa (nI mode) (nI len) n (cr_C hx (cl_l L xs b) (cl_t L xs b) bs) iE iL ↔ cd_a L xs b (mode = 2 ∨ len = 0) w (cd_H L xs b n bs hx) := by
  obtain ⟨n4, S1, F1, R1⟩ := T
  unfold cr_xa cd_a
  rw [cd_m2 hm, cd_l0 hl, R1.2.1]
  constructor
  · rintro (k | ⟨q, q1, q2, q3⟩)
    · exact Or.inl k
    · exact Or.inr ⟨q, by omega, (cd_CC q1).mp q3, ((R1.2.2.2.1 q (by omega)).mp q2).2⟩
  · rintro (k | ⟨q, q1, q2, q3⟩)
    · exact Or.inl k
    · have hq := R1.2.2.2.2.2 q q1 q3
      exact Or.inr ⟨q, hq, (R1.2.2.2.1 q (by omega)).mpr ⟨q1, q3⟩, (cd_CC hq).mpr q2⟩
theorem cd_WW {g : Nat → Int32} (T : cd_ST L xs b n rm w fol bs aC aL aT aE aB aF iE iF iL) (hm : mode = 1 ∨ mode = 2) (hl : len < 2 ^ 31)
    (hg : ∀ q, q < n → ∀ v, 1 ≤ v → v ≤ cl_t L xs b q → (¬ g (bs q + v - 1) = 0 ↔ cr_W aC aE hx (cl_t L xs b) bs (cr_xn (nI mode) (nI len) n (cr_C hx (cl_l L xs b) (cl_t L xs b) bs) aF iF) x q v)) :
    cd_H L xs b n bs g = cd_W L xs b n (mode = 2 ∨ len = 0) w fol x (cd_H L xs b n bs hx) := by
  funext p v
  apply propext
  obtain ⟨_, S1, _, _⟩ := id T
  constructor
  · rintro ⟨p1, v1, v2, v3⟩
    obtain ⟨a1, a2, a3⟩ := S1.2.1 p p1
    obtain ⟨k1, k2⟩ := (hg p p1 v v1 v2).mp v3
    rw [a1] at k1
    refine ⟨p1, v1, v2, k1, ?_⟩
    rcases k2 with k | k | k
    · exact Or.inl ⟨k.1, (cd_EE T hm hl p1).mp k.2⟩
    · refine Or.inr (Or.inl ⟨k.1, p1, by omega, by omega, ?_⟩)
      rw [show bs p + (v - 1) - 1 = bs p + v - 2 by omega]; exact k.2
    · exact Or.inr (Or.inr ⟨a2.mp k.1, k.2.1, p1, v1, v2, k.2.2⟩)
  · rintro ⟨p1, v1, v2, k1, k2⟩
    obtain ⟨a1, a2, a3⟩ := S1.2.1 p p1
    refine ⟨p1, v1, v2, (hg p p1 v v1 v2).mpr ⟨by rw [a1]; exact k1, ?_⟩⟩
    rcases k2 with k | k | k
    · exact Or.inl ⟨k.1, (cd_EE T hm hl p1).mpr k.2⟩
    · refine Or.inr (Or.inl ⟨k.1, ?_⟩)
      have := k.2.2.2.2
      rw [show bs p + (v - 1) - 1 = bs p + v - 2 by omega] at this; exact this
    · exact Or.inr (Or.inr ⟨a2.mpr k.1, k.2.1, k.2.2.2.2.2⟩)
/-- X's feed -/
theorem cd_feed {post : Int32 → St2 → Prop} (T : cd_ST L xs b n rm w fol bs aC aL aT aE aB aF iE iF iL) (hm : mode = 1 ∨ mode = 2) (hx8 : x < 8) (t1 : 1 ≤ t) (t16 : t ≤ 16) (hl : len + t ≤ 4000) (x01 : cr_01 hx)
    (HP : ∀ g hit, cr_01 g → cd_H L xs b n bs g = cd_Q L xs b n mode len w fol x (cd_H L xs b n bs hx) t → post (nI (cd_hit (fun j => cd_a L xs b (mode = 2) w (cd_Q L xs b n mode len w fol x (cd_H L xs b n bs hx) j)) t)) (nI 4, nI 224, nI mode, nI 1, nI n, nI rm, nI (len + t), hit, aC, aL, aT, aE, aB, aF, iE, iF, iL, g)) :
    wpX_feed post (nI 4, nI 224, nI mode, nI 1, nI n, nI rm, nI len, xH, aC, aL, aT, aE, aB, aF, iE, iF, iL, hx) (nI x) (nI t) := by
  have G := T.2.1.1
  have loop : ∀ d j g hit, j + d = t → cr_01 g → cd_H L xs b n bs g = cd_Q L xs b n mode len w fol x (cd_H L xs b n bs hx) j →
      wX_feed_50 post (nI x) (nI t) (d + 1) (nI (cd_hit (fun j => cd_a L xs b (mode = 2) w (cd_Q L xs b n mode len w fol x (cd_H L xs b n bs hx) j)) j)) (nI j) (nI 4) (nI 224) (nI mode) (nI 1) (nI n) (nI rm) (nI (len + j)) hit aC aL aT aE aB aF iE iF iL g := by
    intro d
    induction d with
    | zero =>
      intro j g hit hj g01 hg
      have e : j = t := by omega
      subst e
      exact br_t (nI_le (Nat.le_refl j) (by omega)) (HP g hit g01 hg)
    | succ d ih =>
      intro j g hit hj g01 hg
      refine br_f (nI_ge (by omega) (by omega)) (cx_ap hx8 G g01 (fun g' g01' hgW => ?_))
      rw [nI_1 (len + j)]
      have hW : cd_H L xs b n bs g' = cd_Q L xs b n mode len w fol x (cd_H L xs b n bs hx) (j + 1) := by
        rw [cd_WW T hm (by omega) hgW, hg]; rfl
      have hA : cr_xa (nI mode) (nI (len + j + 1)) n (cr_C g' (cl_l L xs b) (cl_t L xs b) bs) iE iL ↔ cd_a L xs b (mode = 2) w (cd_Q L xs b n mode len w fol x (cd_H L xs b n bs hx) (j + 1)) := by
        rw [cd_AA T hm (by omega), hW]
        have : (mode = 2 ∨ len + j + 1 = 0) ↔ mode = 2 := by omega
        unfold cd_a
        rw [this]
      refine cx_acc G (fun z => br_f cr_10 (nm_r (nI_1 _) (nm_r (nI_1 j) ?_))) (fun z => br_t rfl (nm_r (nI_1 j) ?_))
      · have := ih (j + 1) g' (nI (len + j + 1)) (by omega) g01' hW
        rw [cd_h1 (acc := fun j => cd_a L xs b (mode = 2) w (cd_Q L xs b n mode len w fol x (cd_H L xs b n bs hx) j)) (hA.mp z)] at this
        exact this
      · have := ih (j + 1) g' hit (by omega) g01' hW
        rw [cd_h0 (acc := fun j => cd_a L xs b (mode = 2) w (cd_Q L xs b n mode len w fol x (cd_H L xs b n bs hx) j)) (fun q => z (hA.mpr q))] at this
        exact this
  have hm0 : ¬ nI mode = 0 := nI_ne0 (by omega) (by omega)
  have ea : nI len + nI t = nI (len + t) := nI_add len t
  exact br_f hm0 (br_f (nI_pos (by omega)) (br_f (nI_nlt (a := 7) (by omega) (by omega)) (br_f cr_10 (br_f (nI_nlt (b := 1) t1 (by omega)) (br_t (nI_le (b := 16) t16 (by decide)) (br_t (by rw [ea]; exact nI_le (b := 4000) hl (by decide)) ⟨t + 1, loop t 0 hx xH (by omega) x01 rfl⟩))))))
end CDR
