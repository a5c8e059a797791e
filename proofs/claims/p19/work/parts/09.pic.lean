section CBP
/-! building: the picture -/
variable {L b n i lv h rm : Nat} {xs : Nat → Int32} {bs : Nat → Nat} {aC aL aT aE aB aF iE iF iL f' e1 f1 l1 : Nat → Int32} {fol : Int32}
def cb_R (lv : Nat) (iE iF iL : Nat → Int32) (j w : Nat) : Prop :=
  w < 512 ∧ (¬ iE j = 0 ↔ w.testBit 8 = true) ∧ (∀ p, p < 32 → (bt (iF j) p = true ↔ p < 4 ∧ w.testBit (4 + p) = true)) ∧ (∀ p, p < 32 → (bt (iL j) p = true ↔ p < 4 ∧ w.testBit p = true)) ∧
  (∀ p, p < 4 → w.testBit (4 + p) = true → p < lv) ∧ (∀ p, p < 4 → w.testBit p = true → p < lv)
def cb_K (R : Nat → Nat → Prop) : Nat → Nat → Prop
  | 0, s => s = 0
  | h + 1, s => R h (s % 512) ∧ cb_K R h (s / 512)
theorem cb_Km {R R' : Nat → Nat → Prop} : ∀ h s, (∀ j, j < h → ∀ w, R j w → R' j w) → cb_K R h s → cb_K R' h s := by
  intro h
  induction h with
  | zero => exact fun s _ k => k
  | succ h ih => exact fun s m k => ⟨m h (by omega) _ k.1, ih (s / 512) (fun j hj => m j (by omega)) k.2⟩
theorem cb_Kl {R : Nat → Nat → Prop} : ∀ h s, cb_K R h s → s < 512 ^ h := by
  intro h
  induction h with
  | zero =>
    intro s k
    have e : s = 0 := k
    subst e; decide
  | succ h ih =>
    intro s k
    have h1 := ih (s / 512) k.2
    rw [Nat.pow_succ]
    generalize 512 ^ h = m at h1 ⊢
    omega
theorem cb_K36 {R : Nat → Nat → Prop} {h s : Nat} (hh : h ≤ 4) (k : cb_K R h s) : s < 2 ^ 36 := by
  have h1 := cb_Kl h s k
  have h2 : 512 ^ h ≤ 512 ^ 4 := Nat.pow_le_pow_right (by decide) hh
  have h3 : (512 : Nat) ^ 4 = 2 ^ 36 := by decide
  omega
def cb_F (lv : Nat) (fol : Int32) (aF : Nat → Int32) : Prop :=
  (∀ q p, q < 4 → p < 4 → (bt fol (4 * q + p) = true ↔ q < lv ∧ bt (aF q) p = true)) ∧ (∀ q, q < lv → ∀ p, p < 4 → bt (aF q) p = true → p < lv)
def cb_S (L : Nat) (xs : Nat → Int32) (b lv rm : Nat) (bs : Nat → Nat) (aC aL aT aE aB : Nat → Int32) : Prop :=
  cr_lf lv (cl_l L xs b) (cl_t L xs b) bs aL aT aE aB ∧ (∀ p, p < lv → aC p = nI (cl_m L xs b p) ∧ (¬ aE p = 0 ↔ cl_e L xs b p) ∧ bs p + cl_t L xs b p ≤ 224 - rm) ∧ rm ≤ 224
theorem cb_Srm {rm' : Nat} (h : cb_S L xs b lv rm bs aC aL aT aE aB) (hr : rm' ≤ rm) : cb_S L xs b lv rm' bs aC aL aT aE aB := by
  obtain ⟨s1, s2, s3⟩ := h
  exact ⟨s1, fun p hp => ⟨(s2 p hp).1, (s2 p hp).2.1, by have := (s2 p hp).2.2; omega⟩, by omega⟩
theorem cb_Rn {l w' : Nat} {e pe : Prop} {f la pf pl : Nat → Prop} (it : cr_it l iE iF iL e1 f1 l1 pe pf pl) (J : cb_J w' e f la) (he : pe ↔ e) (hf : ∀ p, p < 32 → (pf p ↔ p < 4 ∧ f p)) (hl : ∀ p, p < 32 → (pl p ↔ p < 4 ∧ la p))
    (bf : ∀ p, p < 4 → f p → p < lv) (bl : ∀ p, p < 4 → la p → p < lv) : cb_R lv e1 f1 l1 l w' := by
  obtain ⟨j1, j2, j3, j4⟩ := J
  refine ⟨j1, (it.2.1.trans he).trans j2.symm, fun p hp => ((it.2.2.1 p).trans (hf p hp)).trans ?_, fun p hp => ((it.2.2.2 p).trans (hl p hp)).trans ?_, fun p hp z => bf p hp ((j3 p hp).mp z), fun p hp z => bl p hp ((j4 p hp).mp z)⟩
  · exact ⟨fun z => ⟨z.1, (j3 p z.1).mpr z.2⟩, fun z => ⟨z.1, (j3 p z.1).mp z.2⟩⟩
  · exact ⟨fun z => ⟨z.1, (j4 p z.1).mpr z.2⟩, fun z => ⟨z.1, (j4 p z.1).mp z.2⟩⟩
theorem cb_Ro {l j w : Nat} {pe : Prop} {pf pl : Nat → Prop} (it : cr_it l iE iF iL e1 f1 l1 pe pf pl) (hj : j ≠ l) (R : cb_R lv iE iF iL j w) : cb_R lv e1 f1 l1 j w := by
  obtain ⟨o1, o2, o3⟩ := it.1 j hj
  unfold cb_R at R ⊢
  rw [o1, o2, o3]; exact R
theorem cb_Fn {cr : Int32} {Al Bl : Nat → Prop} (F : cb_F lv fol aF) (hc : ∀ q p, q < 4 → p < 4 → (bt cr (4 * q + p) = true ↔ Al q ∧ Bl p)) (hf : ∀ q, q < lv → ∀ p, p < 4 → (bt (f' q) p = true ↔ bt (aF q) p = true ∨ (Al q ∧ Bl p)))
    (ha : ∀ q, q < 4 → Al q → q < lv) (hb : ∀ p, p < 4 → Bl p → p < lv) : cb_F lv (fol ||| cr) f' := by
  refine ⟨fun q p hq hp => ?_, fun q hq p hp z => ?_⟩
  · rw [cr_bo, F.1 q p hq hp, hc q p hq hp]
    constructor
    · rintro (⟨z1, z2⟩ | z)
      · exact ⟨z1, (hf q z1 p hp).mpr (Or.inl z2)⟩
      · exact ⟨ha q hq z.1, (hf q (ha q hq z.1) p hp).mpr (Or.inr z)⟩
    · rintro ⟨z1, z2⟩
      exact ((hf q z1 p hp).mp z2).elim (fun z => Or.inl ⟨z1, z⟩) Or.inr
  · exact ((hf q hq p hp).mp z).elim (F.2 q hq p hp) (fun z => hb p hp z.2)
/-- in the midst of a leaf's operators: i leaves before it, h items below the uppermost one -/
def cb_I (L : Nat) (xs : Nat → Int32) (b n i h j u rm w s : Nat) (fol : Int32) (bs : Nat → Nat) (aC aL aT aE aB aF iE iF iL : Nat → Int32) : Prop :=
  (i < n ∧ n ≤ 4 ∧ h ≤ i ∧ (u = 0 ∨ (3 ≤ u ∧ u ≤ 5)) ∧ 224 + (if u = 0 then 0 else 1) ≤ rm + 47 * (i + 1) + (i - h) ∧ (i + 1 = n → h = 0 ∨ h + j ≤ 3)) ∧
  cb_S L xs b (i + 1) rm bs aC aL aT aE aB ∧ cb_F (i + 1) fol aF ∧ cb_K (cb_R (i + 1) iE iF iL) h s ∧ cb_R (i + 1) iE iF iL h w
/-- between two leaves -/
def cb_O (L : Nat) (xs : Nat → Int32) (b n i h rm s : Nat) (fol : Int32) (bs : Nat → Nat) (aC aL aT aE aB aF iE iF iL : Nat → Int32) : Prop :=
  (i ≤ n ∧ n ≤ 4 ∧ h ≤ i ∧ 224 ≤ rm + 47 * i + (i - h) ∧ (i = n → h = 1)) ∧ cb_S L xs b i rm bs aC aL aT aE aB ∧ cb_F i fol aF ∧ cb_K (cb_R i iE iF iL) h s
end CBP
