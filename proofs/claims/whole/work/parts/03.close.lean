section CRC
/-! closed flags: what they say of the uppermost item and of the leaves -/
variable {st : Prop} {lv h N top : Nat} {K A B S ln ls par : Nat → Nat} {E : Nat → Prop} {F L : Nat → Nat → Prop} {C : Nat → Prop} {b d : Nat → Int32}
theorem cr_s1 (T : cr_tr lv h N K A B S ln ls par E F L) (D : ∀ n, n < N → cr_dc K A B b d n) (U : ∀ n, n < N → cr_uc K A B ls C b d n) :
    ∀ n, n < N → E n → ¬ b n = 0 → ¬ d n = 0 := by
  refine cr_si (P := fun n => n < N → E n → ¬ b n = 0 → ¬ d n = 0) (fun n ih hn hE hb => ?_)
  have nd := T.1 n hn
  obtain ⟨d1, d2, d3, d4⟩ := D n hn
  obtain ⟨u1, u2, u3, u4, u5, u6⟩ := U n hn
  have h5 := cr_k5 nd
  by_cases k0 : K n = 0
  · exact u1 k0 hb ((cr_nd0 nd k0).2.2.1.mp hE)
  · obtain ⟨hA, hpA, hFA⟩ := cr_ndA nd k0
    have bA := d1 k0 hb
    by_cases k1 : K n = 1
    · obtain ⟨hB, hpB⟩ := cr_ndB nd (Or.inl k1)
      obtain ⟨e, eE, eF, eL⟩ := cr_nd1 nd k1
      have dA := ih (A n) hA (by omega) (eE.mp hE).1 bA
      exact u3 k1 (ih (B n) hB (by omega) (eE.mp hE).2 (d4 k1 dA))
    · by_cases k2 : K n = 2
      · obtain ⟨hB, hpB⟩ := cr_ndB nd (Or.inr k2)
        obtain ⟨eE, eF, eL⟩ := cr_nd2 nd k2
        rcases eE.mp hE with z | z
        · exact u4 k2 (Or.inl (ih (A n) hA (by omega) z bA))
        · exact u4 k2 (Or.inr (ih (B n) hB (by omega) z (d3 k2 hb)))
      · by_cases k4 : K n = 4
        · obtain ⟨_, eE, eF, eL⟩ := cr_nd3 nd (by omega)
          exact u5 k4 (ih (A n) hA (by omega) ((eE.mp hE).elim (fun z => absurd k4 z) id) bA)
        · exact u6 (by omega) (Or.inl hb)
theorem cr_s2 (T : cr_tr lv h N K A B S ln ls par E F L) (D : ∀ n, n < N → cr_dc K A B b d n) (U : ∀ n, n < N → cr_uc K A B ls C b d n) {q : Nat} (hq : C q) :
    ∀ n, n < N → L n q → ¬ d n = 0 := by
  refine cr_si (P := fun n => n < N → L n q → ¬ d n = 0) (fun n ih hn hL => ?_)
  have nd := T.1 n hn
  obtain ⟨d1, d2, d3, d4⟩ := D n hn
  obtain ⟨u1, u2, u3, u4, u5, u6⟩ := U n hn
  have h5 := cr_k5 nd
  by_cases k0 : K n = 0
  · have e := ((cr_nd0 nd k0).2.2.2.2 q).mp hL
    rw [e] at hq
    exact u2 k0 hq
  · obtain ⟨hA, hpA, hFA⟩ := cr_ndA nd k0
    by_cases k1 : K n = 1
    · obtain ⟨hB, hpB⟩ := cr_ndB nd (Or.inl k1)
      obtain ⟨e, eE, eF, eL⟩ := cr_nd1 nd k1
      rcases (eL q).mp hL with z | ⟨z1, z2⟩
      · exact u3 k1 (ih (B n) hB (by omega) z)
      · exact u3 k1 (cr_s1 T D U (B n) (by omega) z1 (d4 k1 (ih (A n) hA (by omega) z2)))
    · by_cases k2 : K n = 2
      · obtain ⟨hB, hpB⟩ := cr_ndB nd (Or.inr k2)
        obtain ⟨eE, eF, eL⟩ := cr_nd2 nd k2
        rcases (eL q).mp hL with z | z
        · exact u4 k2 (Or.inl (ih (A n) hA (by omega) z))
        · exact u4 k2 (Or.inr (ih (B n) hB (by omega) z))
      · obtain ⟨_, eE, eF, eL⟩ := cr_nd3 nd (by omega)
        have dA := ih (A n) hA (by omega) ((eL q).mp hL)
        by_cases k4 : K n = 4
        · exact u5 k4 dA
        · exact u6 (by omega) (Or.inr dA)
theorem cr_s3 (T : cr_tr lv h N K A B S ln ls par E F L) (D : ∀ n, n < N → cr_dc K A B b d n) (U : ∀ n, n < N → cr_uc K A B ls C b d n) {p : Nat} :
    ∀ n, n < N → F n p → ¬ b n = 0 → ¬ b (ln p) = 0 := by
  refine cr_si (P := fun n => n < N → F n p → ¬ b n = 0 → ¬ b (ln p) = 0) (fun n ih hn hF hb => ?_)
  have nd := T.1 n hn
  obtain ⟨d1, d2, d3, d4⟩ := D n hn
  have h5 := cr_k5 nd
  by_cases k0 : K n = 0
  · obtain ⟨_, e2, eE, eF, eL⟩ := cr_nd0 nd k0
    have e := (eF p).mp hF
    rw [e, e2]; exact hb
  · obtain ⟨hA, hpA, hFA⟩ := cr_ndA nd k0
    have bA := d1 k0 hb
    by_cases k1 : K n = 1
    · obtain ⟨hB, hpB⟩ := cr_ndB nd (Or.inl k1)
      obtain ⟨e, eE, eF, eL⟩ := cr_nd1 nd k1
      rcases (eF p).mp hF with z | ⟨z1, z2⟩
      · exact ih (A n) hA (by omega) z bA
      · exact ih (B n) hB (by omega) z2 (d4 k1 (cr_s1 T D U (A n) (by omega) z1 bA))
    · by_cases k2 : K n = 2
      · obtain ⟨hB, hpB⟩ := cr_ndB nd (Or.inr k2)
        obtain ⟨eE, eF, eL⟩ := cr_nd2 nd k2
        rcases (eF p).mp hF with z | z
        · exact ih (A n) hA (by omega) z bA
        · exact ih (B n) hB (by omega) z (d3 k2 hb)
      · obtain ⟨_, eE, eF, eL⟩ := cr_nd3 nd (by omega)
        exact ih (A n) hA (by omega) ((eF p).mp hF) bA
/-- the uppermost item is done -/
theorem cr_R1 (T : cr_tr lv h N K A B S ln ls par E F L) (D : ∀ n, n < N → cr_dc K A B b d n) (U : ∀ n, n < N → cr_uc K A B ls C b d n)
    (I : cr_inv st top N K A B E F L C b d) (ht : top < N) : ¬ d top = 0 ↔ (st ∧ E top) ∨ ∃ q, L top q ∧ C q := by
  constructor
  · intro z
    rcases I.2.2.2 top ht z with w | w
    · exact Or.inr w
    · exact Or.inl ⟨I.1.mp w.2, w.1⟩
  · rintro (⟨z1, z2⟩ | ⟨q, z1, z2⟩)
    · exact cr_s1 T D U top ht z2 (I.1.mpr z1)
    · exact cr_s2 T D U z2 top ht z1
/-- a leaf's node is begun -/
theorem cr_R2 (T : cr_tr lv h N K A B S ln ls par E F L) (D : ∀ n, n < N → cr_dc K A B b d n) (U : ∀ n, n < N → cr_uc K A B ls C b d n)
    (I : cr_inv st top N K A B E F L C b d) (ht : top < N) {p : Nat} (hp : p < lv) : ¬ b (ln p) = 0 ↔ cr_en st top N K A B F L C p := by
  obtain ⟨l1, l2, l3⟩ := T.2.2 p hp
  constructor
  · intro z
    refine I.2.2.1 (ln p) l1 z p ?_
    have nd := T.1 (ln p) l1
    exact ((cr_nd0 nd l2).2.2.2.1 p).mpr l3.symm
  · rintro (⟨z1, z2⟩ | ⟨q, z1, m, hm, z2⟩)
    · exact cr_s3 T D U top ht z2 (I.1.mpr z1)
    · have nd := T.1 m hm
      obtain ⟨d1, d2, d3, d4⟩ := D m hm
      rcases z2 with ⟨k1, zL, zF⟩ | ⟨k3, zL, zF⟩
      · obtain ⟨hA, hpA, hFA⟩ := cr_ndA nd (by omega)
        obtain ⟨hB, hpB⟩ := cr_ndB nd (Or.inl k1)
        exact cr_s3 T D U (B m) (by omega) zF (d4 k1 (cr_s2 T D U z1 (A m) (by omega) zL))
      · obtain ⟨hA, hpA, hFA⟩ := cr_ndA nd (by omega)
        exact cr_s3 T D U (A m) (by omega) zF (d2 k3 (cr_s2 T D U z1 (A m) (by omega) zL))
/-- at the start of a spread -/
theorem cr_inv0 {t : Nat} (T : cr_tr lv h N K A B S ln ls par E F L) (hN : N ≤ 1000) (ht : par top = 1000 + t) (hb : ∀ n, n < N → n ≠ top → b n = 0) (hd : ∀ n, n < N → d n = 0)
    (hs : ¬ b top = 0 ↔ st) : cr_inv st top N K A B E F L C b d := by
  have nc : ∀ m, m < N → ∀ c, c < N → par c = m → b c = 0 := by
    intro m hm c hc hp
    refine hb c hc (fun e => ?_)
    subst e
    omega
  refine ⟨hs, fun m hm => ?_, fun n hn z p hp => ?_, fun n hn z => absurd (hd n hn) z⟩
  · have nd := T.1 m hm
    refine ⟨fun hk z => ?_, fun hk z => ?_, fun hk z => ?_, fun hk z => ?_, fun hk z => ?_⟩
    · obtain ⟨hA, hpA, hFA⟩ := cr_ndA nd (by omega)
      exact absurd (nc m hm _ (by omega) hpA) z
    · obtain ⟨hB, hpB⟩ := cr_ndB nd (by omega)
      exact absurd (nc m hm _ (by omega) hpB) z
    · obtain ⟨hA, hpA, hFA⟩ := cr_ndA nd (by omega)
      obtain ⟨hB, hpB⟩ := cr_ndB nd (by omega)
      rcases z with z | z
      · exact absurd (nc m hm _ (by omega) hpA) z
      · exact absurd (nc m hm _ (by omega) hpB) z
    · obtain ⟨hA, hpA, hFA⟩ := cr_ndA nd (by omega)
      exact absurd (nc m hm _ (by omega) hpA) z
    · obtain ⟨hA, hpA, hFA⟩ := cr_ndA nd (by omega)
      exact absurd (nc m hm _ (by omega) hpA) z
  · by_cases e : n = top
    · subst e
      exact Or.inl ⟨hs.mp z, hp⟩
    · exact absurd (hb n hn e) z
/-! how many flags are set -/
def cr_ct (b : Nat → Int32) : Nat → Nat
  | 0 => 0
  | n + 1 => cr_ct b n + (if b n = 0 then 0 else 1)
theorem cr_ct_le (b : Nat → Int32) : ∀ n, cr_ct b n ≤ n := by
  intro n
  induction n with
  | zero => exact Nat.le_refl 0
  | succ n ih =>
    show cr_ct b n + (if b n = 0 then 0 else 1) ≤ n + 1
    split <;> omega
theorem cr_ct_ge {k : Nat} {x : Int32} : ∀ n, n ≤ k → cr_ct (upd b k x) n = cr_ct b n := by
  intro n
  induction n with
  | zero => exact fun _ => rfl
  | succ n ih =>
    intro hk
    show cr_ct (upd b k x) n + (if upd b k x n = 0 then 0 else 1) = cr_ct b n + (if b n = 0 then 0 else 1)
    rw [ih (by omega), pk_un (show n ≠ k by omega)]
theorem cr_ct_up {k : Nat} (hb : b k = 0) : ∀ n, k < n → cr_ct (upd b k 1) n = cr_ct b n + 1 := by
  intro n
  induction n with
  | zero => intro hk; omega
  | succ n ih =>
    intro hk
    show cr_ct (upd b k 1) n + (if upd b k 1 n = 0 then 0 else 1) = cr_ct b n + (if b n = 0 then 0 else 1) + 1
    by_cases e : n = k
    · subst e
      rw [cr_ct_ge n (Nat.le_refl n), pk_us, if_pos hb, if_neg (by decide)]
    · rw [ih (by omega), pk_un e]; omega
/-! bounds of the sets -/
theorem cr_FL (T : cr_tr lv h N K A B S ln ls par E F L) {p : Nat} : ∀ n, n < N → (F n p → p < lv) ∧ (L n p → p < lv) := by
  refine cr_si (P := fun n => n < N → (F n p → p < lv) ∧ (L n p → p < lv)) (fun n ih hn => ?_)
  have nd := T.1 n hn
  have h5 := cr_k5 nd
  by_cases k0 : K n = 0
  · obtain ⟨e1, e2, eE, eF, eL⟩ := cr_nd0 nd k0
    exact ⟨fun z => by rw [(eF p).mp z]; exact e1, fun z => by rw [(eL p).mp z]; exact e1⟩
  · obtain ⟨hA, hpA, hFA⟩ := cr_ndA nd k0
    have iA := ih (A n) hA (by omega)
    by_cases k1 : K n = 1
    · obtain ⟨hB, hpB⟩ := cr_ndB nd (Or.inl k1)
      have iB := ih (B n) hB (by omega)
      obtain ⟨e, eE, eF, eL⟩ := cr_nd1 nd k1
      exact ⟨fun z => ((eF p).mp z).elim iA.1 (fun w => iB.1 w.2), fun z => ((eL p).mp z).elim iB.2 (fun w => iA.2 w.2)⟩
    · by_cases k2 : K n = 2
      · obtain ⟨hB, hpB⟩ := cr_ndB nd (Or.inr k2)
        have iB := ih (B n) hB (by omega)
        obtain ⟨eE, eF, eL⟩ := cr_nd2 nd k2
        exact ⟨fun z => ((eF p).mp z).elim iA.1 iB.1, fun z => ((eL p).mp z).elim iA.2 iB.2⟩
      · obtain ⟨_, eE, eF, eL⟩ := cr_nd3 nd (by omega)
        exact ⟨fun z => iA.1 ((eF p).mp z), fun z => iA.2 ((eL p).mp z)⟩
theorem cr_foL (T : cr_tr lv h N K A B S ln ls par E F L) {q p : Nat} (z : cr_fo N K A B F L q p) : q < lv ∧ p < lv := by
  obtain ⟨m, hm, z⟩ := z
  have nd := T.1 m hm
  rcases z with ⟨k1, zL, zF⟩ | ⟨k3, zL, zF⟩
  · obtain ⟨hA, hpA, hFA⟩ := cr_ndA nd (by omega)
    obtain ⟨hB, hpB⟩ := cr_ndB nd (Or.inl k1)
    exact ⟨(cr_FL T (A m) (by omega)).2 zL, (cr_FL T (B m) (by omega)).1 zF⟩
  · obtain ⟨hA, hpA, hFA⟩ := cr_ndA nd (by omega)
    exact ⟨(cr_FL T (A m) (by omega)).2 zL, (cr_FL T (A m) (by omega)).1 zF⟩
end CRC
