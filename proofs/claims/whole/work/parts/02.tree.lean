section CRT
/-! the tree of the expression, and the two flags of its nodes: pure -/
def cr_u {α : Type _} (f : Nat → α) (k : Nat) (x : α) : Nat → α := fun j => if j = k then x else f j
theorem cr_us {α : Type _} {f : Nat → α} {k : Nat} {x : α} : cr_u f k x k = x := if_pos rfl
theorem cr_un {α : Type _} {f : Nat → α} {k j : Nat} {x : α} (h : j ≠ k) : cr_u f k x j = f j := if_neg h
theorem cr_si {P : Nat → Prop} (h : ∀ n, (∀ m, m < n → P m) → P n) (n : Nat) : P n := Nat.strongRecOn n h
/-- what a node says of its children -/
def cr_nd (lv : Nat) (K A B ln ls par : Nat → Nat) (E : Nat → Prop) (F L : Nat → Nat → Prop) (n : Nat) : Prop :=
  (K n = 0 ∧ A n < lv ∧ ln (A n) = n ∧ (E n ↔ ls (A n) = 0) ∧ (∀ p, F n p ↔ p = A n) ∧ (∀ p, L n p ↔ p = A n)) ∨
  (K n = 1 ∧ A n < n ∧ B n < n ∧ A n ≠ B n ∧ par (A n) = n ∧ par (B n) = n ∧ (E n ↔ E (A n) ∧ E (B n)) ∧ (∀ p, F n p ↔ F (A n) p ∨ (E (A n) ∧ F (B n) p)) ∧ (∀ p, L n p ↔ L (B n) p ∨ (E (B n) ∧ L (A n) p))) ∨
  (K n = 2 ∧ A n < n ∧ B n < n ∧ par (A n) = n ∧ par (B n) = n ∧ (E n ↔ E (A n) ∨ E (B n)) ∧ (∀ p, F n p ↔ F (A n) p ∨ F (B n) p) ∧ (∀ p, L n p ↔ L (A n) p ∨ L (B n) p)) ∨
  (3 ≤ K n ∧ K n ≤ 5 ∧ A n < n ∧ par (A n) = n ∧ (E n ↔ K n ≠ 4 ∨ E (A n)) ∧ (∀ p, F n p ↔ F (A n) p) ∧ (∀ p, L n p ↔ L (A n) p))
def cr_tr (lv h N : Nat) (K A B S ln ls par : Nat → Nat) (E : Nat → Prop) (F L : Nat → Nat → Prop) : Prop :=
  (∀ n, n < N → cr_nd lv K A B ln ls par E F L n) ∧ (∀ i, i < h → S i < N ∧ par (S i) = 1000 + i) ∧ (∀ p, p < lv → ln p < N ∧ K (ln p) = 0 ∧ A (ln p) = p)
/-- leaf p can come right after leaf q -/
def cr_fo (N : Nat) (K A B : Nat → Nat) (F L : Nat → Nat → Prop) (q p : Nat) : Prop :=
  ∃ m, m < N ∧ ((K m = 1 ∧ L (A m) q ∧ F (B m) p) ∨ ((K m = 3 ∨ K m = 4) ∧ L (A m) q ∧ F (A m) p))
/-- leaf p can be entered now -/
def cr_en (st : Prop) (top N : Nat) (K A B : Nat → Nat) (F L : Nat → Nat → Prop) (C : Nat → Prop) (p : Nat) : Prop :=
  (st ∧ F top p) ∨ ∃ q, C q ∧ cr_fo N K A B F L q p
/-- where the begun flags of a node's children can have come from -/
def cr_pm (K A B : Nat → Nat) (E : Nat → Prop) (L : Nat → Nat → Prop) (C : Nat → Prop) (b : Nat → Int32) (m : Nat) : Prop :=
  (K m = 1 → ¬ b (A m) = 0 → ¬ b m = 0) ∧
  (K m = 1 → ¬ b (B m) = 0 → (∃ q, L (A m) q ∧ C q) ∨ (E (A m) ∧ ¬ b m = 0)) ∧
  (K m = 2 → (¬ b (A m) = 0 ∨ ¬ b (B m) = 0) → ¬ b m = 0) ∧
  (K m = 5 → ¬ b (A m) = 0 → ¬ b m = 0) ∧
  (K m = 3 ∨ K m = 4 → ¬ b (A m) = 0 → ¬ b m = 0 ∨ ∃ q, L (A m) q ∧ C q)
def cr_inv (st : Prop) (top N : Nat) (K A B : Nat → Nat) (E : Nat → Prop) (F L : Nat → Nat → Prop) (C : Nat → Prop) (b d : Nat → Int32) : Prop :=
  (¬ b top = 0 ↔ st) ∧ (∀ m, m < N → cr_pm K A B E L C b m) ∧
  (∀ n, n < N → ¬ b n = 0 → ∀ p, F n p → cr_en st top N K A B F L C p) ∧
  (∀ n, n < N → ¬ d n = 0 → (∃ q, L n q ∧ C q) ∨ (E n ∧ ¬ b n = 0))
/-- a node's rules of the way down, kept -/
def cr_dc (K A B : Nat → Nat) (b d : Nat → Int32) (n : Nat) : Prop :=
  (K n ≠ 0 → ¬ b n = 0 → ¬ b (A n) = 0) ∧ (K n = 3 ∨ K n = 4 → ¬ d (A n) = 0 → ¬ b (A n) = 0) ∧
  (K n = 2 → ¬ b n = 0 → ¬ b (B n) = 0) ∧ (K n = 1 → ¬ d (A n) = 0 → ¬ b (B n) = 0)
/-- .. and of the way up -/
def cr_uc (K A B ls : Nat → Nat) (C : Nat → Prop) (b d : Nat → Int32) (n : Nat) : Prop :=
  (K n = 0 → ¬ b n = 0 → ls (A n) = 0 → ¬ d n = 0) ∧ (K n = 0 → C (A n) → ¬ d n = 0) ∧ (K n = 1 → ¬ d (B n) = 0 → ¬ d n = 0) ∧
  (K n = 2 → ¬ d (A n) = 0 ∨ ¬ d (B n) = 0 → ¬ d n = 0) ∧ (K n = 4 → ¬ d (A n) = 0 → ¬ d n = 0) ∧
  (K n = 3 ∨ K n = 5 → ¬ b n = 0 ∨ ¬ d (A n) = 0 → ¬ d n = 0)
variable {st : Prop} {lv h N top : Nat} {K A B S ln ls par : Nat → Nat} {E : Nat → Prop} {F L : Nat → Nat → Prop} {C : Nat → Prop} {b d : Nat → Int32}
theorem cr_ndA {n : Nat} (H : cr_nd lv K A B ln ls par E F L n) (hk : K n ≠ 0) : A n < n ∧ par (A n) = n ∧ ∀ p, F (A n) p → F n p := by
  rcases H with H | H | H | H
  · exact absurd H.1 hk
  · exact ⟨H.2.1, H.2.2.2.2.1, fun p hp => (H.2.2.2.2.2.2.2.1 p).mpr (Or.inl hp)⟩
  · exact ⟨H.2.1, H.2.2.2.1, fun p hp => (H.2.2.2.2.2.2.1 p).mpr (Or.inl hp)⟩
  · exact ⟨H.2.2.1, H.2.2.2.1, fun p hp => (H.2.2.2.2.2.1 p).mpr hp⟩
theorem cr_ndB {n : Nat} (H : cr_nd lv K A B ln ls par E F L n) (hk : K n = 1 ∨ K n = 2) : B n < n ∧ par (B n) = n := by
  rcases H with H | H | H | H
  · omega
  · exact ⟨H.2.2.1, H.2.2.2.2.2.1⟩
  · exact ⟨H.2.2.1, H.2.2.2.2.1⟩
  · omega
theorem cr_nd1 {n : Nat} (H : cr_nd lv K A B ln ls par E F L n) (hk : K n = 1) : A n ≠ B n ∧ (E n ↔ E (A n) ∧ E (B n)) ∧ (∀ p, F n p ↔ F (A n) p ∨ (E (A n) ∧ F (B n) p)) ∧ (∀ p, L n p ↔ L (B n) p ∨ (E (B n) ∧ L (A n) p)) := by
  rcases H with H | H | H | H
  · omega
  · exact ⟨H.2.2.2.1, H.2.2.2.2.2.2⟩
  · omega
  · omega
theorem cr_nd2 {n : Nat} (H : cr_nd lv K A B ln ls par E F L n) (hk : K n = 2) : (E n ↔ E (A n) ∨ E (B n)) ∧ (∀ p, F n p ↔ F (A n) p ∨ F (B n) p) ∧ (∀ p, L n p ↔ L (A n) p ∨ L (B n) p) := by
  rcases H with H | H | H | H
  · omega
  · omega
  · exact H.2.2.2.2.2
  · omega
theorem cr_nd3 {n : Nat} (H : cr_nd lv K A B ln ls par E F L n) (hk : 3 ≤ K n) : K n ≤ 5 ∧ (E n ↔ K n ≠ 4 ∨ E (A n)) ∧ (∀ p, F n p ↔ F (A n) p) ∧ (∀ p, L n p ↔ L (A n) p) := by
  rcases H with H | H | H | H
  · omega
  · omega
  · omega
  · exact ⟨H.2.1, H.2.2.2.2⟩
theorem cr_nd0 {n : Nat} (H : cr_nd lv K A B ln ls par E F L n) (hk : K n = 0) : A n < lv ∧ ln (A n) = n ∧ (E n ↔ ls (A n) = 0) ∧ (∀ p, F n p ↔ p = A n) ∧ (∀ p, L n p ↔ p = A n) := by
  rcases H with H | H | H | H
  · exact H.2
  · omega
  · omega
  · omega
theorem cr_k5 {n : Nat} (H : cr_nd lv K A B ln ls par E F L n) : K n ≤ 5 := by
  rcases H with H | H | H | H <;> omega
theorem cr_mono {c j : Nat} (hj : ¬ b j = 0) : ¬ upd b c 1 j = 0 := by
  by_cases e : j = c
  · subst e; rw [pk_us]; decide
  · rw [pk_un e]; exact hj
theorem cr_unm {c j : Nat} (e : j ≠ c) (hj : ¬ upd b c 1 j = 0) : ¬ b j = 0 := by
  rw [pk_un e] at hj; exact hj
/-- a child is entered -/
theorem cr_ent {m c t : Nat} (T : cr_tr lv h N K A B S ln ls par E F L) (hN : N ≤ 1000) (ht : par top = 1000 + t) (hm : m < N) (hp : par c = m)
    (I : cr_inv st top N K A B E F L C b d) (hP : cr_pm K A B E L C (upd b c 1) m) (hF : ∀ p, F c p → cr_en st top N K A B F L C p) :
    cr_inv st top N K A B E F L C (upd b c 1) d := by
  obtain ⟨I0, I1, I3, I2⟩ := I
  have hct : top ≠ c := by intro e; subst e; omega
  refine ⟨?_, fun m' hm' => ?_, fun n hn hb p hp' => ?_, fun n hn hd => ?_⟩
  · rw [pk_un hct]; exact I0
  · by_cases e : m' = m
    · subst e; exact hP
    · have nd := T.1 m' hm'
      obtain ⟨p1, p2, p3, p4, p5⟩ := I1 m' hm'
      refine ⟨fun hk hb => ?_, fun hk hb => ?_, fun hk hb => ?_, fun hk hb => ?_, fun hk hb => ?_⟩
      · have hA := (cr_ndA nd (by omega)).2.1
        exact cr_mono (p1 hk (cr_unm (by intro z; rw [z] at hA; omega) hb))
      · have hB := (cr_ndB nd (by omega)).2
        rcases p2 hk (cr_unm (by intro z; rw [z] at hB; omega) hb) with z | z
        · exact Or.inl z
        · exact Or.inr ⟨z.1, cr_mono z.2⟩
      · have hA := (cr_ndA nd (by omega)).2.1
        have hB := (cr_ndB nd (by omega)).2
        rcases hb with hb | hb
        · exact cr_mono (p3 hk (Or.inl (cr_unm (by intro z; rw [z] at hA; omega) hb)))
        · exact cr_mono (p3 hk (Or.inr (cr_unm (by intro z; rw [z] at hB; omega) hb)))
      · have hA := (cr_ndA nd (by omega)).2.1
        exact cr_mono (p4 hk (cr_unm (by intro z; rw [z] at hA; omega) hb))
      · have hA := (cr_ndA nd (by omega)).2.1
        rcases p5 hk (cr_unm (by intro z; rw [z] at hA; omega) hb) with z | z
        · exact Or.inl (cr_mono z)
        · exact Or.inr z
  · by_cases e : n = c
    · subst e; exact hF p hp'
    · exact I3 n hn (cr_unm e hb) p hp'
  · rcases I2 n hn hd with z | z
    · exact Or.inl z
    · exact Or.inr ⟨z.1, cr_mono z.2⟩
/-- the left child of n is entered -/
theorem cr_entA {n t : Nat} (T : cr_tr lv h N K A B S ln ls par E F L) (hN : N ≤ 1000) (ht : par top = 1000 + t) (hn : n < N) (hk : K n ≠ 0)
    (I : cr_inv st top N K A B E F L C b d) (hj : ¬ b n = 0 ∨ ((K n = 3 ∨ K n = 4) ∧ ¬ d (A n) = 0)) :
    cr_inv st top N K A B E F L C (upd b (A n) 1) d := by
  have nd := T.1 n hn
  obtain ⟨hA, hpA, hFA⟩ := cr_ndA nd hk
  obtain ⟨I0, I1, I3, I2⟩ := I
  obtain ⟨p1, p2, p3, p4, p5⟩ := I1 n hn
  have hj' : ¬ b n = 0 ∨ ((K n = 3 ∨ K n = 4) ∧ ((∃ q, L (A n) q ∧ C q) ∨ ¬ b (A n) = 0)) := by
    rcases hj with z | ⟨z1, z2⟩
    · exact Or.inl z
    · rcases I2 (A n) (by omega) z2 with w | w
      · exact Or.inr ⟨z1, Or.inl w⟩
      · exact Or.inr ⟨z1, Or.inr w.2⟩
  refine cr_ent T hN ht hn hpA ⟨I0, I1, I3, I2⟩ ?_ ?_
  · refine ⟨fun hk hb => ?_, fun hk hb => ?_, fun hk hb => ?_, fun hk hb => ?_, fun hk hb => ?_⟩
    · exact cr_mono (hj'.elim id (fun z => by omega))
    · have e := (cr_nd1 nd hk).1
      rcases p2 hk (cr_unm (fun z => e z.symm) hb) with z | z
      · exact Or.inl z
      · exact Or.inr ⟨z.1, cr_mono z.2⟩
    · exact cr_mono (hj'.elim id (fun z => by omega))
    · exact cr_mono (hj'.elim id (fun z => by omega))
    · rcases hj' with z | ⟨_, z | z⟩
      · exact Or.inl (cr_mono z)
      · exact Or.inr z
      · rcases p5 hk z with w | w
        · exact Or.inl (cr_mono w)
        · exact Or.inr w
  · intro p hp
    rcases hj' with z | ⟨zk, ⟨q, z1, z2⟩ | z⟩
    · exact I3 n hn z p (hFA p hp)
    · exact Or.inr ⟨q, z2, n, hn, Or.inr ⟨zk, z1, hp⟩⟩
    · exact I3 (A n) (by omega) z p hp
/-- the right child of an ALT is entered -/
theorem cr_entB2 {n t : Nat} (T : cr_tr lv h N K A B S ln ls par E F L) (hN : N ≤ 1000) (ht : par top = 1000 + t) (hn : n < N) (hk : K n = 2)
    (I : cr_inv st top N K A B E F L C b d) (hj : ¬ b n = 0) : cr_inv st top N K A B E F L C (upd b (B n) 1) d := by
  have nd := T.1 n hn
  obtain ⟨hB, hpB⟩ := cr_ndB nd (Or.inr hk)
  refine cr_ent T hN ht hn hpB I ?_ ?_
  · refine ⟨fun hk hb => ?_, fun hk hb => ?_, fun hk hb => ?_, fun hk hb => ?_, fun hk hb => ?_⟩
    · exact cr_mono hj
    · omega
    · exact cr_mono hj
    · exact cr_mono hj
    · exact Or.inl (cr_mono hj)
  · intro p hp
    exact I.2.2.1 n hn hj p (((cr_nd2 nd hk).2.1 p).mpr (Or.inr hp))
/-- the right child of a CAT is entered -/
theorem cr_entB1 {n t : Nat} (T : cr_tr lv h N K A B S ln ls par E F L) (hN : N ≤ 1000) (ht : par top = 1000 + t) (hn : n < N) (hk : K n = 1)
    (I : cr_inv st top N K A B E F L C b d) (hj : ¬ d (A n) = 0) : cr_inv st top N K A B E F L C (upd b (B n) 1) d := by
  have nd := T.1 n hn
  obtain ⟨hA, hpA, hFA⟩ := cr_ndA nd (by omega)
  obtain ⟨hB, hpB⟩ := cr_ndB nd (Or.inl hk)
  obtain ⟨I0, I1, I3, I2⟩ := I
  obtain ⟨p1, p2, p3, p4, p5⟩ := I1 n hn
  obtain ⟨e, eE, eF, eL⟩ := cr_nd1 nd hk
  have hj' : (∃ q, L (A n) q ∧ C q) ∨ (E (A n) ∧ ¬ b n = 0) := by
    rcases I2 (A n) (by omega) hj with z | z
    · exact Or.inl z
    · exact Or.inr ⟨z.1, p1 hk z.2⟩
  refine cr_ent T hN ht hn hpB ⟨I0, I1, I3, I2⟩ ?_ ?_
  · refine ⟨fun hk hb => ?_, fun hk hb => ?_, fun hk hb => ?_, fun hk hb => ?_, fun hk hb => ?_⟩
    · exact cr_mono (p1 hk (cr_unm e hb))
    · rcases hj' with z | z
      · exact Or.inl z
      · exact Or.inr ⟨z.1, cr_mono z.2⟩
    · omega
    · omega
    · omega
  · intro p hp
    rcases hj' with ⟨q, z1, z2⟩ | z
    · exact Or.inr ⟨q, z2, n, hn, Or.inl ⟨hk, z1, hp⟩⟩
    · exact I3 n hn z.2 p ((eF p).mpr (Or.inr ⟨z.1, hp⟩))
/-- a node is done -/
theorem cr_don {n : Nat} (I : cr_inv st top N K A B E F L C b d) (hd : (∃ q, L n q ∧ C q) ∨ (E n ∧ ¬ b n = 0)) :
    cr_inv st top N K A B E F L C b (upd d n 1) := by
  refine ⟨I.1, I.2.1, I.2.2.1, fun m hm hb => ?_⟩
  by_cases e : m = n
  · subst e; exact hd
  · exact I.2.2.2 m hm (cr_unm e hb)
/-- .. for a reason that the way up knows -/
def cr_ue (K A B ls : Nat → Nat) (C : Nat → Prop) (b d : Nat → Int32) (n : Nat) : Prop :=
  (K n = 0 ∧ ((¬ b n = 0 ∧ ls (A n) = 0) ∨ C (A n))) ∨ (K n = 1 ∧ ¬ d (B n) = 0) ∨ (K n = 2 ∧ (¬ d (A n) = 0 ∨ ¬ d (B n) = 0)) ∨
  (K n = 4 ∧ ¬ d (A n) = 0) ∨ ((K n = 3 ∨ K n = 5) ∧ (¬ b n = 0 ∨ ¬ d (A n) = 0))
theorem cr_upd {n : Nat} (T : cr_tr lv h N K A B S ln ls par E F L) (hn : n < N) (I : cr_inv st top N K A B E F L C b d) (hu : cr_ue K A B ls C b d n) :
    cr_inv st top N K A B E F L C b (upd d n 1) := by
  refine cr_don I ?_
  have nd := T.1 n hn
  obtain ⟨I0, I1, I3, I2⟩ := I
  obtain ⟨p1, p2, p3, p4, p5⟩ := I1 n hn
  rcases hu with ⟨hk, hu⟩ | ⟨hk, hu⟩ | ⟨hk, hu⟩ | ⟨hk, hu⟩ | ⟨hk, hu⟩
  · obtain ⟨_, _, eE, eF, eL⟩ := cr_nd0 nd hk
    rcases hu with hu | hu
    · exact Or.inr ⟨eE.mpr hu.2, hu.1⟩
    · exact Or.inl ⟨A n, (eL _).mpr rfl, hu⟩
  · obtain ⟨e, eE, eF, eL⟩ := cr_nd1 nd hk
    obtain ⟨hB, hpB⟩ := cr_ndB nd (Or.inl hk)
    rcases I2 (B n) (by omega) hu with ⟨q, z1, z2⟩ | ⟨z1, z2⟩
    · exact Or.inl ⟨q, (eL q).mpr (Or.inl z1), z2⟩
    · rcases p2 hk z2 with ⟨q, w1, w2⟩ | ⟨w1, w2⟩
      · exact Or.inl ⟨q, (eL q).mpr (Or.inr ⟨z1, w1⟩), w2⟩
      · exact Or.inr ⟨eE.mpr ⟨w1, z1⟩, w2⟩
  · obtain ⟨eE, eF, eL⟩ := cr_nd2 nd hk
    obtain ⟨hA, hpA, hFA⟩ := cr_ndA nd (by omega)
    obtain ⟨hB, hpB⟩ := cr_ndB nd (Or.inr hk)
    rcases hu with hu | hu
    · rcases I2 (A n) (by omega) hu with ⟨q, z1, z2⟩ | ⟨z1, z2⟩
      · exact Or.inl ⟨q, (eL q).mpr (Or.inl z1), z2⟩
      · exact Or.inr ⟨eE.mpr (Or.inl z1), p3 hk (Or.inl z2)⟩
    · rcases I2 (B n) (by omega) hu with ⟨q, z1, z2⟩ | ⟨z1, z2⟩
      · exact Or.inl ⟨q, (eL q).mpr (Or.inr z1), z2⟩
      · exact Or.inr ⟨eE.mpr (Or.inr z1), p3 hk (Or.inr z2)⟩
  · obtain ⟨h5, eE, eF, eL⟩ := cr_nd3 nd (by omega)
    obtain ⟨hA, hpA, hFA⟩ := cr_ndA nd (by omega)
    rcases I2 (A n) (by omega) hu with ⟨q, z1, z2⟩ | ⟨z1, z2⟩
    · exact Or.inl ⟨q, (eL q).mpr z1, z2⟩
    · rcases p5 (Or.inr hk) z2 with w | ⟨q, w1, w2⟩
      · exact Or.inr ⟨eE.mpr (Or.inr z1), w⟩
      · exact Or.inl ⟨q, (eL q).mpr w1, w2⟩
  · obtain ⟨h5, eE, eF, eL⟩ := cr_nd3 nd (by omega)
    obtain ⟨hA, hpA, hFA⟩ := cr_ndA nd (by omega)
    have hE : E n := eE.mpr (Or.inl (by omega))
    rcases hu with hu | hu
    · exact Or.inr ⟨hE, hu⟩
    · rcases I2 (A n) (by omega) hu with ⟨q, z1, z2⟩ | ⟨z1, z2⟩
      · exact Or.inl ⟨q, (eL q).mpr z1, z2⟩
      · rcases hk with hk | hk
        · rcases p5 (Or.inl hk) z2 with w | ⟨q, w1, w2⟩
          · exact Or.inr ⟨hE, w⟩
          · exact Or.inl ⟨q, (eL q).mpr w1, w2⟩
        · exact Or.inr ⟨hE, p4 hk z2⟩
end CRT
