section
section
/-! rows pasted from kit/rows -/
theorem pk_us {f : Nat → Int32} {k : Nat} {x : Int32} : upd f k x k = x := if_pos rfl
theorem pk_un {f : Nat → Int32} {k j : Nat} {x : Int32} (h : j ≠ k) : upd f k x j = f j := if_neg h
theorem pk_sub {a b : Nat} (h : b ≤ a) : nI a - nI b = nI (a - b) := by
  obtain ⟨c, rfl⟩ : ∃ c, a = c + b := ⟨a - b, by omega⟩
  rw [← nI_add, Int32.add_sub_cancel, Nat.add_sub_cancel]
theorem pk_m1 (n : Nat) : nI (n + 1) + (-1) = nI n := by
  rw [← nI_1, Int32.add_assoc, show (1 : Int32) + (-1) = 0 from rfl, Int32.add_zero]
theorem pk_mul (a b : Nat) : nI a * nI b = nI (a * b) := (Int32.ofNat_mul a b).symm
theorem pk_ix (x : Int32) {n : Nat} (hn : n < 2 ^ 31) : x < 0 ∨ nI n ≤ x ∨ ∃ j : Nat, j < n ∧ x = nI j := by
  by_cases h : x < 0
  · exact Or.inl h
  · obtain ⟨j, hj, rfl⟩ := nI_of h
    by_cases h2 : j < n
    · exact Or.inr (Or.inr ⟨j, h2, rfl⟩)
    · exact Or.inr (Or.inl (nI_le (by omega) hj))
theorem pk_le {x y : Int32} {A B : Prop} (a b : Nat) (f : a ≤ b → A) (g : b < a → B) (hx : x = nI a := by rfl) (hy : y = nI b := by rfl) (ha : a < 2 ^ 31 := by omega) (hb : b < 2 ^ 31 := by omega) : (x ≤ y → A) ∧ (¬ x ≤ y → B) := by
  subst hx hy
  rw [nI_leI ha hb]
  exact ⟨f, fun z => g (by omega)⟩
theorem pk_lt {x y : Int32} {A B : Prop} (a b : Nat) (f : a < b → A) (g : b ≤ a → B) (hx : x = nI a := by rfl) (hy : y = nI b := by rfl) (ha : a < 2 ^ 31 := by omega) (hb : b < 2 ^ 31 := by omega) : (x < y → A) ∧ (¬ x < y → B) := by
  subst hx hy
  rw [nI_ltI ha hb]
  exact ⟨f, fun z => g (by omega)⟩
theorem pk_eq {x y : Int32} {A B : Prop} (a b : Nat) (f : a = b → A) (g : a ≠ b → B) (hx : x = nI a := by rfl) (hy : y = nI b := by rfl) (ha : a < 2 ^ 31 := by omega) (hb : b < 2 ^ 31 := by omega) : (x = y → A) ∧ (¬ x = y → B) := by
  subst hx hy
  rw [nI_eq ha hb]
  exact ⟨f, g⟩
theorem pk_in {x : Int32} (n N : Nat) (h : n < N) (hx : x = nI n := by rfl) (hN : N < 2 ^ 31 := by omega) : vp_in x N := by
  subst hx
  exact vp_in_nI h hN
theorem pk_cl {x : Int32} (n : Nat) (hx : x = nI n := by rfl) (h : n < 2 ^ 31 := by omega) : x.toNatClampNeg = n := by
  subst hx
  exact nI_clamp h
theorem pk_loop {σ : Type} (W : Nat → Nat → σ → Prop) (I : Nat → σ → Prop) (e i0 : Nat) (s : σ) (hi : i0 ≤ e) (h0 : I i0 s) (hx : ∀ n s, I e s → W (n + 1) e s)
    (hs : ∀ n i s, i < e → I i s → (∀ s', I (i + 1) s' → W n (i + 1) s') → W (n + 1) i s) : ∃ n, W n i0 s :=
  ⟨e + 1, loop_i W I e hx hs (e + 1) i0 s hi (by omega) h0⟩
theorem pk_loopD {σ : Type} (W : Nat → Nat → σ → Prop) (I : Nat → σ → Prop) (hx : ∀ n s, I 0 s → W (n + 1) 0 s)
    (hs : ∀ n i s, I (i + 1) s → (∀ s', I i s' → W n i s') → W (n + 1) (i + 1) s) : ∀ (e : Nat) (s : σ), I e s → W (e + 1) e s := by
  intro e
  induction e with
  | zero => exact fun s h => hx 0 s h
  | succ e ih => exact fun s h => hs (e + 1) e s h (fun s' h' => ih s' h')
def bt (x : Int32) (i : Nat) : Bool := x.toBitVec.getLsbD i
theorem b_ext {x y : Int32} (h : ∀ i, i < 32 → bt x i = bt y i) : x = y := Int32.toBitVec_inj.mp (BitVec.eq_of_getLsbD_eq (fun i hi => h i hi))
theorem b_or (x y : Int32) (i : Nat) : bt (x ||| y) i = (bt x i || bt y i) := by unfold bt; rw [Int32.toBitVec_or, BitVec.getLsbD_or]
theorem b_and (x y : Int32) (i : Nat) : bt (x &&& y) i = (bt x i && bt y i) := by unfold bt; rw [Int32.toBitVec_and, BitVec.getLsbD_and]
theorem b_big {x : Int32} {i : Nat} (h : 32 ≤ i) : bt x i = false := BitVec.getLsbD_of_ge _ _ h
theorem b_0 (i : Nat) : bt 0 i = false := BitVec.getLsbD_zero
theorem s_l : ∀ n, n < 32 → ((nI n &&& 31).toBitVec.smod 32).toNat = n := by decide +kernel
theorem b_shl (n : Nat) (hn : n < 32) (x : Int32) {i : Nat} (hi : i < 32) : bt (x <<< (nI n &&& 31)) i = (decide (n ≤ i) && bt x (i - n)) := by
  unfold bt
  rw [Int32.toBitVec_shiftLeft]
  show (x.toBitVec <<< ((nI n &&& 31).toBitVec.smod 32).toNat).getLsbD i = _
  rw [s_l n hn, BitVec.getLsbD_shiftLeft]
  rcases Nat.lt_or_ge i n with h | h
  · simp [h, Nat.not_le.mpr h]
  · simp [hi, h, Nat.not_lt.mpr h]
theorem b_sshr (n : Nat) (hn : n < 32) (x : Int32) {i : Nat} (hi : i < 32) : bt (x >>> (nI n &&& 31)) i = if n + i < 32 then bt x (n + i) else bt x 31 := by
  unfold bt
  rw [Int32.toBitVec_shiftRight]
  show (x.toBitVec.sshiftRight ((nI n &&& 31).toBitVec.smod 32).toNat).getLsbD i = _
  rw [s_l n hn, BitVec.getLsbD_sshiftRight, BitVec.msb_eq_getLsbD_last]
  simp [hi]
end
end
section
section CRT
/-! the tree of the expression, and the two flags of its nodes: pure -/
def cr_u {α : Type _} (f : Nat → α) (k : Nat) (x : α) : Nat → α := fun j => if j = k then x else f j
theorem cr_us {α : Type _} {f : Nat → α} {k : Nat} {x : α} : cr_u f k x k = x := if_pos rfl
theorem cr_un {α : Type _} {f : Nat → α} {k j : Nat} {x : α} (h : j ≠ k) : cr_u f k x j = f j := if_neg h
theorem cr_si {P : Nat → Prop} (h : ∀ n, (∀ m, m < n → P m) → P n) (n : Nat) : P n := Nat.strongRecOn n h
/-- what a node says of its children -/
def cr_nd (lv : Nat) (K A B ln ls par : Nat → Nat) (E : Nat → Prop) (F L : Nat → Nat → Prop) (n : Nat) : Prop :=
  (K n = 0 ∧ A n < lv ∧ ln (A n) = n ∧ (E n ↔ ls (A n) = 0) ∧ (∀ p, F n p ↔ p = A n) ∧ (∀ p, L n p ↔ p = A n)) ∨
  (K n = 1 ∧ A n < n ∧ B n < n ∧ A n ≠ B n ∧ par (A n) = n ∧ par (B n) = n ∧ (E n ↔ E (A n) ∧ E (B n)) ∧ (∀ p, F n p ↔ F (A n) p ∨ (E (A n) ∧ F (B n) p)) ∧ (∀ p, L n p ↔ L (B n) p ∨ (E (B n) ∧ L (A n) p))) ∨
  (K n = 2 ∧ A n < n ∧ B n < n ∧ par (A n) = n ∧ par (B n) = n ∧ (E n ↔ E (A n) ∨ E (B n)) ∧ (∀ p, F n p ↔ F (A n) p ∨ F (B n) p) ∧ (∀ p, L n p ↔ L (A n) p ∨ L (B n) p)) ∨
  (3 ≤ K n ∧ K n ≤ 5 ∧ A n < n ∧ par (A n) = n ∧ (E n ↔ K n ≠ 4 ∨ E (A n)) ∧ (∀ p, F n p ↔ F (A n) p) ∧ (∀ p, L n p ↔ L (A n) p))
def cr_tr (lv h N : Nat) (K A B S ln ls par : Nat → Nat) (E : Nat → Prop) (F L : Nat → Nat → Prop) : Prop :=
  (∀ n, n < N → cr_nd lv K A B ln ls par E F L n) ∧ (∀ i, i < h → S i < N ∧ par (S i) = 1000 + i) ∧ (∀ p, p < lv → ln p < N ∧ K (ln p) = 0 ∧ A (ln p) = p)
/-- leaf p can come right after leaf q -/
def cr_fo (N : Nat) (K A B : Nat → Nat) (F L : Nat → Nat → Prop) (q p : Nat) : Prop :=
  ∃ m, m < N ∧ ((K m = 1 ∧ L (A m) q ∧ F (B m) p) ∨ ((K m = 3 ∨ K m = 4) ∧ L (A m) q ∧ F (A m) p))
/-- leaf p can be entered now -/
def cr_en (st : Prop) (top N : Nat) (K A B : Nat → Nat) (F L : Nat → Nat → Prop) (C : Nat → Prop) (p : Nat) : Prop :=
  (st ∧ F top p) ∨ ∃ q, C q ∧ cr_fo N K A B F L q p
/-- where the begun flags of a node's children can have come from -/
def cr_pm (K A B : Nat → Nat) (E : Nat → Prop) (L : Nat → Nat → Prop) (C : Nat → Prop) (b : Nat → Int32) (m : Nat) : Prop :=
  (K m = 1 → ¬ b (A m) = 0 → ¬ b m = 0) ∧
  (K m = 1 → ¬ b (B m) = 0 → (∃ q, L (A m) q ∧ C q) ∨ (E (A m) ∧ ¬ b m = 0)) ∧
  (K m = 2 → (¬ b (A m) = 0 ∨ ¬ b (B m) = 0) → ¬ b m = 0) ∧
  (K m = 5 → ¬ b (A m) = 0 → ¬ b m = 0) ∧
  (K m = 3 ∨ K m = 4 → ¬ b (A m) = 0 → ¬ b m = 0 ∨ ∃ q, L (A m) q ∧ C q)
def cr_inv (st : Prop) (top N : Nat) (K A B : Nat → Nat) (E : Nat → Prop) (F L : Nat → Nat → Prop) (C : Nat → Prop) (b d : Nat → Int32) : Prop :=
  (¬ b top = 0 ↔ st) ∧ (∀ m, m < N → cr_pm K A B E L C b m) ∧
  (∀ n, n < N → ¬ b n = 0 → ∀ p, F n p → cr_en st top N K A B F L C p) ∧
  (∀ n, n < N → ¬ d n = 0 → (∃ q, L n q ∧ C q) ∨ (E n ∧ ¬ b n = 0))
/-- a node's rules of the way down, kept -/
def cr_dc (K A B : Nat → Nat) (b d : Nat → Int32) (n : Nat) : Prop :=
  (K n ≠ 0 → ¬ b n = 0 → ¬ b (A n) = 0) ∧ (K n = 3 ∨ K n = 4 → ¬ d (A n) = 0 → ¬ b (A n) = 0) ∧
  (K n = 2 → ¬ b n = 0 → ¬ b (B n) = 0) ∧ (K n = 1 → ¬ d (A n) = 0 → ¬ b (B n) = 0)
/-- .. and of the way up -/
def cr_uc (K A B ls : Nat → Nat) (C : Nat → Prop) (b d : Nat → Int32) (n : Nat) : Prop :=
  (K n = 0 → ¬ b n = 0 → ls (A n) = 0 → ¬ d n = 0) ∧ (K n = 0 → C (A n) → ¬ d n = 0) ∧ (K n = 1 → ¬ d (B n) = 0 → ¬ d n = 0) ∧
  (K n = 2 → ¬ d (A n) = 0 ∨ ¬ d (B n) = 0 → ¬ d n = 0) ∧ (K n = 4 → ¬ d (A n) = 0 → ¬ d n = 0) ∧
  (K n = 3 ∨ K n = 5 → ¬ b n = 0 ∨ ¬ d (A n) = 0 → ¬ d n = 0)
variable {st : Prop} {lv h N top : Nat} {K A B S ln ls par : Nat → Nat} {E : Nat → Prop} {F L : Nat → Nat → Prop} {C : Nat → Prop} {b d : Nat → Int32}
theorem cr_ndA {n : Nat} (H : cr_nd lv K A B ln ls par E F L n) (hk : K n ≠ 0) : A n < n ∧ par (A n) = n ∧ ∀ p, F (A n) p → F n p := by
  rcases H with H | H | H | H
  · exact absurd H.1 hk
  · exact ⟨H.2.1, H.2.2.2.2.1, fun p hp => (H.2.2.2.2.2.2.2.1 p).mpr (Or.inl hp)⟩
  · exact ⟨H.2.1, H.2.2.2.1, fun p hp => (H.2.2.2.2.2.2.1 p).mpr (Or.inl hp)⟩
  · exact ⟨H.2.2.1, H.2.2.2.1, fun p hp => (H.2.2.2.2.2.1 p).mpr hp⟩
theorem cr_ndB {n : Nat} (H : cr_nd lv K A B ln ls par E F L n) (hk : K n = 1 ∨ K n = 2) : B n < n ∧ par (B n) = n := by
  rcases H with H | H | H | H
  · omega
  · exact ⟨H.2.2.1, H.2.2.2.2.2.1⟩
  · exact ⟨H.2.2.1, H.2.2.2.2.1⟩
  · omega
theorem cr_nd1 {n : Nat} (H : cr_nd lv K A B ln ls par E F L n) (hk : K n = 1) : A n ≠ B n ∧ (E n ↔ E (A n) ∧ E (B n)) ∧ (∀ p, F n p ↔ F (A n) p ∨ (E (A n) ∧ F (B n) p)) ∧ (∀ p, L n p ↔ L (B n) p ∨ (E (B n) ∧ L (A n) p)) := by
  rcases H with H | H | H | H
  · omega
  · exact ⟨H.2.2.2.1, H.2.2.2.2.2.2⟩
  · omega
  · omega
theorem cr_nd2 {n : Nat} (H : cr_nd lv K A B ln ls par E F L n) (hk : K n = 2) : (E n ↔ E (A n) ∨ E (B n)) ∧ (∀ p, F n p ↔ F (A n) p ∨ F (B n) p) ∧ (∀ p, L n p ↔ L (A n) p ∨ L (B n) p) := by
  rcases H with H | H | H | H
  · omega
  · omega
  · exact H.2.2.2.2.2
  · omega
theorem cr_nd3 {n : Nat} (H : cr_nd lv K A B ln ls par E F L n) (hk : 3 ≤ K n) : K n ≤ 5 ∧ (E n ↔ K n ≠ 4 ∨ E (A n)) ∧ (∀ p, F n p ↔ F (A n) p) ∧ (∀ p, L n p ↔ L (A n) p) := by
  rcases H with H | H | H | H
  · omega
  · omega
  · omega
  · exact ⟨H.2.1, H.2.2.2.2⟩
theorem cr_nd0 {n : Nat} (H : cr_nd lv K A B ln ls par E F L n) (hk : K n = 0) : A n < lv ∧ ln (A n) = n ∧ (E n ↔ ls (A n) = 0) ∧ (∀ p, F n p ↔ p = A n) ∧ (∀ p, L n p ↔ p = A n) := by
  rcases H with H | H | H | H
  · exact H.2
  · omega
  · omega
  · omega
theorem cr_k5 {n : Nat} (H : cr_nd lv K A B ln ls par E F L n) : K n ≤ 5 := by
  rcases H with H | H | H | H <;> omega
theorem cr_mono {c j : Nat} (hj : ¬ b j = 0) : ¬ upd b c 1 j = 0 := by
  by_cases e : j = c
  · subst e; rw [pk_us]; decide
  · rw [pk_un e]; exact hj
theorem cr_unm {c j : Nat} (e : j ≠ c) (hj : ¬ upd b c 1 j = 0) : ¬ b j = 0 := by
  rw [pk_un e] at hj; exact hj
/-- a child is entered -/
theorem cr_ent {m c t : Nat} (T : cr_tr lv h N K A B S ln ls par E F L) (hN : N ≤ 1000) (ht : par top = 1000 + t) (hm : m < N) (hp : par c = m)
    (I : cr_inv st top N K A B E F L C b d) (hP : cr_pm K A B E L C (upd b c 1) m) (hF : ∀ p, F c p → cr_en st top N K A B F L C p) :
    cr_inv st top N K A B E F L C (upd b c 1) d := by
  obtain ⟨I0, I1, I3, I2⟩ := I
  have hct : top ≠ c := by intro e; subst e; omega
  refine ⟨?_, fun m' hm' => ?_, fun n hn hb p hp' => ?_, fun n hn hd => ?_⟩
  · rw [pk_un hct]; exact I0
  · by_cases e : m' = m
    · subst e; exact hP
    · have nd := T.1 m' hm'
      obtain ⟨p1, p2, p3, p4, p5⟩ := I1 m' hm'
      refine ⟨fun hk hb => ?_, fun hk hb => ?_, fun hk hb => ?_, fun hk hb => ?_, fun hk hb => ?_⟩
      · have hA := (cr_ndA nd (by omega)).2.1
        exact cr_mono (p1 hk (cr_unm (by intro z; rw [z] at hA; omega) hb))
      · have hB := (cr_ndB nd (by omega)).2
        rcases p2 hk (cr_unm (by intro z; rw [z] at hB; omega) hb) with z | z
        · exact Or.inl z
        · exact Or.inr ⟨z.1, cr_mono z.2⟩
      · have hA := (cr_ndA nd (by omega)).2.1
        have hB := (cr_ndB nd (by omega)).2
        rcases hb with hb | hb
        · exact cr_mono (p3 hk (Or.inl (cr_unm (by intro z; rw [z] at hA; omega) hb)))
        · exact cr_mono (p3 hk (Or.inr (cr_unm (by intro z; rw [z] at hB; omega) hb)))
      · have hA := (cr_ndA nd (by omega)).2.1
        exact cr_mono (p4 hk (cr_unm (by intro z; rw [z] at hA; omega) hb))
      · have hA := (cr_ndA nd (by omega)).2.1
        rcases p5 hk (cr_unm (by intro z; rw [z] at hA; omega) hb) with z | z
        · exact Or.inl (cr_mono z)
        · exact Or.inr z
  · by_cases e : n = c
    · subst e; exact hF p hp'
    · exact I3 n hn (cr_unm e hb) p hp'
  · rcases I2 n hn hd with z | z
    · exact Or.inl z
    · exact Or.inr ⟨z.1, cr_mono z.2⟩
/-- the left child of n is entered -/
theorem cr_entA {n t : Nat} (T : cr_tr lv h N K A B S ln ls par E F L) (hN : N ≤ 1000) (ht : par top = 1000 + t) (hn : n < N) (hk : K n ≠ 0)
    (I : cr_inv st top N K A B E F L C b d) (hj : ¬ b n = 0 ∨ ((K n = 3 ∨ K n = 4) ∧ ¬ d (A n) = 0)) :
    cr_inv st top N K A B E F L C (upd b (A n) 1) d := by
  have nd := T.1 n hn
  obtain ⟨hA, hpA, hFA⟩ := cr_ndA nd hk
  obtain ⟨I0, I1, I3, I2⟩ := I
  obtain ⟨p1, p2, p3, p4, p5⟩ := I1 n hn
  have hj' : ¬ b n = 0 ∨ ((K n = 3 ∨ K n = 4) ∧ ((∃ q, L (A n) q ∧ C q) ∨ ¬ b (A n) = 0)) := by
    rcases hj with z | ⟨z1, z2⟩
    · exact Or.inl z
    · rcases I2 (A n) (by omega) z2 with w | w
      · exact Or.inr ⟨z1, Or.inl w⟩
      · exact Or.inr ⟨z1, Or.inr w.2⟩
  refine cr_ent T hN ht hn hpA ⟨I0, I1, I3, I2⟩ ?_ ?_
  · refine ⟨fun hk hb => ?_, fun hk hb => ?_, fun hk hb => ?_, fun hk hb => ?_, fun hk hb => ?_⟩
    · exact cr_mono (hj'.elim id (fun z => by omega))
    · have e := (cr_nd1 nd hk).1
      rcases p2 hk (cr_unm (fun z => e z.symm) hb) with z | z
      · exact Or.inl z
      · exact Or.inr ⟨z.1, cr_mono z.2⟩
    · exact cr_mono (hj'.elim id (fun z => by omega))
    · exact cr_mono (hj'.elim id (fun z => by omega))
    · rcases hj' with z | ⟨_, z | z⟩
      · exact Or.inl (cr_mono z)
      · exact Or.inr z
      · rcases p5 hk z with w | w
        · exact Or.inl (cr_mono w)
        · exact Or.inr w
  · intro p hp
    rcases hj' with z | ⟨zk, ⟨q, z1, z2⟩ | z⟩
    · exact I3 n hn z p (hFA p hp)
    · exact Or.inr ⟨q, z2, n, hn, Or.inr ⟨zk, z1, hp⟩⟩
    · exact I3 (A n) (by omega) z p hp
/-- the right child of an ALT is entered -/
theorem cr_entB2 {n t : Nat} (T : cr_tr lv h N K A B S ln ls par E F L) (hN : N ≤ 1000) (ht : par top = 1000 + t) (hn : n < N) (hk : K n = 2)
    (I : cr_inv st top N K A B E F L C b d) (hj : ¬ b n = 0) : cr_inv st top N K A B E F L C (upd b (B n) 1) d := by
  have nd := T.1 n hn
  obtain ⟨hB, hpB⟩ := cr_ndB nd (Or.inr hk)
  refine cr_ent T hN ht hn hpB I ?_ ?_
  · refine ⟨fun hk hb => ?_, fun hk hb => ?_, fun hk hb => ?_, fun hk hb => ?_, fun hk hb => ?_⟩
    · exact cr_mono hj
    · omega
    · exact cr_mono hj
    · exact cr_mono hj
    · exact Or.inl (cr_mono hj)
  · intro p hp
    exact I.2.2.1 n hn hj p (((cr_nd2 nd hk).2.1 p).mpr (Or.inr hp))
/-- the right child of a CAT is entered -/
theorem cr_entB1 {n t : Nat} (T : cr_tr lv h N K A B S ln ls par E F L) (hN : N ≤ 1000) (ht : par top = 1000 + t) (hn : n < N) (hk : K n = 1)
    (I : cr_inv st top N K A B E F L C b d) (hj : ¬ d (A n) = 0) : cr_inv st top N K A B E F L C (upd b (B n) 1) d := by
  have nd := T.1 n hn
  obtain ⟨hA, hpA, hFA⟩ := cr_ndA nd (by omega)
  obtain ⟨hB, hpB⟩ := cr_ndB nd (Or.inl hk)
  obtain ⟨I0, I1, I3, I2⟩ := I
  obtain ⟨p1, p2, p3, p4, p5⟩ := I1 n hn
  obtain ⟨e, eE, eF, eL⟩ := cr_nd1 nd hk
  have hj' : (∃ q, L (A n) q ∧ C q) ∨ (E (A n) ∧ ¬ b n = 0) := by
    rcases I2 (A n) (by omega) hj with z | z
    · exact Or.inl z
    · exact Or.inr ⟨z.1, p1 hk z.2⟩
  refine cr_ent T hN ht hn hpB ⟨I0, I1, I3, I2⟩ ?_ ?_
  · refine ⟨fun hk hb => ?_, fun hk hb => ?_, fun hk hb => ?_, fun hk hb => ?_, fun hk hb => ?_⟩
    · exact cr_mono (p1 hk (cr_unm e hb))
    · rcases hj' with z | z
      · exact Or.inl z
      · exact Or.inr ⟨z.1, cr_mono z.2⟩
    · omega
    · omega
    · omega
  · intro p hp
    rcases hj' with ⟨q, z1, z2⟩ | z
    · exact Or.inr ⟨q, z2, n, hn, Or.inl ⟨hk, z1, hp⟩⟩
    · exact I3 n hn z.2 p ((eF p).mpr (Or.inr ⟨z.1, hp⟩))
/-- a node is done -/
theorem cr_don {n : Nat} (I : cr_inv st top N K A B E F L C b d) (hd : (∃ q, L n q ∧ C q) ∨ (E n ∧ ¬ b n = 0)) :
    cr_inv st top N K A B E F L C b (upd d n 1) := by
  refine ⟨I.1, I.2.1, I.2.2.1, fun m hm hb => ?_⟩
  by_cases e : m = n
  · subst e; exact hd
  · exact I.2.2.2 m hm (cr_unm e hb)
/-- .. for a reason that the way up knows -/
def cr_ue (K A B ls : Nat → Nat) (C : Nat → Prop) (b d : Nat → Int32) (n : Nat) : Prop :=
  (K n = 0 ∧ ((¬ b n = 0 ∧ ls (A n) = 0) ∨ C (A n))) ∨ (K n = 1 ∧ ¬ d (B n) = 0) ∨ (K n = 2 ∧ (¬ d (A n) = 0 ∨ ¬ d (B n) = 0)) ∨
  (K n = 4 ∧ ¬ d (A n) = 0) ∨ ((K n = 3 ∨ K n = 5) ∧ (¬ b n = 0 ∨ ¬ d (A n) = 0))
theorem cr_upd {n : Nat} (T : cr_tr lv h N K A B S ln ls par E F L) (hn : n < N) (I : cr_inv st top N K A B E F L C b d) (hu : cr_ue K A B ls C b d n) :
    cr_inv st top N K A B E F L C b (upd d n 1) := by
  refine cr_don I ?_
  have nd := T.1 n hn
  obtain ⟨I0, I1, I3, I2⟩ := I
  obtain ⟨p1, p2, p3, p4, p5⟩ := I1 n hn
  rcases hu with ⟨hk, hu⟩ | ⟨hk, hu⟩ | ⟨hk, hu⟩ | ⟨hk, hu⟩ | ⟨hk, hu⟩
  · obtain ⟨_, _, eE, eF, eL⟩ := cr_nd0 nd hk
    rcases hu with hu | hu
    · exact Or.inr ⟨eE.mpr hu.2, hu.1⟩
    · exact Or.inl ⟨A n, (eL _).mpr rfl, hu⟩
  · obtain ⟨e, eE, eF, eL⟩ := cr_nd1 nd hk
    obtain ⟨hB, hpB⟩ := cr_ndB nd (Or.inl hk)
    rcases I2 (B n) (by omega) hu with ⟨q, z1, z2⟩ | ⟨z1, z2⟩
    · exact Or.inl ⟨q, (eL q).mpr (Or.inl z1), z2⟩
    · rcases p2 hk z2 with ⟨q, w1, w2⟩ | ⟨w1, w2⟩
      · exact Or.inl ⟨q, (eL q).mpr (Or.inr ⟨z1, w1⟩), w2⟩
      · exact Or.inr ⟨eE.mpr ⟨w1, z1⟩, w2⟩
  · obtain ⟨eE, eF, eL⟩ := cr_nd2 nd hk
    obtain ⟨hA, hpA, hFA⟩ := cr_ndA nd (by omega)
    obtain ⟨hB, hpB⟩ := cr_ndB nd (Or.inr hk)
    rcases hu with hu | hu
    · rcases I2 (A n) (by omega) hu with ⟨q, z1, z2⟩ | ⟨z1, z2⟩
      · exact Or.inl ⟨q, (eL q).mpr (Or.inl z1), z2⟩
      · exact Or.inr ⟨eE.mpr (Or.inl z1), p3 hk (Or.inl z2)⟩
    · rcases I2 (B n) (by omega) hu with ⟨q, z1, z2⟩ | ⟨z1, z2⟩
      · exact Or.inl ⟨q, (eL q).mpr (Or.inr z1), z2⟩
      · exact Or.inr ⟨eE.mpr (Or.inr z1), p3 hk (Or.inr z2)⟩
  · obtain ⟨h5, eE, eF, eL⟩ := cr_nd3 nd (by omega)
    obtain ⟨hA, hpA, hFA⟩ := cr_ndA nd (by omega)
    rcases I2 (A n) (by omega) hu with ⟨q, z1, z2⟩ | ⟨z1, z2⟩
    · exact Or.inl ⟨q, (eL q).mpr z1, z2⟩
    · rcases p5 (Or.inr hk) z2 with w | ⟨q, w1, w2⟩
      · exact Or.inr ⟨eE.mpr (Or.inr z1), w⟩
      · exact Or.inl ⟨q, (eL q).mpr w1, w2⟩
  · obtain ⟨h5, eE, eF, eL⟩ := cr_nd3 nd (by omega)
    obtain ⟨hA, hpA, hFA⟩ := cr_ndA nd (by omega)
    have hE : E n := eE.mpr (Or.inl (by omega))
    rcases hu with hu | hu
    · exact Or.inr ⟨hE, hu⟩
    · rcases I2 (A n) (by omega) hu with ⟨q, z1, z2⟩ | ⟨z1, z2⟩
      · exact Or.inl ⟨q, (eL q).mpr z1, z2⟩
      · rcases hk with hk | hk
        · rcases p5 (Or.inl hk) z2 with w | ⟨q, w1, w2⟩
          · exact Or.inr ⟨hE, w⟩
          · exact Or.inl ⟨q, (eL q).mpr w1, w2⟩
        · exact Or.inr ⟨hE, p4 hk z2⟩
end CRT
end
section
section CRC
/-! closed flags: what they say of the uppermost item and of the leaves -/
variable {st : Prop} {lv h N top : Nat} {K A B S ln ls par : Nat → Nat} {E : Nat → Prop} {F L : Nat → Nat → Prop} {C : Nat → Prop} {b d : Nat → Int32}
theorem cr_s1 (T : cr_tr lv h N K A B S ln ls par E F L) (D : ∀ n, n < N → cr_dc K A B b d n) (U : ∀ n, n < N → cr_uc K A B ls C b d n) :
    ∀ n, n < N → E n → ¬ b n = 0 → ¬ d n = 0 := by
  refine cr_si (P := fun n => n < N → E n → ¬ b n = 0 → ¬ d n = 0) (fun n ih hn hE hb => ?_)
  have nd := T.1 n hn
  obtain ⟨d1, d2, d3, d4⟩ := D n hn
  obtain ⟨u1, u2, u3, u4, u5, u6⟩ := U n hn
  have h5 := cr_k5 nd
  by_cases k0 : K n = 0
  · exact u1 k0 hb ((cr_nd0 nd k0).2.2.1.mp hE)
  · obtain ⟨hA, hpA, hFA⟩ := cr_ndA nd k0
    have bA := d1 k0 hb
    by_cases k1 : K n = 1
    · obtain ⟨hB, hpB⟩ := cr_ndB nd (Or.inl k1)
      obtain ⟨e, eE, eF, eL⟩ := cr_nd1 nd k1
      have dA := ih (A n) hA (by omega) (eE.mp hE).1 bA
      exact u3 k1 (ih (B n) hB (by omega) (eE.mp hE).2 (d4 k1 dA))
    · by_cases k2 : K n = 2
      · obtain ⟨hB, hpB⟩ := cr_ndB nd (Or.inr k2)
        obtain ⟨eE, eF, eL⟩ := cr_nd2 nd k2
        rcases eE.mp hE with z | z
        · exact u4 k2 (Or.inl (ih (A n) hA (by omega) z bA))
        · exact u4 k2 (Or.inr (ih (B n) hB (by omega) z (d3 k2 hb)))
      · by_cases k4 : K n = 4
        · obtain ⟨_, eE, eF, eL⟩ := cr_nd3 nd (by omega)
          exact u5 k4 (ih (A n) hA (by omega) ((eE.mp hE).elim (fun z => absurd k4 z) id) bA)
        · exact u6 (by omega) (Or.inl hb)
theorem cr_s2 (T : cr_tr lv h N K A B S ln ls par E F L) (D : ∀ n, n < N → cr_dc K A B b d n) (U : ∀ n, n < N → cr_uc K A B ls C b d n) {q : Nat} (hq : C q) :
    ∀ n, n < N → L n q → ¬ d n = 0 := by
  refine cr_si (P := fun n => n < N → L n q → ¬ d n = 0) (fun n ih hn hL => ?_)
  have nd := T.1 n hn
  obtain ⟨d1, d2, d3, d4⟩ := D n hn
  obtain ⟨u1, u2, u3, u4, u5, u6⟩ := U n hn
  have h5 := cr_k5 nd
  by_cases k0 : K n = 0
  · have e := ((cr_nd0 nd k0).2.2.2.2 q).mp hL
    rw [e] at hq
    exact u2 k0 hq
  · obtain ⟨hA, hpA, hFA⟩ := cr_ndA nd k0
    by_cases k1 : K n = 1
    · obtain ⟨hB, hpB⟩ := cr_ndB nd (Or.inl k1)
      obtain ⟨e, eE, eF, eL⟩ := cr_nd1 nd k1
      rcases (eL q).mp hL with z | ⟨z1, z2⟩
      · exact u3 k1 (ih (B n) hB (by omega) z)
      · exact u3 k1 (cr_s1 T D U (B n) (by omega) z1 (d4 k1 (ih (A n) hA (by omega) z2)))
    · by_cases k2 : K n = 2
      · obtain ⟨hB, hpB⟩ := cr_ndB nd (Or.inr k2)
        obtain ⟨eE, eF, eL⟩ := cr_nd2 nd k2
        rcases (eL q).mp hL with z | z
        · exact u4 k2 (Or.inl (ih (A n) hA (by omega) z))
        · exact u4 k2 (Or.inr (ih (B n) hB (by omega) z))
      · obtain ⟨_, eE, eF, eL⟩ := cr_nd3 nd (by omega)
        have dA := ih (A n) hA (by omega) ((eL q).mp hL)
        by_cases k4 : K n = 4
        · exact u5 k4 dA
        · exact u6 (by omega) (Or.inr dA)
theorem cr_s3 (T : cr_tr lv h N K A B S ln ls par E F L) (D : ∀ n, n < N → cr_dc K A B b d n) (U : ∀ n, n < N → cr_uc K A B ls C b d n) {p : Nat} :
    ∀ n, n < N → F n p → ¬ b n = 0 → ¬ b (ln p) = 0 := by
  refine cr_si (P := fun n => n < N → F n p → ¬ b n = 0 → ¬ b (ln p) = 0) (fun n ih hn hF hb => ?_)
  have nd := T.1 n hn
  obtain ⟨d1, d2, d3, d4⟩ := D n hn
  have h5 := cr_k5 nd
  by_cases k0 : K n = 0
  · obtain ⟨_, e2, eE, eF, eL⟩ := cr_nd0 nd k0
    have e := (eF p).mp hF
    rw [e, e2]; exact hb
  · obtain ⟨hA, hpA, hFA⟩ := cr_ndA nd k0
    have bA := d1 k0 hb
    by_cases k1 : K n = 1
    · obtain ⟨hB, hpB⟩ := cr_ndB nd (Or.inl k1)
      obtain ⟨e, eE, eF, eL⟩ := cr_nd1 nd k1
      rcases (eF p).mp hF with z | ⟨z1, z2⟩
      · exact ih (A n) hA (by omega) z bA
      · exact ih (B n) hB (by omega) z2 (d4 k1 (cr_s1 T D U (A n) (by omega) z1 bA))
    · by_cases k2 : K n = 2
      · obtain ⟨hB, hpB⟩ := cr_ndB nd (Or.inr k2)
        obtain ⟨eE, eF, eL⟩ := cr_nd2 nd k2
        rcases (eF p).mp hF with z | z
        · exact ih (A n) hA (by omega) z bA
        · exact ih (B n) hB (by omega) z (d3 k2 hb)
      · obtain ⟨_, eE, eF, eL⟩ := cr_nd3 nd (by omega)
        exact ih (A n) hA (by omega) ((eF p).mp hF) bA
/-- the uppermost item is done -/
theorem cr_R1 (T : cr_tr lv h N K A B S ln ls par E F L) (D : ∀ n, n < N → cr_dc K A B b d n) (U : ∀ n, n < N → cr_uc K A B ls C b d n)
    (I : cr_inv st top N K A B E F L C b d) (ht : top < N) : ¬ d top = 0 ↔ (st ∧ E top) ∨ ∃ q, L top q ∧ C q := by
  constructor
  · intro z
    rcases I.2.2.2 top ht z with w | w
    · exact Or.inr w
    · exact Or.inl ⟨I.1.mp w.2, w.1⟩
  · rintro (⟨z1, z2⟩ | ⟨q, z1, z2⟩)
    · exact cr_s1 T D U top ht z2 (I.1.mpr z1)
    · exact cr_s2 T D U z2 top ht z1
/-- a leaf's node is begun -/
theorem cr_R2 (T : cr_tr lv h N K A B S ln ls par E F L) (D : ∀ n, n < N → cr_dc K A B b d n) (U : ∀ n, n < N → cr_uc K A B ls C b d n)
    (I : cr_inv st top N K A B E F L C b d) (ht : top < N) {p : Nat} (hp : p < lv) : ¬ b (ln p) = 0 ↔ cr_en st top N K A B F L C p := by
  obtain ⟨l1, l2, l3⟩ := T.2.2 p hp
  constructor
  · intro z
    refine I.2.2.1 (ln p) l1 z p ?_
    have nd := T.1 (ln p) l1
    exact ((cr_nd0 nd l2).2.2.2.1 p).mpr l3.symm
  · rintro (⟨z1, z2⟩ | ⟨q, z1, m, hm, z2⟩)
    · exact cr_s3 T D U top ht z2 (I.1.mpr z1)
    · have nd := T.1 m hm
      obtain ⟨d1, d2, d3, d4⟩ := D m hm
      rcases z2 with ⟨k1, zL, zF⟩ | ⟨k3, zL, zF⟩
      · obtain ⟨hA, hpA, hFA⟩ := cr_ndA nd (by omega)
        obtain ⟨hB, hpB⟩ := cr_ndB nd (Or.inl k1)
        exact cr_s3 T D U (B m) (by omega) zF (d4 k1 (cr_s2 T D U z1 (A m) (by omega) zL))
      · obtain ⟨hA, hpA, hFA⟩ := cr_ndA nd (by omega)
        exact cr_s3 T D U (A m) (by omega) zF (d2 k3 (cr_s2 T D U z1 (A m) (by omega) zL))
/-- at the start of a spread -/
theorem cr_inv0 {t : Nat} (T : cr_tr lv h N K A B S ln ls par E F L) (hN : N ≤ 1000) (ht : par top = 1000 + t) (hb : ∀ n, n < N → n ≠ top → b n = 0) (hd : ∀ n, n < N → d n = 0)
    (hs : ¬ b top = 0 ↔ st) : cr_inv st top N K A B E F L C b d := by
  have nc : ∀ m, m < N → ∀ c, c < N → par c = m → b c = 0 := by
    intro m hm c hc hp
    refine hb c hc (fun e => ?_)
    subst e
    omega
  refine ⟨hs, fun m hm => ?_, fun n hn z p hp => ?_, fun n hn z => absurd (hd n hn) z⟩
  · have nd := T.1 m hm
    refine ⟨fun hk z => ?_, fun hk z => ?_, fun hk z => ?_, fun hk z => ?_, fun hk z => ?_⟩
    · obtain ⟨hA, hpA, hFA⟩ := cr_ndA nd (by omega)
      exact absurd (nc m hm _ (by omega) hpA) z
    · obtain ⟨hB, hpB⟩ := cr_ndB nd (by omega)
      exact absurd (nc m hm _ (by omega) hpB) z
    · obtain ⟨hA, hpA, hFA⟩ := cr_ndA nd (by omega)
      obtain ⟨hB, hpB⟩ := cr_ndB nd (by omega)
      rcases z with z | z
      · exact absurd (nc m hm _ (by omega) hpA) z
      · exact absurd (nc m hm _ (by omega) hpB) z
    · obtain ⟨hA, hpA, hFA⟩ := cr_ndA nd (by omega)
      exact absurd (nc m hm _ (by omega) hpA) z
    · obtain ⟨hA, hpA, hFA⟩ := cr_ndA nd (by omega)
      exact absurd (nc m hm _ (by omega) hpA) z
  · by_cases e : n = top
    · subst e
      exact Or.inl ⟨hs.mp z, hp⟩
    · exact absurd (hb n hn e) z
/-! how many flags are set -/
def cr_ct (b : Nat → Int32) : Nat → Nat
  | 0 => 0
  | n + 1 => cr_ct b n + (if b n = 0 then 0 else 1)
theorem cr_ct_le (b : Nat → Int32) : ∀ n, cr_ct b n ≤ n := by
  intro n
  induction n with
  | zero => exact Nat.le_refl 0
  | succ n ih =>
    show cr_ct b n + (if b n = 0 then 0 else 1) ≤ n + 1
    split <;> omega
theorem cr_ct_ge {k : Nat} {x : Int32} : ∀ n, n ≤ k → cr_ct (upd b k x) n = cr_ct b n := by
  intro n
  induction n with
  | zero => exact fun _ => rfl
  | succ n ih =>
    intro hk
    show cr_ct (upd b k x) n + (if upd b k x n = 0 then 0 else 1) = cr_ct b n + (if b n = 0 then 0 else 1)
    rw [ih (by omega), pk_un (show n ≠ k by omega)]
theorem cr_ct_up {k : Nat} (hb : b k = 0) : ∀ n, k < n → cr_ct (upd b k 1) n = cr_ct b n + 1 := by
  intro n
  induction n with
  | zero => intro hk; omega
  | succ n ih =>
    intro hk
    show cr_ct (upd b k 1) n + (if upd b k 1 n = 0 then 0 else 1) = cr_ct b n + (if b n = 0 then 0 else 1) + 1
    by_cases e : n = k
    · subst e
      rw [cr_ct_ge n (Nat.le_refl n), pk_us, if_pos hb, if_neg (by decide)]
    · rw [ih (by omega), pk_un e]; omega
/-! bounds of the sets -/
theorem cr_FL (T : cr_tr lv h N K A B S ln ls par E F L) {p : Nat} : ∀ n, n < N → (F n p → p < lv) ∧ (L n p → p < lv) := by
  refine cr_si (P := fun n => n < N → (F n p → p < lv) ∧ (L n p → p < lv)) (fun n ih hn => ?_)
  have nd := T.1 n hn
  have h5 := cr_k5 nd
  by_cases k0 : K n = 0
  · obtain ⟨e1, e2, eE, eF, eL⟩ := cr_nd0 nd k0
    exact ⟨fun z => by rw [(eF p).mp z]; exact e1, fun z => by rw [(eL p).mp z]; exact e1⟩
  · obtain ⟨hA, hpA, hFA⟩ := cr_ndA nd k0
    have iA := ih (A n) hA (by omega)
    by_cases k1 : K n = 1
    · obtain ⟨hB, hpB⟩ := cr_ndB nd (Or.inl k1)
      have iB := ih (B n) hB (by omega)
      obtain ⟨e, eE, eF, eL⟩ := cr_nd1 nd k1
      exact ⟨fun z => ((eF p).mp z).elim iA.1 (fun w => iB.1 w.2), fun z => ((eL p).mp z).elim iB.2 (fun w => iA.2 w.2)⟩
    · by_cases k2 : K n = 2
      · obtain ⟨hB, hpB⟩ := cr_ndB nd (Or.inr k2)
        have iB := ih (B n) hB (by omega)
        obtain ⟨eE, eF, eL⟩ := cr_nd2 nd k2
        exact ⟨fun z => ((eF p).mp z).elim iA.1 iB.1, fun z => ((eL p).mp z).elim iA.2 iB.2⟩
      · obtain ⟨_, eE, eF, eL⟩ := cr_nd3 nd (by omega)
        exact ⟨fun z => iA.1 ((eF p).mp z), fun z => iA.2 ((eL p).mp z)⟩
theorem cr_foL (T : cr_tr lv h N K A B S ln ls par E F L) {q p : Nat} (z : cr_fo N K A B F L q p) : q < lv ∧ p < lv := by
  obtain ⟨m, hm, z⟩ := z
  have nd := T.1 m hm
  rcases z with ⟨k1, zL, zF⟩ | ⟨k3, zL, zF⟩
  · obtain ⟨hA, hpA, hFA⟩ := cr_ndA nd (by omega)
    obtain ⟨hB, hpB⟩ := cr_ndB nd (Or.inl k1)
    exact ⟨(cr_FL T (A m) (by omega)).2 zL, (cr_FL T (B m) (by omega)).1 zF⟩
  · obtain ⟨hA, hpA, hFA⟩ := cr_ndA nd (by omega)
    exact ⟨(cr_FL T (A m) (by omega)).2 zL, (cr_FL T (A m) (by omega)).1 zF⟩
end CRC
end
section
section CRP
/-! a new node -/
variable {lv lv' h N : Nat} {K A B S ln ls par K' A' B' ln' ls' par' : Nat → Nat} {E E' : Nat → Prop} {F L F' L' : Nat → Nat → Prop}
theorem cr_ndk {n : Nat} (nd : cr_nd lv K A B ln ls par E F L n) (hl : lv ≤ lv') (ag : ∀ j, j ≤ n → K' j = K j ∧ A' j = A j ∧ B' j = B j ∧ E' j = E j ∧ F' j = F j ∧ L' j = L j)
    (hp : ∀ p, p < lv → ln' p = ln p ∧ ls' p = ls p) (hc : ∀ c, c < n → par c = n → par' c = n) : cr_nd lv' K' A' B' ln' ls' par' E' F' L' n := by
  obtain ⟨eK, eA, eB, eE, eF, eL⟩ := ag n (Nat.le_refl n)
  unfold cr_nd at nd ⊢
  rw [eK, eA, eB, eE, eF, eL]
  rcases nd with H | H | H | H
  · obtain ⟨h0, h1, h2, h3, h4, h5⟩ := H
    refine Or.inl ⟨h0, by omega, ?_, ?_, h4, h5⟩
    · rw [(hp _ h1).1]; exact h2
    · rw [(hp _ h1).2]; exact h3
  · obtain ⟨h0, h1, h2, h3, h4, h5, h6, h7, h8⟩ := H
    obtain ⟨_, _, _, aE, aF, aL⟩ := ag (A n) (by omega)
    obtain ⟨_, _, _, bE, bF, bL⟩ := ag (B n) (by omega)
    rw [aE, aF, aL, bE, bF, bL]
    exact Or.inr (Or.inl ⟨h0, h1, h2, h3, hc _ h1 h4, hc _ h2 h5, h6, h7, h8⟩)
  · obtain ⟨h0, h1, h2, h4, h5, h6, h7, h8⟩ := H
    obtain ⟨_, _, _, aE, aF, aL⟩ := ag (A n) (by omega)
    obtain ⟨_, _, _, bE, bF, bL⟩ := ag (B n) (by omega)
    rw [aE, aF, aL, bE, bF, bL]
    exact Or.inr (Or.inr (Or.inl ⟨h0, h1, h2, hc _ h1 h4, hc _ h2 h5, h6, h7, h8⟩))
  · obtain ⟨h0, h1, h2, h4, h6, h7, h8⟩ := H
    obtain ⟨_, _, _, aE, aF, aL⟩ := ag (A n) (by omega)
    rw [aE, aF, aL]
    exact Or.inr (Or.inr (Or.inr ⟨h0, h1, h2, hc _ h2 h4, h6, h7, h8⟩))
theorem cr_ag {k a c : Nat} {e : Prop} {f l : Nat → Prop} {n : Nat} (hn : n < N) : ∀ j, j ≤ n → cr_u K N k j = K j ∧ cr_u A N a j = A j ∧ cr_u B N c j = B j ∧ cr_u E N e j = E j ∧ cr_u F N f j = F j ∧ cr_u L N l j = L j := by
  intro j hj
  have e : j ≠ N := by omega
  exact ⟨cr_un e, cr_un e, cr_un e, cr_un e, cr_un e, cr_un e⟩
/-- a leaf's node is pushed -/
theorem cr_push0 {l : Nat} (T : cr_tr lv h N K A B S ln ls par E F L) (hN : N < 1000) :
    cr_tr (lv + 1) (h + 1) (N + 1) (cr_u K N 0) (cr_u A N lv) (cr_u B N 0) (cr_u S h N) (cr_u ln lv N) (cr_u ls lv l) (cr_u par N (1000 + h)) (cr_u E N (l = 0)) (cr_u F N (fun p => p = lv)) (cr_u L N (fun p => p = lv)) := by
  refine ⟨fun n hn => ?_, fun i hi => ?_, fun p hp => ?_⟩
  · by_cases e : n = N
    · subst e
      unfold cr_nd
      rw [cr_us, cr_us, cr_us, cr_us, cr_us, cr_us, cr_us]
      exact Or.inl ⟨rfl, by omega, rfl, Iff.rfl, fun p => Iff.rfl, fun p => Iff.rfl⟩
    · have hn' : n < N := by omega
      refine cr_ndk (T.1 n hn') (by omega) (cr_ag hn') (fun p hp => ?_) (fun c hc hp => ?_)
      · have e : p ≠ lv := by omega
        exact ⟨cr_un e, cr_un e⟩
      · have e : c ≠ N := by omega
        rw [cr_un e]; exact hp
  · by_cases e : i = h
    · subst e
      rw [cr_us, cr_us]
      exact ⟨by omega, rfl⟩
    · rw [cr_un e]
      obtain ⟨h1, h2⟩ := T.2.1 i (by omega)
      have e2 : S i ≠ N := by omega
      rw [cr_un e2]
      exact ⟨by omega, h2⟩
  · by_cases e : p = lv
    · subst e
      rw [cr_us, cr_us, cr_us]
      exact ⟨by omega, rfl, rfl⟩
    · rw [cr_un e]
      obtain ⟨h1, h2, h3⟩ := T.2.2 p (by omega)
      have e2 : ln p ≠ N := by omega
      rw [cr_un e2, cr_un e2]
      exact ⟨by omega, h2, h3⟩
/-- the node of CAT or ALT -/
theorem cr_push2 {k a c : Nat} {e : Prop} {f l : Nat → Prop} (T : cr_tr lv (h + 2) N K A B S ln ls par E F L) (hN : N < 1000) (ha : S h = a) (hc : S (h + 1) = c)
    (H : (k = 1 ∧ (e ↔ E a ∧ E c) ∧ (∀ p, f p ↔ F a p ∨ (E a ∧ F c p)) ∧ (∀ p, l p ↔ L c p ∨ (E c ∧ L a p))) ∨ (k = 2 ∧ (e ↔ E a ∨ E c) ∧ (∀ p, f p ↔ F a p ∨ F c p) ∧ (∀ p, l p ↔ L a p ∨ L c p))) :
    cr_tr lv (h + 1) (N + 1) (cr_u K N k) (cr_u A N a) (cr_u B N c) (cr_u S h N) ln ls (cr_u (cr_u (cr_u par a N) c N) N (1000 + h)) (cr_u E N e) (cr_u F N f) (cr_u L N l) := by
  obtain ⟨sa1, sa2⟩ := T.2.1 h (by omega)
  obtain ⟨sc1, sc2⟩ := T.2.1 (h + 1) (by omega)
  rw [ha] at sa1 sa2
  rw [hc] at sc1 sc2
  have aN : a ≠ N := by omega
  have cN : c ≠ N := by omega
  have ac : a ≠ c := by intro z; rw [z] at sa2; omega
  refine ⟨fun n hn => ?_, fun i hi => ?_, fun p hp => ?_⟩
  · by_cases e' : n = N
    · subst e'
      unfold cr_nd
      rw [cr_us, cr_us, cr_us, cr_us, cr_us, cr_us, cr_un aN, cr_un aN, cr_un aN, cr_un aN, cr_un cN, cr_un cN, cr_un cN, cr_un cN, cr_us, cr_un ac, cr_us]
      rcases H with ⟨z0, z1, z2, z3⟩ | ⟨z0, z1, z2, z3⟩
      · exact Or.inr (Or.inl ⟨z0, sa1, sc1, ac, rfl, rfl, z1, z2, z3⟩)
      · exact Or.inr (Or.inr (Or.inl ⟨z0, sa1, sc1, rfl, rfl, z1, z2, z3⟩))
    · have hn' : n < N := by omega
      refine cr_ndk (T.1 n hn') (Nat.le_refl _) (cr_ag hn') (fun p hp => ⟨rfl, rfl⟩) (fun j hj hp => ?_)
      have e1 : j ≠ N := by omega
      have e2 : j ≠ c := by intro z; rw [z] at hp; omega
      have e3 : j ≠ a := by intro z; rw [z] at hp; omega
      rw [cr_un e1, cr_un e2, cr_un e3]; exact hp
  · by_cases e' : i = h
    · subst e'
      rw [cr_us, cr_us]
      exact ⟨by omega, rfl⟩
    · rw [cr_un e']
      obtain ⟨h1, h2⟩ := T.2.1 i (by omega)
      have e1 : S i ≠ N := by omega
      have e2 : S i ≠ c := by intro z; rw [z] at h2; omega
      have e3 : S i ≠ a := by intro z; rw [z] at h2; omega
      rw [cr_un e1, cr_un e2, cr_un e3]
      exact ⟨by omega, h2⟩
  · obtain ⟨h1, h2, h3⟩ := T.2.2 p hp
    have e2 : ln p ≠ N := by omega
    rw [cr_un e2, cr_un e2]
    exact ⟨by omega, h2, h3⟩
/-- the node of STAR, PLUS or OPT -/
theorem cr_push1 {k a c : Nat} {e : Prop} (T : cr_tr lv (h + 1) N K A B S ln ls par E F L) (hN : N < 1000) (ha : S h = a)
    (hk : 3 ≤ k) (hk5 : k ≤ 5) (he : e ↔ k ≠ 4 ∨ E a) :
    cr_tr lv (h + 1) (N + 1) (cr_u K N k) (cr_u A N a) (cr_u B N c) (cr_u S h N) ln ls (cr_u (cr_u par a N) N (1000 + h)) (cr_u E N e) (cr_u F N (F a)) (cr_u L N (L a)) := by
  obtain ⟨sa1, sa2⟩ := T.2.1 h (by omega)
  rw [ha] at sa1 sa2
  have aN : a ≠ N := by omega
  refine ⟨fun n hn => ?_, fun i hi => ?_, fun p hp => ?_⟩
  · by_cases e' : n = N
    · subst e'
      unfold cr_nd
      rw [cr_us, cr_us, cr_us, cr_us, cr_us, cr_us, cr_un aN, cr_un aN, cr_un aN, cr_un aN, cr_us]
      exact Or.inr (Or.inr (Or.inr ⟨hk, hk5, sa1, rfl, he, fun p => Iff.rfl, fun p => Iff.rfl⟩))
    · have hn' : n < N := by omega
      refine cr_ndk (T.1 n hn') (Nat.le_refl _) (cr_ag hn') (fun p hp => ⟨rfl, rfl⟩) (fun j hj hp => ?_)
      have e1 : j ≠ N := by omega
      have e3 : j ≠ a := by intro z; rw [z] at hp; omega
      rw [cr_un e1, cr_un e3]; exact hp
  · by_cases e' : i = h
    · subst e'
      rw [cr_us, cr_us]
      exact ⟨by omega, rfl⟩
    · rw [cr_un e']
      obtain ⟨h1, h2⟩ := T.2.1 i (by omega)
      have e1 : S i ≠ N := by omega
      have e3 : S i ≠ a := by intro z; rw [z] at h2; omega
      rw [cr_un e1, cr_un e3]
      exact ⟨by omega, h2⟩
  · obtain ⟨h1, h2, h3⟩ := T.2.2 p hp
    have e2 : ln p ≠ N := by omega
    rw [cr_un e2, cr_un e2]
    exact ⟨by omega, h2, h3⟩
/-- what follows what, with a node more -/
theorem cr_foS {k a c q p : Nat} {f l : Nat → Prop} (T : cr_tr lv h N K A B S ln ls par E F L) (hk : k ≠ 0 → a < N ∧ c < N) :
    cr_fo (N + 1) (cr_u K N k) (cr_u A N a) (cr_u B N c) (cr_u F N f) (cr_u L N l) q p ↔ cr_fo N K A B F L q p ∨ (k = 1 ∧ L a q ∧ F c p) ∨ ((k = 3 ∨ k = 4) ∧ L a q ∧ F a p) := by
  have old : ∀ m, m < N → (((cr_u K N k m = 1 ∧ cr_u L N l (cr_u A N a m) q ∧ cr_u F N f (cr_u B N c m) p) ∨ ((cr_u K N k m = 3 ∨ cr_u K N k m = 4) ∧ cr_u L N l (cr_u A N a m) q ∧ cr_u F N f (cr_u A N a m) p)) ↔
      ((K m = 1 ∧ L (A m) q ∧ F (B m) p) ∨ ((K m = 3 ∨ K m = 4) ∧ L (A m) q ∧ F (A m) p))) := by
    intro m hm
    have nd := T.1 m hm
    have e : m ≠ N := by omega
    rw [cr_un e, cr_un e, cr_un e]
    by_cases k0 : K m = 0
    · rw [k0]; simp
    · have hA := (cr_ndA nd k0).1
      have eA : A m ≠ N := by omega
      rw [cr_un eA, cr_un eA]
      by_cases k1 : K m = 1
      · have hB := (cr_ndB nd (Or.inl k1)).1
        have eB : B m ≠ N := by omega
        rw [cr_un eB]
      · simp [k1]
  constructor
  · rintro ⟨m, hm, z⟩
    by_cases e : m = N
    · subst e
      rw [cr_us, cr_us, cr_us] at z
      have k0 : k ≠ 0 := by
        rcases z with z | z
        · omega
        · omega
      obtain ⟨ha, hc⟩ := hk k0
      have aN : a ≠ m := by omega
      have cN : c ≠ m := by omega
      rw [cr_un aN, cr_un aN, cr_un cN] at z
      exact Or.inr z
    · exact Or.inl ⟨m, by omega, (old m (by omega)).mp z⟩
  · rintro (⟨m, hm, z⟩ | z)
    · exact ⟨m, by omega, (old m hm).mpr z⟩
    · have k0 : k ≠ 0 := by
        rcases z with z | z
        · omega
        · omega
      obtain ⟨ha, hc⟩ := hk k0
      have aN : a ≠ N := by omega
      have cN : c ≠ N := by omega
      refine ⟨N, by omega, ?_⟩
      rw [cr_us, cr_us, cr_us, cr_un aN, cr_un aN, cr_un cN]
      exact z
end CRP
end
section
section CRX
/-! bits, booleans -/
theorem cr_nb0 : vp_nar .boolean 0 = 0 := by decide
theorem cr_nb1 : vp_nar .boolean 1 = 1 := by decide
theorem cr_nb {x : Int32} (h : x = 0 ∨ x = 1) : vp_nar .boolean x = x := by
  rcases h with rfl | rfl
  · exact cr_nb0
  · exact cr_nb1
theorem cr_nn {x : Int32} (h : x = 0 ∨ x = 1) : narrow .boolean (.int x) = .int x := by
  rcases h with rfl | rfl <;> rfl
theorem cr_10 : ¬ (1 : Int32) = 0 := by decide
def cr_01 (a : Nat → Int32) : Prop := ∀ j, a j = 0 ∨ a j = 1
theorem cr_01u {a : Nat → Int32} {k : Nat} {x : Int32} (h : cr_01 a) (hx : x = 0 ∨ x = 1) : cr_01 (upd a k x) := by
  intro j
  by_cases e : j = k
  · subst e; rw [pk_us]; exact hx
  · rw [pk_un e]; exact h j
theorem cr_ub0 {a : Nat → Int32} {i : Nat} (h : i < 2 ^ 31) : upd a (nI i).toNatClampNeg (vp_nar .boolean 0) = upd a i 0 := by rw [nI_clamp h, cr_nb0]
theorem cr_ub1 {a : Nat → Int32} {i : Nat} (h : i < 2 ^ 31) : upd a (nI i).toNatClampNeg (vp_nar .boolean 1) = upd a i 1 := by rw [nI_clamp h, cr_nb1]
theorem cr_ub {a : Nat → Int32} {i : Nat} {x : Int32} (h : i < 2 ^ 31) (hx : x = 0 ∨ x = 1) : upd a (nI i).toNatClampNeg (vp_nar .boolean x) = upd a i x := by rw [nI_clamp h, cr_nb hx]
theorem cr_ui {a : Nat → Int32} {i : Nat} {x : Int32} (h : i < 2 ^ 31) : upd a (nI i).toNatClampNeg x = upd a i x := by rw [nI_clamp h]
theorem cr_b1 : ∀ i, i < 32 → bt 1 i = decide (i = 0) := by decide +kernel
theorem cr_bit1 {s : Int32} {p : Nat} (hp : p < 32) : ((s >>> (nI p &&& 31)) &&& 1) = 1 ↔ bt s p = true := by
  constructor
  · intro h
    have h0 : bt ((s >>> (nI p &&& 31)) &&& 1) 0 = true := by rw [h]; decide
    rw [b_and, b_sshr p hp s (by omega), if_pos (by omega)] at h0
    simp only [Bool.and_eq_true] at h0
    exact h0.1
  · intro h
    apply b_ext
    intro i hi
    rw [b_and, cr_b1 i hi]
    by_cases e : i = 0
    · subst e
      rw [b_sshr p hp s (by omega), if_pos (by omega)]
      simp [h]
    · simp [e]
theorem cr_sl {i p : Nat} (hp : p < 32) (hi : i < 32) : bt ((1 : Int32) <<< (nI p &&& 31)) i = decide (i = p) := by
  rw [b_shl p hp 1 hi, cr_b1 (i - p) (by omega)]
  by_cases e : i = p
  · subst e; simp
  · by_cases e2 : p ≤ i
    · have : ¬ i - p = 0 := by omega
      simp [e, this]
    · simp [e, e2]
theorem cr_bit0 {s : Int32} {p : Nat} (hp : p < 32) : (s &&& ((1 : Int32) <<< (nI p &&& 31))) = 0 ↔ bt s p = false := by
  constructor
  · intro h
    have h0 : bt (s &&& ((1 : Int32) <<< (nI p &&& 31))) p = false := by rw [h, b_0]
    rw [b_and, cr_sl hp hp] at h0
    simpa using h0
  · intro h
    apply b_ext
    intro i hi
    rw [b_and, cr_sl hp hi, b_0]
    by_cases e : i = p
    · subst e; rw [h]; rfl
    · simp [e]
theorem cr_nt {x : Bool} (h : ¬ x = true) : x = false := by cases x <;> first | rfl | exact absurd rfl h
theorem cr_s1' {n : Nat} (h : 0 < n) : nI n - 1 = nI (n - 1) := by
  obtain ⟨m, rfl⟩ : ∃ m, n = m + 1 := ⟨n - 1, by omega⟩
  exact nI_pred m
/-! the leaves' table in X -/
def cr_lf (lv : Nat) (ls tp bs : Nat → Nat) (aL aT aE aB : Nat → Int32) : Prop :=
  lv ≤ 12 ∧ (∀ p, p < lv → aL p = nI (ls p) ∧ aT p = nI (tp p) ∧ aB p = nI (bs p) ∧ (aE p = 0 ∨ aE p = 1) ∧ 1 ≤ tp p ∧ ls p ≤ tp p ∧ bs p + tp p ≤ 224) ∧
  (∀ p q, p < q → q < lv → bs p + tp p ≤ bs q)
/-- leaf p can be left -/
def cr_C (hx : Nat → Int32) (ls tp bs : Nat → Nat) (p : Nat) : Prop := ∃ v, 1 ≤ v ∧ ls p ≤ v ∧ v ≤ tp p ∧ ¬ hx (bs p + v - 1) = 0
variable {xL xW xP xT xC xR xN xH : Int32} {aC aL aT aE aB aF iE iF iL hx : Nat → Int32} {lv : Nat} {ls tp bs : Nat → Nat} {post : Int32 → Prop}
theorem cx_con {s : Int32} {p : Nat} (hp : p < 32) (h1 : bt s p = true → post 1) (h0 : bt s p = false → post 0) : wpX_contains post s (nI p) := by
  by_cases h : bt s p = true
  · exact br_t ((cr_bit1 hp).mpr h) (h1 h)
  · exact br_f (fun z => h ((cr_bit1 hp).mp z)) (h0 (cr_nt h))
theorem cr_cell {p a b : Nat} (hp : p < 12) (hB : aB p = nI b) (ha : 1 ≤ a) : ((aB (nI p).toNatClampNeg) + nI a) - 1 = nI (b + a - 1) := by
  rw [nI_clamp (by omega), hB, nI_add, cr_s1' (by omega)]
theorem cx_hwl {p b t : Nat} (hp : p < 12) (hB : aB p = nI b) (ht : b + t ≤ 224) : ∀ n a, t + 1 - a < n → 1 ≤ a → a ≤ 225 → ((∃ v, a ≤ v ∧ v ≤ t ∧ ¬ hx (b + v - 1) = 0) → post 1) →
    ((∀ v, a ≤ v → v ≤ t → hx (b + v - 1) = 0) → post 0) → wX_holdsWithin_3 post (nI p) (nI t) xL xW xP xT xC xR xN xH aC aL aT aE aB aF iE iF iL hx n (nI a) := by
  intro n
  induction n with
  | zero => intro a h; omega
  | succ n ih =>
    intro a hn ha ha2 h1 h0
    rcases Nat.lt_or_ge t a with h | h
    · exact br_t (nI_lt h (by omega)) (h0 (fun v hv hv2 => by omega))
    · have e := cr_cell (aB := aB) hp hB ha
      have hi : vp_in (nI p) 12 := vp_in_nI hp (by decide)
      by_cases z : hx (b + a - 1) = 0
      · refine br_f (nI_nlt h (by omega)) ⟨hi, (by rw [e]; exact vp_in_nI (by omega) (by decide)), br_t (by rw [e, nI_clamp (by omega)]; exact z) (nm_r (nI_1 a) (ih (a + 1) (by omega) (by omega) (by omega) (fun ⟨v, v1, v2, v3⟩ => h1 ⟨v, by omega, v2, v3⟩) (fun k => h0 (fun v v1 v2 => ?_))))⟩
        by_cases ev : v = a
        · subst ev; exact z
        · exact k v (by omega) v2
      · exact br_f (nI_nlt h (by omega)) ⟨hi, (by rw [e]; exact vp_in_nI (by omega) (by decide)), br_f (by rw [e, nI_clamp (by omega)]; exact z) (h1 ⟨a, Nat.le_refl a, h, z⟩)⟩
theorem cx_hw {p b t a : Nat} (hp : p < 12) (hB : aB p = nI b) (ht : b + t ≤ 224) (ha : 1 ≤ a) (ha2 : a ≤ 225) (h1 : (∃ v, a ≤ v ∧ v ≤ t ∧ ¬ hx (b + v - 1) = 0) → post 1)
    (h0 : (∀ v, a ≤ v → v ≤ t → hx (b + v - 1) = 0) → post 0) : wpX_holdsWithin post (xL, xW, xP, xT, xC, xR, xN, xH, aC, aL, aT, aE, aB, aF, iE, iF, iL, hx) (nI p) (nI a) (nI t) :=
  ⟨t + 2, cx_hwl hp hB ht (t + 2) a (by omega) ha ha2 h1 h0⟩
theorem cx_cl {p : Nat} (G : cr_lf lv ls tp bs aL aT aE aB) (hp : p < lv) (h1 : cr_C hx ls tp bs p → post 1) (h0 : ¬ cr_C hx ls tp bs p → post 0) : wpX_canLeave post (xL, xW, xP, xT, xC, xR, xN, xH, aC, aL, aT, aE, aB, aF, iE, iF, iL, hx) (nI p) := by
  obtain ⟨g1, g2, g3⟩ := G
  obtain ⟨eL, eT, eB, eE, t1, t2, t3⟩ := g2 p hp
  have hi : vp_in (nI p) 12 := vp_in_nI (by omega) (by decide)
  have cp : (nI p).toNatClampNeg = p := nI_clamp (by omega)
  have main : ∀ a, 1 ≤ a → a ≤ 225 → (∀ v, a ≤ v ↔ 1 ≤ v ∧ ls p ≤ v) → wX_canLeave_20 post (nI p) (nI a) xL xW xP xT xC xR xN xH aC aL aT aE aB aF iE iF iL hx := by
    intro a ha ha2 hv
    refine ⟨hi, ?_⟩
    rw [cp, eT]
    refine cx_hw (by omega) eB t3 ha ha2 (fun ⟨v, v1, v2, v3⟩ => ⟨rfl, h1 ⟨v, ((hv v).mp v1).1, ((hv v).mp v1).2, v2, v3⟩⟩) (fun k => ⟨rfl, h0 (fun ⟨v, v1, v2, v3, v4⟩ => v4 (k v ((hv v).mpr ⟨v1, v2⟩) v3))⟩)
  refine ⟨hi, ?_⟩
  by_cases z : ls p ≤ 1
  · refine br_t (by rw [cp, eL]; exact nI_le (b := 1) z (by decide)) (main 1 (by omega) (by omega) (fun v => by omega))
  · refine br_f (by rw [cp, eL]; exact nI_ge (a := 1) (by omega) (by omega)) ⟨hi, ?_⟩
    rw [cp, eL]
    exact main (ls p) (by omega) (by omega) (fun v => by omega)
theorem cx_go {p : Nat} (G : cr_lf lv ls tp bs aL aT aE aB) (hp : p < lv) (h1 : (∃ v, 1 ≤ v ∧ v ≤ tp p ∧ (v < tp p ∨ ¬ aE p = 0) ∧ ¬ hx (bs p + v - 1) = 0) → post 1)
    (h0 : ¬ (∃ v, 1 ≤ v ∧ v ≤ tp p ∧ (v < tp p ∨ ¬ aE p = 0) ∧ ¬ hx (bs p + v - 1) = 0) → post 0) : wpX_canGoOn post (xL, xW, xP, xT, xC, xR, xN, xH, aC, aL, aT, aE, aB, aF, iE, iF, iL, hx) (nI p) := by
  obtain ⟨g1, g2, g3⟩ := G
  obtain ⟨eL, eT, eB, eE, t1, t2, t3⟩ := g2 p hp
  have hi : vp_in (nI p) 12 := vp_in_nI (by omega) (by decide)
  have cp : (nI p).toNatClampNeg = p := nI_clamp (by omega)
  refine ⟨hi, ?_⟩
  by_cases z : aE p = 0
  · refine br_t (by rw [cp]; exact z) ⟨hi, ?_⟩
    unfold wX_canGoOn_29
    rw [cp, eT, cr_s1' (by omega)]
    refine cx_hw (a := 1) (by omega) eB (by omega) (by omega) (by omega) (fun ⟨v, v1, v2, v3⟩ => ⟨rfl, h1 ⟨v, v1, by omega, Or.inl (by omega), v3⟩⟩) (fun k => ⟨rfl, h0 (fun ⟨v, v1, v2, v3, v4⟩ => ?_)⟩)
    rcases v3 with v3 | v3
    · exact v4 (k v v1 (by omega))
    · exact v3 z
  · refine br_f (by rw [cp]; exact z) ⟨hi, ?_⟩
    unfold wX_canGoOn_29
    rw [cp, eT]
    exact cx_hw (a := 1) (by omega) eB t3 (by omega) (by omega) (fun ⟨v, v1, v2, v3⟩ => ⟨rfl, h1 ⟨v, v1, v2, Or.inr z, v3⟩⟩) (fun k => ⟨rfl, h0 (fun ⟨v, v1, v2, v3, v4⟩ => v4 (k v v1 v2))⟩)
/-- the leaves that can be entered, as X reckons them -/
def cr_xe (s0 : Int32) (lv : Nat) (C : Nat → Prop) (aF : Nat → Int32) (p : Nat) : Prop := bt s0 p = true ∨ ∃ q, q < lv ∧ C q ∧ bt (aF q) p = true
theorem cx_enl {s0 : Int32} (G : cr_lf lv ls tp bs aL aT aE aB) (hp : ∀ x, (∀ p, p < 32 → (bt x p = true ↔ cr_xe s0 lv (cr_C hx ls tp bs) aF p)) → post x) :
    ∀ n i x, lv - i < n → i ≤ lv → (∀ p, p < 32 → (bt x p = true ↔ cr_xe s0 i (cr_C hx ls tp bs) aF p)) → wX_enterableLeaves_20 post xL xW xP xT (nI lv) xR xN xH aC aL aT aE aB aF iE iF iL hx n x (nI i) := by
  have g1 := G.1
  intro n
  induction n with
  | zero => intro i x h; omega
  | succ n ih =>
    intro i x hn hi hx'
    rcases Nat.lt_or_ge i lv with h | h
    · refine br_f (nI_ge h (by omega)) (cx_cl G h (fun z => br_f cr_10 ⟨vp_in_nI (by omega) (by decide), nm_r (by rw [nI_clamp (by omega)]) (nm_r (nI_1 i) (ih (i + 1) _ (by omega) (by omega) (fun p hp => ?_)))⟩) (fun z => br_t rfl (nm_r (nI_1 i) (ih (i + 1) _ (by omega) (by omega) (fun p hp => ?_)))))
      · rw [b_or, Bool.or_eq_true, hx' p hp]
        constructor
        · rintro ((w | ⟨q, q1, q2, q3⟩) | w)
          · exact Or.inl w
          · exact Or.inr ⟨q, by omega, q2, q3⟩
          · exact Or.inr ⟨i, by omega, z, w⟩
        · rintro (w | ⟨q, q1, q2, q3⟩)
          · exact Or.inl (Or.inl w)
          · by_cases e : q = i
            · subst e; exact Or.inr q3
            · exact Or.inl (Or.inr ⟨q, by omega, q2, q3⟩)
      · rw [hx' p hp]
        constructor
        · rintro (w | ⟨q, q1, q2, q3⟩)
          · exact Or.inl w
          · exact Or.inr ⟨q, by omega, q2, q3⟩
        · rintro (w | ⟨q, q1, q2, q3⟩)
          · exact Or.inl w
          · by_cases e : q = i
            · subst e; exact absurd q2 z
            · exact Or.inr ⟨q, by omega, q2, q3⟩
    · have e : i = lv := by omega
      subst e
      exact br_t (nI_le (Nat.le_refl i) (by omega)) (hp x hx')
theorem cx_st (h1 : xP = 2 ∨ xN = 0 → post 1) (h0 : ¬ (xP = 2 ∨ xN = 0) → post 0) : wpX_canStartHere post (xL, xW, xP, xT, xC, xR, xN, xH, aC, aL, aT, aE, aB, aF, iE, iF, iL, hx) := by
  by_cases a : xP = 2
  · exact br_t a (h1 (Or.inl a))
  · by_cases b : xN = 0
    · exact br_f a (br_t b (h1 (Or.inr b)))
    · exact br_f a (br_f b (h0 (fun z => z.elim a b)))
theorem cx_en (G : cr_lf lv ls tp bs aL aT aE aB) (hp : ∀ x, (∀ p, p < 32 → (bt x p = true ↔ ((xP = 2 ∨ xN = 0) ∧ bt (iF 0) p = true) ∨ ∃ q, q < lv ∧ cr_C hx ls tp bs q ∧ bt (aF q) p = true)) → post x) :
    wpX_enterableLeaves post (xL, xW, xP, xT, nI lv, xR, xN, xH, aC, aL, aT, aE, aB, aF, iE, iF, iL, hx) := by
  unfold wpX_enterableLeaves
  refine cx_st (fun z => ?_) (fun z => ?_)
  · refine br_f cr_10 (nm_e ⟨lv + 1, ?_⟩)
    refine cx_enl (s0 := iF 0) G (fun x h => hp x (fun p h32 => (h p h32).trans ⟨fun w => w.elim (fun w => Or.inl ⟨z, w⟩) Or.inr, fun w => w.elim (fun w => Or.inl w.2) Or.inr⟩)) (lv + 1) 0 (iF 0) (by omega) (by omega) (fun p h32 => ⟨Or.inl, fun w => w.elim id (fun ⟨q, q1, _⟩ => by omega)⟩)
  · refine br_t rfl ⟨lv + 1, ?_⟩
    refine cx_enl (s0 := 0) G (fun x h => hp x (fun p h32 => (h p h32).trans ⟨fun w => w.elim (fun w => absurd w (by rw [b_0]; decide)) Or.inr, fun w => w.elim (fun w => absurd w.1 z) Or.inr⟩)) (lv + 1) 0 0 (by omega) (by omega) (fun p h32 => ⟨Or.inl, fun w => w.elim id (fun ⟨q, q1, _⟩ => by omega)⟩)
theorem cx_acl (G : cr_lf lv ls tp bs aL aT aE aB) (h1 : (∃ q, q < lv ∧ bt (iL 0) q = true ∧ cr_C hx ls tp bs q) → post 1) (h0 : ¬ (∃ q, q < lv ∧ bt (iL 0) q = true ∧ cr_C hx ls tp bs q) → post 0) :
    ∀ n i, lv - i < n → i ≤ lv → (∀ q, q < i → ¬ (bt (iL 0) q = true ∧ cr_C hx ls tp bs q)) → wX_inputAccepted_20 post xL xW xP xT (nI lv) xR xN xH aC aL aT aE aB aF iE iF iL hx n (nI i) := by
  have g1 := G.1
  intro n
  induction n with
  | zero => intro i h; omega
  | succ n ih =>
    intro i hn hi hq
    rcases Nat.lt_or_ge i lv with h | h
    · have next : ¬ (bt (iL 0) i = true ∧ cr_C hx ls tp bs i) → wX_inputAccepted_20 post xL xW xP xT (nI lv) xR xN xH aC aL aT aE aB aF iE iF iL hx n (nI (i + 1)) := by
        intro z
        refine ih (i + 1) (by omega) (by omega) (fun q q1 => ?_)
        by_cases e : q = i
        · subst e; exact z
        · exact hq q (by omega)
      exact br_f (nI_ge h (by omega)) (cx_con (by omega) (fun z => br_f cr_10 (cx_cl G h (fun w => br_f cr_10 (h1 ⟨i, h, z, w⟩)) (fun w => br_t rfl (nm_r (nI_1 i) (next (fun k => w k.2)))))) (fun z => br_t rfl (nm_r (nI_1 i) (next (fun k => by rw [z] at k; exact absurd k.1 (by decide))))))
    · have e : i = lv := by omega
      subst e
      exact br_t (nI_le (Nat.le_refl i) (by omega)) (h0 (fun ⟨q, q1, q2⟩ => hq q q1 q2))
/-- the input is accepted, as X reckons it -/
def cr_xa (xP xN : Int32) (lv : Nat) (C : Nat → Prop) (iE iL : Nat → Int32) : Prop := ((xP = 2 ∨ xN = 0) ∧ ¬ iE 0 = 0) ∨ ∃ q, q < lv ∧ bt (iL 0) q = true ∧ C q
theorem cx_acc (G : cr_lf lv ls tp bs aL aT aE aB) (h1 : cr_xa xP xN lv (cr_C hx ls tp bs) iE iL → post 1) (h0 : ¬ cr_xa xP xN lv (cr_C hx ls tp bs) iE iL → post 0) : wpX_inputAccepted post (xL, xW, xP, xT, nI lv, xR, xN, xH, aC, aL, aT, aE, aB, aF, iE, iF, iL, hx) := by
  have loop : ¬ ((xP = 2 ∨ xN = 0) ∧ ¬ iE 0 = 0) → ∃ n20 : Nat, wX_inputAccepted_20 post xL xW xP xT (nI lv) xR xN xH aC aL aT aE aB aF iE iF iL hx n20 0 := fun z =>
    ⟨lv + 1, cx_acl G (fun w => h1 (Or.inr w)) (fun w => h0 (fun k => k.elim z w)) (lv + 1) 0 (by omega) (by omega) (fun q q1 => by omega)⟩
  by_cases e : iE 0 = 0
  · exact br_t e (loop (fun z => z.2 e))
  · exact br_f e (cx_st (fun z => br_f cr_10 (h1 (Or.inl ⟨z, e⟩))) (fun z => br_t rfl (loop (fun k => z k.1))))
end CRX
end
section
section CRS
/-! X's step: a leaf moves on, a leaf is dropped, a letter is appended -/
variable {xL xW xP xT xC xR xN xH : Int32} {aC aL aT aE aB aF iE iF iL hx : Nat → Int32} {lv : Nat} {ls tp bs : Nat → Nat} {post : SX → Prop}
theorem cx_drl : ∀ n i g, 224 - i < n → i ≤ 224 → cr_01 g → (∀ j, j < i → g j = 0) → (∀ g', cr_01 g' → (∀ j, j < 224 → g' j = 0) → post (xL, xW, xP, xT, xC, xR, xN, xH, aC, aL, aT, aE, aB, aF, iE, iF, iL, g')) →
    wX_dropInput_12 post xL xW xP xT xC xR xN xH n (nI i) aC aL aT aE aB aF iE iF iL g := by
  intro n
  induction n with
  | zero => intro i g h; omega
  | succ n ih =>
    intro i g hn hi h01 h0 hp
    rcases Nat.lt_or_ge i 224 with h | h
    · refine br_f (nI_ge (b := 224) h (by decide)) ⟨vp_in_nI h (by decide), nm_r (cr_ub0 (by omega)) (nm_r (nI_1 i) (ih (i + 1) _ (by omega) (by omega) (cr_01u h01 (Or.inl rfl)) (fun j hj => ?_) hp))⟩
      by_cases e : j = i
      · subst e; exact pk_us
      · rw [pk_un e]; exact h0 j (by omega)
    · exact br_t (nI_le (a := 224) h (by omega)) (hp g h01 (fun j hj => h0 j (by omega)))
theorem cx_dr (h01 : cr_01 hx) (hp : ∀ g', cr_01 g' → (∀ j, j < 224 → g' j = 0) → post (xL, xW, xP, xT, xC, xR, 0, -1, aC, aL, aT, aE, aB, aF, iE, iF, iL, g')) : wpX_dropInput post (xL, xW, xP, xT, xC, xR, xN, xH, aC, aL, aT, aE, aB, aF, iE, iF, iL, hx) :=
  ⟨225, cx_drl (xN := 0) (xH := -1) 225 0 hx (by omega) (by omega) h01 (fun j hj => by omega) hp⟩
/-- what a leaf's cells become -/
def cr_mv (hx g : Nat → Int32) (b t : Nat) (e : Prop) (s : Prop) : Prop :=
  (∀ j, j < b ∨ b + t ≤ j → g j = hx j) ∧ (∀ v, 1 ≤ v → v ≤ t → (¬ g (b + v - 1) = 0 ↔ (v = 1 ∧ e) ∨ (1 < v ∧ ¬ hx (b + v - 2) = 0) ∨ (s ∧ v = t ∧ ¬ hx (b + v - 1) = 0)))
theorem cx_mvl {b t : Nat} {e s : Int32} (t1 : 1 ≤ t) (t2 : b + t ≤ 224) (he : e = 0 ∨ e = 1) {S : Prop} (hs : ¬ s = 0 ↔ S ∧ ¬ hx (b + t - 1) = 0) : ∀ n c g, c - b < n → b ≤ c → c ≤ b + t - 1 → cr_01 g → (∀ j, j ≤ c → g j = hx j) → (∀ j, c < j → j ≤ b + t - 1 → g j = hx (j - 1)) → (∀ j, b + t ≤ j → g j = hx j) →
    (∀ g', cr_01 g' → cr_mv hx g' b t (¬ e = 0) S → post (xL, xW, xP, xT, xC, xR, xN, xH, aC, aL, aT, aE, aB, aF, iE, iF, iL, g')) → wX_moveOn_49 post e (nI b) (nI (b + t - 1)) s xL xW xP xT xC xR xN xH n (nI c) aC aL aT aE aB aF iE iF iL g := by
  intro n
  induction n with
  | zero => intro c g h; omega
  | succ n ih =>
    intro c g hn hc1 hc2 h01 g1 g2 g3 hp
    rcases Nat.lt_or_ge b c with h | h
    · have em : nI c - 1 = nI (c - 1) := cr_s1' (by omega)
      have em2 : nI c + (-1) = nI (c - 1) := by
        obtain ⟨m, rfl⟩ : ∃ m, c = m + 1 := ⟨c - 1, by omega⟩
        exact pk_m1 m
      refine br_f (nI_ge h (by omega)) ⟨(by rw [em]; exact vp_in_nI (by omega) (by decide)), vp_in_nI (by omega) (by decide), nm_r (e' := upd g c (g (c - 1))) ?_ (nm_r em2 (ih (c - 1) _ (by omega) (by omega) (by omega) (cr_01u h01 (h01 _)) (fun j hj => ?_) (fun j hj hj2 => ?_) (fun j hj => ?_) hp))⟩
      · rw [em, nI_clamp (by omega), nI_clamp (by omega), cr_nb (h01 _)]
      · rw [pk_un (by omega)]; exact g1 j (by omega)
      · by_cases ej : j = c
        · subst ej; rw [pk_us]; exact g1 _ (by omega)
        · rw [pk_un ej]; exact g2 j (by omega) hj2
      · rw [pk_un (by omega)]; exact g3 j hj
    · have ec : c = b := by omega
      subst ec
      refine br_t (nI_le (Nat.le_refl c) (by omega)) ⟨vp_in_nI (by omega) (by decide), nm_r (cr_ub (by omega) he) ?_⟩
      have h01' : cr_01 (upd g c e) := cr_01u h01 he
      by_cases z : s = 0
      · refine br_t z (hp _ h01' ⟨fun j hj => ?_, fun v v1 v2 => ?_⟩)
        · rw [pk_un (by omega)]
          rcases hj with hj | hj
          · exact g1 j (by omega)
          · exact g3 j hj
        · have ns : ¬ (S ∧ ¬ hx (c + t - 1) = 0) := fun k => hs.mpr k z
          by_cases ev : v = 1
          · subst ev
            have ej : c + 1 - 1 = c := by omega
            rw [ej, pk_us]
            constructor
            · intro k; exact Or.inl ⟨rfl, k⟩
            · rintro (k | k | ⟨k1, k2, k3⟩)
              · exact k.2
              · omega
              · rw [← k2] at ns; rw [ej] at ns; exact absurd ⟨k1, k3⟩ ns
          · rw [pk_un (by omega), g2 (c + v - 1) (by omega) (by omega), show c + v - 1 - 1 = c + v - 2 by omega]
            constructor
            · intro k; exact Or.inr (Or.inl ⟨by omega, k⟩)
            · rintro (k | k | ⟨k1, k2, k3⟩)
              · omega
              · exact k.2
              · rw [← k2] at ns; exact absurd ⟨k1, k3⟩ ns
      · obtain ⟨z1, z2⟩ := hs.mp z
        refine br_f z ⟨vp_in_nI (by omega) (by decide), nm_r (cr_ub1 (by omega)) (hp _ (cr_01u h01' (Or.inr rfl)) ⟨fun j hj => ?_, fun v v1 v2 => ?_⟩)⟩
        · rw [pk_un (by omega), pk_un (by omega)]
          rcases hj with hj | hj
          · exact g1 j (by omega)
          · exact g3 j hj
        · by_cases et : v = t
          · subst et
            rw [pk_us]
            exact ⟨fun _ => Or.inr (Or.inr ⟨z1, rfl, z2⟩), fun _ => cr_10⟩
          · rw [pk_un (by omega)]
            by_cases ev : v = 1
            · subst ev
              have ej : c + 1 - 1 = c := by omega
              rw [ej, pk_us]
              constructor
              · intro k; exact Or.inl ⟨rfl, k⟩
              · rintro (k | k | ⟨k1, k2, k3⟩)
                · exact k.2
                · omega
                · exact absurd k2 et
            · rw [pk_un (by omega), g2 (c + v - 1) (by omega) (by omega), show c + v - 1 - 1 = c + v - 2 by omega]
              constructor
              · intro k; exact Or.inr (Or.inl ⟨by omega, k⟩)
              · rintro (k | k | ⟨k1, k2, k3⟩)
                · omega
                · exact k.2
                · exact absurd k2 et
theorem cx_mv {p : Nat} {e : Int32} (G : cr_lf lv ls tp bs aL aT aE aB) (hp : p < lv) (h01 : cr_01 hx) (he : e = 0 ∨ e = 1)
    (H : ∀ g', cr_01 g' → cr_mv hx g' (bs p) (tp p) (¬ e = 0) (¬ aE p = 0) → post (xL, xW, xP, xT, xC, xR, xN, xH, aC, aL, aT, aE, aB, aF, iE, iF, iL, g')) : wpX_moveOn post (xL, xW, xP, xT, xC, xR, xN, xH, aC, aL, aT, aE, aB, aF, iE, iF, iL, hx) (nI p) e := by
  obtain ⟨g1, g2, g3⟩ := G
  obtain ⟨eL, eT, eB, eE, t1, t2, t3⟩ := g2 p hp
  have hi : vp_in (nI p) 12 := vp_in_nI (by omega) (by decide)
  have cp : (nI p).toNatClampNeg = p := nI_clamp (by omega)
  have loop : ∀ s : Int32, (¬ s = 0 ↔ ¬ aE p = 0 ∧ ¬ hx (bs p + tp p - 1) = 0) → ∃ n49 : Nat, wX_moveOn_49 post e (nI (bs p)) (nI (bs p + tp p - 1)) s xL xW xP xT xC xR xN xH n49 (nI (bs p + tp p - 1)) aC aL aT aE aB aF iE iF iL hx := fun s hs =>
    ⟨tp p + 1, cx_mvl t1 t3 he hs (tp p + 1) (bs p + tp p - 1) hx (by omega) (by omega) (by omega) h01 (fun j _ => rfl) (fun j a b => by omega) (fun j _ => rfl) H⟩
  refine ⟨hi, nm_r (e' := nI (bs p)) (by rw [cp, eB]) ⟨hi, nm_r (e' := nI (bs p + tp p - 1)) (by rw [cp, eT, nI_add, cr_s1' (by omega)]) ⟨hi, ?_⟩⟩⟩
  by_cases z : aE p = 0
  · exact br_t (by rw [cp]; exact z) (loop 0 ⟨fun k => absurd rfl k, fun k => absurd z k.1⟩)
  · refine br_f (by rw [cp]; exact z) ⟨vp_in_nI (by omega) (by decide), ?_⟩
    by_cases w : hx (bs p + tp p - 1) = 0
    · exact br_t (by rw [nI_clamp (by omega)]; exact w) (loop 0 ⟨fun k => absurd rfl k, fun k => absurd w k.2⟩)
    · exact br_f (by rw [nI_clamp (by omega)]; exact w) (loop 1 ⟨fun _ => ⟨z, w⟩, fun _ => cr_10⟩)
theorem cx_dpl {p : Nat} (G : cr_lf lv ls tp bs aL aT aE aB) (hp : p < lv) : ∀ n a g, tp p + 1 - a < n → 1 ≤ a → a ≤ tp p + 1 → cr_01 g → (∀ j, j < bs p ∨ bs p + tp p ≤ j → g j = hx j) → (∀ v, 1 ≤ v → v < a → g (bs p + v - 1) = 0) →
    (∀ g', cr_01 g' → (∀ j, j < bs p ∨ bs p + tp p ≤ j → g' j = hx j) → (∀ v, 1 ≤ v → v ≤ tp p → g' (bs p + v - 1) = 0) → post (xL, xW, xP, xT, xC, xR, xN, xH, aC, aL, aT, aE, aB, aF, iE, iF, iL, g')) → wX_dropPairs_2 post (nI p) xL xW xP xT xC xR xN xH n (nI a) aC aL aT aE aB aF iE iF iL g := by
  obtain ⟨g1, g2, g3⟩ := G
  obtain ⟨eL, eT, eB, eE, t1, t2, t3⟩ := g2 p hp
  have hi : vp_in (nI p) 12 := vp_in_nI (by omega) (by decide)
  have cp : (nI p).toNatClampNeg = p := nI_clamp (by omega)
  intro n
  induction n with
  | zero => intro a g h; omega
  | succ n ih =>
    intro a g hn ha1 ha2 h01 o1 o2 H
    rcases Nat.lt_or_ge (tp p) a with h | h
    · exact ⟨hi, br_t (by rw [cp, eT]; exact nI_lt h (by omega)) (H g h01 o1 (fun v v1 v2 => o2 v v1 (by omega)))⟩
    · have e := cr_cell (aB := aB) (show p < 12 by omega) eB ha1
      refine ⟨hi, br_f (by rw [cp, eT]; exact nI_nlt h (by omega)) ⟨hi, (by rw [e]; exact vp_in_nI (by omega) (by decide)), nm_r (e' := upd g (bs p + a - 1) 0) (by rw [e]; exact cr_ub0 (by omega)) (nm_r (nI_1 a) (ih (a + 1) _ (by omega) (by omega) (by omega) (cr_01u h01 (Or.inl rfl)) (fun j hj => ?_) (fun v v1 v2 => ?_) H))⟩⟩
      · rw [pk_un (by omega)]; exact o1 j hj
      · by_cases ev : v = a
        · subst ev; exact pk_us
        · rw [pk_un (by omega)]; exact o2 v v1 (by omega)
theorem cx_dp {p : Nat} (G : cr_lf lv ls tp bs aL aT aE aB) (hp : p < lv) (h01 : cr_01 hx)
    (H : ∀ g', cr_01 g' → (∀ j, j < bs p ∨ bs p + tp p ≤ j → g' j = hx j) → (∀ v, 1 ≤ v → v ≤ tp p → g' (bs p + v - 1) = 0) → post (xL, xW, xP, xT, xC, xR, xN, xH, aC, aL, aT, aE, aB, aF, iE, iF, iL, g')) : wpX_dropPairs post (xL, xW, xP, xT, xC, xR, xN, xH, aC, aL, aT, aE, aB, aF, iE, iF, iL, hx) (nI p) :=
  ⟨tp p + 1, cx_dpl G hp (tp p + 1) 1 hx (by omega) (by omega) (by omega) h01 (fun j _ => rfl) (fun v a b => by omega) H⟩
/-- (p,v) is held after one letter x more -/
def cr_W (aC aE hx : Nat → Int32) (tp bs : Nat → Nat) (en : Nat → Prop) (x p v : Nat) : Prop :=
  bt (aC p) x = true ∧ ((v = 1 ∧ en p) ∨ (1 < v ∧ ¬ hx (bs p + v - 2) = 0) ∨ (¬ aE p = 0 ∧ v = tp p ∧ ¬ hx (bs p + v - 1) = 0))
theorem cr_far (G : cr_lf lv ls tp bs aL aT aE aB) {p q v : Nat} (hp : p < lv) (hq : q < lv) (hn : q ≠ p) (v1 : 1 ≤ v) (v2 : v ≤ tp q) : bs q + v - 1 < bs p ∨ bs p + tp p ≤ bs q + v - 1 := by
  rcases Nat.lt_or_ge q p with h | h
  · have := G.2.2 q p h hp; omega
  · have := G.2.2 p q (by omega) hq; omega
theorem cx_apl {x : Nat} {en : Int32} (hx8 : x < 8) (G : cr_lf lv ls tp bs aL aT aE aB) : ∀ n i g, lv - i < n → i ≤ lv → cr_01 g →
    (∀ q, q < i → ∀ v, 1 ≤ v → v ≤ tp q → (¬ g (bs q + v - 1) = 0 ↔ cr_W aC aE hx tp bs (fun p => bt en p = true) x q v)) →
    (∀ q, i ≤ q → q < lv → ∀ v, 1 ≤ v → v ≤ tp q → g (bs q + v - 1) = hx (bs q + v - 1)) →
    (∀ g', cr_01 g' → (∀ q, q < lv → ∀ v, 1 ≤ v → v ≤ tp q → (¬ g' (bs q + v - 1) = 0 ↔ cr_W aC aE hx tp bs (fun p => bt en p = true) x q v)) → post (xL, xW, xP, xT, nI lv, xR, xN + 1, xH, aC, aL, aT, aE, aB, aF, iE, iF, iL, g')) →
    wX_append_7 post (nI x) en n (nI i) xL xW xP xT (nI lv) xR xN xH aC aL aT aE aB aF iE iF iL g := by
  have g1 := G.1
  intro n
  induction n with
  | zero => intro i g h; omega
  | succ n ih =>
    intro i g hn hi h01 o1 o2 H
    rcases Nat.lt_or_ge i lv with h | h
    · have cp : (nI i).toNatClampNeg = i := nI_clamp (by omega)
      refine br_f (nI_ge h (by omega)) ⟨vp_in_nI (by omega) (by decide), cx_con (by omega) (fun z => br_f cr_10 ?_) (fun z => br_t rfl ?_)⟩
      · rw [cp] at z
        have mv : ∀ e : Int32, (e = 0 ∨ e = 1) → (¬ e = 0 ↔ bt en i = true) → ∀ g', cr_01 g' → cr_mv g g' (bs i) (tp i) (¬ e = 0) (¬ aE i = 0) → wX_append_7 post (nI x) en n (nI (i + 1)) xL xW xP xT (nI lv) xR xN xH aC aL aT aE aB aF iE iF iL g' := by
          intro e he hee g' h01' M
          refine ih (i + 1) g' (by omega) (by omega) h01' (fun q hq v v1 v2 => ?_) (fun q hq1 hq2 v v1 v2 => ?_) H
          · by_cases eq : q = i
            · subst eq
              rw [M.2 v v1 v2, hee]
              constructor
              · rintro (k | ⟨k1, k2⟩ | ⟨k1, k2, k3⟩)
                · exact ⟨z, Or.inl k⟩
                · have ev : bs q + v - 2 = bs q + (v - 1) - 1 := by omega
                  rw [ev, o2 q (Nat.le_refl q) h (v - 1) (by omega) (by omega), ← ev] at k2
                  exact ⟨z, Or.inr (Or.inl ⟨k1, k2⟩)⟩
                · rw [o2 q (Nat.le_refl q) h v v1 v2] at k3
                  exact ⟨z, Or.inr (Or.inr ⟨k1, k2, k3⟩)⟩
              · rintro ⟨_, k | ⟨k1, k2⟩ | ⟨k1, k2, k3⟩⟩
                · exact Or.inl k
                · have ev : bs q + v - 2 = bs q + (v - 1) - 1 := by omega
                  refine Or.inr (Or.inl ⟨k1, ?_⟩)
                  rw [ev, o2 q (Nat.le_refl q) h (v - 1) (by omega) (by omega), ← ev]; exact k2
                · refine Or.inr (Or.inr ⟨k1, k2, ?_⟩)
                  rw [o2 q (Nat.le_refl q) h v v1 v2]; exact k3
            · rw [M.1 _ (cr_far G h (by omega) eq v1 v2)]
              exact o1 q (by omega) v v1 v2
          · rw [M.1 _ (cr_far G h hq2 (by omega) v1 v2)]
            exact o2 q (by omega) hq2 v v1 v2
        refine cx_con (by omega) (fun w => ?_) (fun w => ?_)
        · exact cx_mv G h h01 (Or.inr rfl) (fun g' a b => nm_r (nI_1 i) (mv 1 (Or.inr rfl) ⟨fun _ => w, fun _ => cr_10⟩ g' a b))
        · exact cx_mv G h h01 (Or.inl rfl) (fun g' a b => nm_r (nI_1 i) (mv 0 (Or.inl rfl) ⟨fun k => absurd rfl k, fun k => by rw [w] at k; exact absurd k (by decide)⟩ g' a b))
      · rw [cp] at z
        refine cx_dp G h h01 (fun g' h01' p1 p2 => nm_r (nI_1 i) (ih (i + 1) g' (by omega) (by omega) h01' (fun q hq v v1 v2 => ?_) (fun q hq1 hq2 v v1 v2 => ?_) H))
        · by_cases eq : q = i
          · subst eq
            rw [p2 v v1 v2]
            exact ⟨fun k => absurd rfl k, fun k => by rw [k.1] at z; exact absurd z (by decide)⟩
          · rw [p1 _ (cr_far G h (by omega) eq v1 v2)]
            exact o1 q (by omega) v v1 v2
        · rw [p1 _ (cr_far G h hq2 (by omega) v1 v2)]
          exact o2 q (by omega) hq2 v v1 v2
    · exact br_t (nI_le h (by omega)) (nm_e (H g h01 (fun q hq v v1 v2 => o1 q (by omega) v v1 v2)))
/-- the leaves that can be entered, at X's state -/
def cr_xn (xP xN : Int32) (lv : Nat) (C : Nat → Prop) (aF iF : Nat → Int32) (p : Nat) : Prop := ((xP = 2 ∨ xN = 0) ∧ bt (iF 0) p = true) ∨ ∃ q, q < lv ∧ C q ∧ bt (aF q) p = true
theorem cx_ap {x : Nat} (hx8 : x < 8) (G : cr_lf lv ls tp bs aL aT aE aB) (h01 : cr_01 hx)
    (H : ∀ g', cr_01 g' → (∀ q, q < lv → ∀ v, 1 ≤ v → v ≤ tp q → (¬ g' (bs q + v - 1) = 0 ↔ cr_W aC aE hx tp bs (cr_xn xP xN lv (cr_C hx ls tp bs) aF iF) x q v)) → post (xL, xW, xP, xT, nI lv, xR, xN + 1, xH, aC, aL, aT, aE, aB, aF, iE, iF, iL, g')) :
    wpX_append post (xL, xW, xP, xT, nI lv, xR, xN, xH, aC, aL, aT, aE, aB, aF, iE, iF, iL, hx) (nI x) := by
  have g1 := G.1
  refine cx_en G (fun en he => ⟨lv + 1, cx_apl (hx := hx) hx8 G (lv + 1) 0 hx (by omega) (by omega) h01 (fun q hq => by omega) (fun q _ _ v _ _ => rfl) (fun g' h01' k => H g' h01' (fun q hq v v1 v2 => (k q hq v v1 v2).trans ?_))⟩)
  have := he q (by omega)
  unfold cr_W
  dsimp only
  rw [this]
  exact Iff.rfl
end CRS
end
section
section CRB
/-! X while building: what follows what, joins, wraps, a leaf -/
variable {xL xW xP xT xC xR xN xH : Int32} {aC aL aT aE aB aF iE iF iL hx : Nat → Int32} {lv h rm : Nat}
theorem cx_lfl {post : SX → Prop} {s t : Int32} (hl : lv ≤ 12) : ∀ n i f, lv - i < n → i ≤ lv → (∀ q, q < i → ∀ p, (bt (f q) p = true ↔ bt (aF q) p = true ∨ (bt s q = true ∧ bt t p = true))) → (∀ q, i ≤ q → f q = aF q) →
    (∀ f', (∀ q, q < lv → ∀ p, (bt (f' q) p = true ↔ bt (aF q) p = true ∨ (bt s q = true ∧ bt t p = true))) → post (xL, xW, xP, xT, nI lv, xR, xN, xH, aC, aL, aT, aE, aB, f', iE, iF, iL, hx)) → wX_letFollow_2 post s t xL xW xP xT (nI lv) xR xN xH n (nI i) aC aL aT aE aB f iE iF iL hx := by
  intro n
  induction n with
  | zero => intro i f h; omega
  | succ n ih =>
    intro i f hn hi o1 o2 H
    rcases Nat.lt_or_ge i lv with h | h
    · have cp : (nI i).toNatClampNeg = i := nI_clamp (by omega)
      have hin : vp_in (nI i) 12 := vp_in_nI (by omega) (by decide)
      refine br_f (nI_ge h (by omega)) (cx_con (by omega) (fun z => br_f cr_10 ⟨hin, hin, nm_r (e' := upd f i (f i ||| t)) (by rw [cp]) (nm_r (nI_1 i) (ih (i + 1) _ (by omega) (by omega) (fun q hq p => ?_) (fun q hq => ?_) H))⟩) (fun z => br_t rfl (nm_r (nI_1 i) (ih (i + 1) _ (by omega) (by omega) (fun q hq p => ?_) (fun q hq => ?_) H))))
      · by_cases e : q = i
        · subst e
          rw [pk_us, b_or, Bool.or_eq_true, o2 q (Nat.le_refl q)]
          exact ⟨fun k => k.elim Or.inl (fun k => Or.inr ⟨z, k⟩), fun k => k.elim Or.inl (fun k => Or.inr k.2)⟩
        · rw [pk_un e]; exact o1 q (by omega) p
      · rw [pk_un (by omega)]; exact o2 q (by omega)
      · by_cases e : q = i
        · subst e
          rw [o2 q (Nat.le_refl q)]
          exact ⟨Or.inl, fun k => k.elim id (fun k => by rw [z] at k; exact absurd k.1 (by decide))⟩
        · exact o1 q (by omega) p
      · exact o2 q (by omega)
    · exact br_t (nI_le h (by omega)) (H f (fun q hq p => o1 q (by omega) p))
theorem cx_lf {post : SX → Prop} {s t : Int32} (hl : lv ≤ 12) (H : ∀ f', (∀ q, q < lv → ∀ p, (bt (f' q) p = true ↔ bt (aF q) p = true ∨ (bt s q = true ∧ bt t p = true))) → post (xL, xW, xP, xT, nI lv, xR, xN, xH, aC, aL, aT, aE, aB, f', iE, iF, iL, hx)) :
    wpX_letFollow post (xL, xW, xP, xT, nI lv, xR, xN, xH, aC, aL, aT, aE, aB, aF, iE, iF, iL, hx) s t :=
  ⟨lv + 1, cx_lfl hl (lv + 1) 0 aF (by omega) (by omega) (fun q hq => by omega) (fun q _ => rfl) H⟩
/-- item l of the stack is a new one -/
def cr_it (l : Nat) (iE iF iL e' f' l' : Nat → Int32) (e : Prop) (f la : Nat → Prop) : Prop :=
  (∀ i, i ≠ l → e' i = iE i ∧ f' i = iF i ∧ l' i = iL i) ∧ (¬ e' l = 0 ↔ e) ∧ (∀ p, bt (f' l) p = true ↔ f p) ∧ (∀ p, bt (l' l) p = true ↔ la p)
theorem cr_bo {x y : Int32} {p : Nat} : bt (x ||| y) p = true ↔ bt x p = true ∨ bt y p = true := by rw [b_or, Bool.or_eq_true]
theorem cx_cat {post : SX → Prop} {l r : Nat} (hl : lv ≤ 12) (l12 : l < 12) (r12 : r < 12) (hn : l ≠ r)
    (H : ∀ f' e1 f1 l1, (∀ q, q < lv → ∀ p, (bt (f' q) p = true ↔ bt (aF q) p = true ∨ (bt (iL l) q = true ∧ bt (iF r) p = true))) →
      cr_it l iE iF iL e1 f1 l1 (¬ iE l = 0 ∧ ¬ iE r = 0) (fun p => bt (iF l) p = true ∨ (¬ iE l = 0 ∧ bt (iF r) p = true)) (fun p => bt (iL r) p = true ∨ (¬ iE r = 0 ∧ bt (iL l) p = true)) →
      post (xL, xW, xP, xT, nI lv, xR, xN, xH, aC, aL, aT, aE, aB, f', e1, f1, l1, hx)) : wpX_concatenate post (xL, xW, xP, xT, nI lv, xR, xN, xH, aC, aL, aT, aE, aB, aF, iE, iF, iL, hx) (nI l) (nI r) := by
  have cl : (nI l).toNatClampNeg = l := nI_clamp (by omega)
  have cr : (nI r).toNatClampNeg = r := nI_clamp (by omega)
  have il : vp_in (nI l) 12 := vp_in_nI l12 (by decide)
  have ir : vp_in (nI r) 12 := vp_in_nI r12 (by decide)
  refine ⟨il, ir, ?_⟩
  rw [cl, cr]
  refine cx_lf hl (fun f' hf => ?_)
  -- the end: empty
  have c79 : ∀ f1 l1, (∀ i, i ≠ l → f1 i = iF i ∧ l1 i = iL i) → (∀ p, bt (f1 l) p = true ↔ bt (iF l) p = true ∨ (¬ iE l = 0 ∧ bt (iF r) p = true)) → (∀ p, bt (l1 l) p = true ↔ bt (iL r) p = true ∨ (¬ iE r = 0 ∧ bt (iL l) p = true)) →
      wX_concatenate_79 post (nI l) (nI r) xL xW xP xT (nI lv) xR xN xH aC aL aT aE aB f' iE f1 l1 hx := by
    intro f1 l1 o1 o2 o3
    have fin : ∀ e : Int32, (¬ e = 0 ↔ ¬ iE l = 0 ∧ ¬ iE r = 0) → post (xL, xW, xP, xT, nI lv, xR, xN, xH, aC, aL, aT, aE, aB, f', upd iE l e, f1, l1, hx) := by
      intro e he
      refine H f' _ f1 l1 hf ⟨fun i hi => ⟨pk_un hi, o1 i hi⟩, ?_, o2, o3⟩
      rw [pk_us]; exact he
    refine ⟨il, ?_⟩
    by_cases z : iE l = 0
    · exact br_t (by rw [cl]; exact z) ⟨il, nm_r (cr_ub0 (by omega)) (fin 0 ⟨fun k => absurd rfl k, fun k => absurd z k.1⟩)⟩
    · refine br_f (by rw [cl]; exact z) ⟨ir, ?_⟩
      by_cases w : iE r = 0
      · exact br_t (by rw [cr]; exact w) ⟨il, nm_r (cr_ub0 (by omega)) (fin 0 ⟨fun k => absurd rfl k, fun k => absurd w k.2⟩)⟩
      · exact br_f (by rw [cr]; exact w) ⟨il, nm_r (cr_ub1 (by omega)) (fin 1 ⟨fun _ => ⟨z, w⟩, fun _ => cr_10⟩)⟩
  have c40 : ∀ f1, (∀ i, i ≠ l → f1 i = iF i) → (∀ p, bt (f1 l) p = true ↔ bt (iF l) p = true ∨ (¬ iE l = 0 ∧ bt (iF r) p = true)) → wX_concatenate_40 post (nI l) (nI r) xL xW xP xT (nI lv) xR xN xH aC aL aT aE aB f' iE f1 iL hx := by
    intro f1 o1 o2
    refine ⟨ir, ?_⟩
    by_cases w : iE r = 0
    · refine br_t (by rw [cr]; exact w) ⟨ir, il, nm_r (e' := upd iL l (iL r)) (by rw [cl, cr]) (c79 f1 _ (fun i hi => ⟨o1 i hi, pk_un hi⟩) o2 (fun p => ?_))⟩
      rw [pk_us]
      exact ⟨Or.inl, fun k => k.elim id (fun k => absurd w k.1)⟩
    · refine br_f (by rw [cr]; exact w) ⟨il, ir, il, nm_r (e' := upd iL l (iL l ||| iL r)) (by rw [cl, cr]) (c79 f1 _ (fun i hi => ⟨o1 i hi, pk_un hi⟩) o2 (fun p => ?_))⟩
      rw [pk_us, cr_bo]
      exact ⟨fun k => k.elim (fun k => Or.inr ⟨w, k⟩) Or.inl, fun k => k.elim Or.inr (fun k => Or.inl k.2)⟩
  refine ⟨il, ?_⟩
  by_cases z : iE l = 0
  · exact br_t z (c40 iF (fun i _ => rfl) (fun p => ⟨Or.inl, fun k => k.elim id (fun k => absurd z k.1)⟩))
  · refine br_f z ⟨il, ir, il, nm_r (e' := upd iF l (iF l ||| iF r)) rfl (c40 _ (fun i hi => pk_un hi) (fun p => ?_))⟩
    rw [pk_us, cr_bo]
    exact ⟨fun k => k.elim Or.inl (fun k => Or.inr ⟨z, k⟩), fun k => k.elim Or.inl (fun k => Or.inr k.2)⟩
theorem cx_alt {post : SX → Prop} (h12 : h + 2 ≤ 12)
    (H : ∀ e1 f1 l1, cr_it h iE iF iL e1 f1 l1 (¬ iE h = 0 ∨ ¬ iE (h + 1) = 0) (fun p => bt (iF h) p = true ∨ bt (iF (h + 1)) p = true) (fun p => bt (iL h) p = true ∨ bt (iL (h + 1)) p = true) →
      post (xL, xW, xP, nI (h + 1), xC, xR, xN, xH, aC, aL, aT, aE, aB, aF, e1, f1, l1, hx)) : wpX_joinUppermost post (xL, xW, xP, nI (h + 2), xC, xR, xN, xH, aC, aL, aT, aE, aB, aF, iE, iF, iL, hx) 2 := by
  have cl : (nI h).toNatClampNeg = h := nI_clamp (by omega)
  have cr : (nI (h + 1)).toNatClampNeg = h + 1 := nI_clamp (by omega)
  have il : vp_in (nI h) 12 := vp_in_nI (by omega) (by decide)
  have ir : vp_in (nI (h + 1)) 12 := vp_in_nI (by omega) (by decide)
  have c56 : ∀ e : Int32, (e = 0 ∨ e = 1) → (¬ e = 0 ↔ ¬ iE h = 0 ∨ ¬ iE (h + 1) = 0) → wX_joinUppermost_56 post (nI h) (nI (h + 1)) e (nI h) xL xW xP (nI (h + 2)) xC xR xN xH aC aL aT aE aB aF iE iF iL hx := by
    intro e he hee
    refine ⟨il, nm_r (cr_ub (by omega) he) ⟨il, ir, il, nm_r (e' := upd iF h (iF h ||| iF (h + 1))) (by rw [cl, cr]) ⟨il, ir, il, nm_r (e' := upd iL h (iL h ||| iL (h + 1))) (by rw [cl, cr]) (nm_r (e' := nI (h + 1)) (cr_s1' (by omega)) (H _ _ _ ⟨fun i hi => ⟨pk_un hi, pk_un hi, pk_un hi⟩, ?_, fun p => ?_, fun p => ?_⟩))⟩⟩⟩
    · rw [pk_us]; exact hee
    · rw [pk_us, cr_bo]
    · rw [pk_us, cr_bo]
  refine nm_r (e' := nI h) (pk_sub (a := h + 2) (b := 2) (by omega)) (nm_r (e' := nI (h + 1)) (cr_s1' (by omega)) (br_f (by decide) ⟨il, ?_⟩))
  by_cases z : iE h = 0
  · refine br_t (by rw [cl]; exact z) ⟨ir, ?_⟩
    by_cases w : iE (h + 1) = 0
    · exact br_t (by rw [cr]; exact w) (c56 0 (Or.inl rfl) ⟨fun k => absurd rfl k, fun k => k.elim (fun k => absurd z k) (fun k => absurd w k)⟩)
    · exact br_f (by rw [cr]; exact w) (c56 1 (Or.inr rfl) ⟨fun _ => Or.inr w, fun _ => cr_10⟩)
  · exact br_f (by rw [cl]; exact z) (c56 1 (Or.inr rfl) ⟨fun _ => Or.inl z, fun _ => cr_10⟩)
theorem cx_join1 {post : SX → Prop} (hl : lv ≤ 12) (h12 : h + 2 ≤ 12)
    (H : ∀ f' e1 f1 l1, (∀ q, q < lv → ∀ p, (bt (f' q) p = true ↔ bt (aF q) p = true ∨ (bt (iL h) q = true ∧ bt (iF (h + 1)) p = true))) →
      cr_it h iE iF iL e1 f1 l1 (¬ iE h = 0 ∧ ¬ iE (h + 1) = 0) (fun p => bt (iF h) p = true ∨ (¬ iE h = 0 ∧ bt (iF (h + 1)) p = true)) (fun p => bt (iL (h + 1)) p = true ∨ (¬ iE (h + 1) = 0 ∧ bt (iL h) p = true)) →
      post (xL, xW, xP, nI (h + 1), nI lv, xR, xN, xH, aC, aL, aT, aE, aB, f', e1, f1, l1, hx)) : wpX_joinUppermost post (xL, xW, xP, nI (h + 2), nI lv, xR, xN, xH, aC, aL, aT, aE, aB, aF, iE, iF, iL, hx) 1 :=
  nm_r (e' := nI h) (pk_sub (a := h + 2) (b := 2) (by omega)) (nm_r (e' := nI (h + 1)) (cr_s1' (by omega)) (br_t rfl
    (cx_cat hl (by omega) (by omega) (by omega) (fun f' e1 f1 l1 a b => nm_r (e' := nI (h + 1)) (cr_s1' (by omega)) (H f' e1 f1 l1 a b)))))
theorem cx_wrap {post : SX → Prop} {k : Nat} (hl : lv ≤ 12) (h12 : h + 1 ≤ 12) (k3 : 3 ≤ k) (k5 : k ≤ 5)
    (H : ∀ f' e1, (∀ q, q < lv → ∀ p, (bt (f' q) p = true ↔ bt (aF q) p = true ∨ ((k = 3 ∨ k = 4) ∧ bt (iL h) q = true ∧ bt (iF h) p = true))) →
      cr_it h iE iF iL e1 iF iL (k ≠ 4 ∨ ¬ iE h = 0) (fun p => bt (iF h) p = true) (fun p => bt (iL h) p = true) →
      post (xL, xW, xP, nI (h + 1), nI lv, nI rm, xN, xH, aC, aL, aT, aE, aB, f', e1, iF, iL, hx)) : wpX_wrapUppermost post (xL, xW, xP, nI (h + 1), nI lv, nI (rm + 1), xN, xH, aC, aL, aT, aE, aB, aF, iE, iF, iL, hx) (nI k) := by
  have cl : (nI h).toNatClampNeg = h := nI_clamp (by omega)
  have il : vp_in (nI h) 12 := vp_in_nI (by omega) (by decide)
  have c28 : ∀ f', (∀ q, q < lv → ∀ p, (bt (f' q) p = true ↔ bt (aF q) p = true ∨ ((k = 3 ∨ k = 4) ∧ bt (iL h) q = true ∧ bt (iF h) p = true))) → wX_wrapUppermost_28 post (nI k) (nI h) xL xW xP (nI (h + 1)) (nI lv) (nI (rm + 1)) xN xH aC aL aT aE aB f' iE iF iL hx := by
    intro f' hf
    refine pk_eq k 4 (fun z => nm_r (nI_pred rm) (H f' iE hf ⟨fun i _ => ⟨rfl, rfl, rfl⟩, ?_, fun p => Iff.rfl, fun p => Iff.rfl⟩)) (fun z => ⟨il, nm_r (cr_ub1 (by omega)) (nm_r (nI_pred rm) (H f' _ hf ⟨fun i hi => ⟨pk_un hi, rfl, rfl⟩, ?_, fun p => Iff.rfl, fun p => Iff.rfl⟩))⟩)
    · exact ⟨fun w => Or.inr w, fun w => w.elim (fun w => absurd z w) id⟩
    · rw [pk_us]
      exact ⟨fun _ => Or.inl z, fun _ => cr_10⟩
  refine nm_r (e' := nI h) (cr_s1' (by omega)) (pk_eq k 5 (fun z => c28 aF (fun q hq p => ?_)) (fun z => ⟨il, il, ?_⟩))
  · exact ⟨Or.inl, fun w => w.elim id (fun w => by omega)⟩
  · rw [cl]
    refine cx_lf hl (fun f' hf => c28 f' (fun q hq p => (hf q hq p).trans ?_))
    exact ⟨fun w => w.elim Or.inl (fun w => Or.inr ⟨by omega, w⟩), fun w => w.elim Or.inl (fun w => Or.inr w.2)⟩
/-! op -/
theorem cx_op1 {post : Int32 → SX → Prop} (hl : lv ≤ 12) (h12 : h + 2 ≤ 12)
    (H : ∀ f' e1 f1 l1, (∀ q, q < lv → ∀ p, (bt (f' q) p = true ↔ bt (aF q) p = true ∨ (bt (iL h) q = true ∧ bt (iF (h + 1)) p = true))) →
      cr_it h iE iF iL e1 f1 l1 (¬ iE h = 0 ∧ ¬ iE (h + 1) = 0) (fun p => bt (iF h) p = true ∨ (¬ iE h = 0 ∧ bt (iF (h + 1)) p = true)) (fun p => bt (iL (h + 1)) p = true ∨ (¬ iE (h + 1) = 0 ∧ bt (iL h) p = true)) →
      post (nI (h + 1)) (xL, xW, 0, nI (h + 1), nI lv, xR, xN, xH, aC, aL, aT, aE, aB, f', e1, f1, l1, hx)) : wpX_op post (xL, xW, 0, nI (h + 2), nI lv, xR, xN, xH, aC, aL, aT, aE, aB, aF, iE, iF, iL, hx) 1 :=
  br_t rfl (br_f (by decide) (br_t (by decide) (br_t rfl (br_f cr_10 (br_t (nI_le (a := 2) (by omega) (by omega)) (br_f cr_10 (br_f cr_10 (cx_join1 hl h12 H))))))))
theorem cx_op2 {post : Int32 → SX → Prop} (h12 : h + 2 ≤ 12)
    (H : ∀ e1 f1 l1, cr_it h iE iF iL e1 f1 l1 (¬ iE h = 0 ∨ ¬ iE (h + 1) = 0) (fun p => bt (iF h) p = true ∨ bt (iF (h + 1)) p = true) (fun p => bt (iL h) p = true ∨ bt (iL (h + 1)) p = true) →
      post (nI (h + 1)) (xL, xW, 0, nI (h + 1), xC, xR, xN, xH, aC, aL, aT, aE, aB, aF, e1, f1, l1, hx)) : wpX_op post (xL, xW, 0, nI (h + 2), xC, xR, xN, xH, aC, aL, aT, aE, aB, aF, iE, iF, iL, hx) 2 :=
  br_t rfl (br_f (by decide) (br_t (by decide) (br_f (by decide) (br_t rfl (br_f cr_10 (br_t (nI_le (a := 2) (by omega) (by omega)) (br_f cr_10 (br_f cr_10 (cx_alt h12 H)))))))))
theorem cx_op3 {post : Int32 → SX → Prop} {k : Nat} (hl : lv ≤ 12) (h12 : h + 1 ≤ 12) (k3 : 3 ≤ k) (k5 : k ≤ 5) (hr : rm < 1000)
    (H : ∀ f' e1, (∀ q, q < lv → ∀ p, (bt (f' q) p = true ↔ bt (aF q) p = true ∨ ((k = 3 ∨ k = 4) ∧ bt (iL h) q = true ∧ bt (iF h) p = true))) →
      cr_it h iE iF iL e1 iF iL (k ≠ 4 ∨ ¬ iE h = 0) (fun p => bt (iF h) p = true) (fun p => bt (iL h) p = true) →
      post (nI (h + 1)) (xL, xW, 0, nI (h + 1), nI lv, nI rm, xN, xH, aC, aL, aT, aE, aB, f', e1, iF, iL, hx)) : wpX_op post (xL, xW, 0, nI (h + 1), nI lv, nI (rm + 1), xN, xH, aC, aL, aT, aE, aB, aF, iE, iF, iL, hx) (nI k) :=
  br_t rfl (br_f (nI_nlt (b := 1) (by omega) (by omega)) (br_t (nI_le (b := 5) k5 (by decide)) (pk_eq k 1 (fun z => by omega) (fun _ => pk_eq k 2 (fun z => by omega) (fun _ => br_t rfl (br_t (nI_le (a := 1) (by omega) (by omega)) (br_t rfl (br_t (nI_le (a := 1) (by omega) (by omega)) (br_t rfl (cx_wrap hl h12 k3 k5 H))))))))))
end CRB
end
section
section CRF
/-! Y: one node on the way down, one on the way up -/
def cr_yt (lv h N : Nat) (K A B S ln ls : Nat → Nat) (lea lno sk ki lf rg : Nat → Int32) : Prop :=
  (∀ n, n < N → ki n = nI (K n) ∧ lf n = nI (A n) ∧ rg n = nI (B n)) ∧ (∀ i, i < h → sk i = nI (S i)) ∧ (∀ p, p < lv → lno p = nI (ln p) ∧ lea p = nI (ls p))
/-- leaf q can be left, at Y's state -/
def cr_cy (lv : Nat) (hy : Nat → Int32) (ls : Nat → Nat) (q : Nat) : Prop := q < lv ∧ ∃ v, 1 ≤ v ∧ v < 225 ∧ ls q ≤ v ∧ ¬ hy (q * 225 + v) = 0
def cr_G (st : Prop) (top N c0 : Nat) (K A B : Nat → Nat) (E : Nat → Prop) (F L : Nat → Nat → Prop) (C : Nat → Prop) (be dn : Nat → Int32) (yX : Int32) : Prop :=
  cr_inv st top N K A B E F L C be dn ∧ cr_01 be ∧ cr_01 dn ∧ c0 + (if yX = 0 then 0 else 1) ≤ cr_ct be N + cr_ct dn N
theorem cr_id {a : Nat → Int32} {c : Nat} (h : cr_01 a) (z : ¬ a c = 0) : upd a c 1 = a := by
  funext j
  by_cases e : j = c
  · subst e
    rw [pk_us]
    exact ((h j).elim (fun k => absurd k z) Eq.symm)
  · exact pk_un e
theorem cr_ix (p v : Nat) : nI p * 225 + nI v = nI (p * 225 + v) := (congrArg (· + nI v) (pk_mul p 225)).trans (nI_add _ _)
variable {yM yC yP yT yL yN yR yG yH yX : Int32} {ma lea mo lno sk ki lf rg hy nx be dn : Nat → Int32}
variable {st : Prop} {lv h N top c0 t n : Nat} {K A B S ln ls par : Nat → Nat} {E : Nat → Prop} {F L : Nat → Nat → Prop} {C : Nat → Prop} {post : SY → Prop}
theorem cy_ent {c : Nat} (hc : c < N) (hN : N ≤ 260) (Hg : cr_G st top N c0 K A B E F L C be dn yX) (Hi : cr_inv st top N K A B E F L C (upd be c 1) dn)
    (hp : ∀ be' yX', cr_G st top N c0 K A B E F L C be' dn yX' → ¬ be' c = 0 → (yX' = 0 → be' = be ∧ yX = 0) → (∀ j, ¬ be j = 0 → ¬ be' j = 0) → post (yM, yC, yP, yT, yL, yN, yR, yG, yH, yX', ma, lea, mo, lno, sk, ki, lf, rg, hy, nx, be', dn)) : wpY_enter post (yM, yC, yP, yT, yL, yN, yR, yG, yH, yX, ma, lea, mo, lno, sk, ki, lf, rg, hy, nx, be, dn) (nI c) := by
  obtain ⟨g1, g2, g3, g4⟩ := Hg
  have hi : vp_in (nI c) 260 := vp_in_nI (by omega) (by decide)
  have cp : (nI c).toNatClampNeg = c := nI_clamp (by omega)
  refine ⟨hi, ?_⟩
  by_cases z : be c = 0
  · refine br_t (by rw [cp]; exact z) ⟨hi, nm_r (cr_ub1 (by omega)) (hp (upd be c 1) 1 ⟨Hi, cr_01u g2 (Or.inr rfl), g3, ?_⟩ (by rw [pk_us]; exact cr_10) (fun k => absurd k cr_10) (fun j hj => cr_mono hj))⟩
    rw [if_neg cr_10, cr_ct_up z N hc]
    have := Nat.le_trans (Nat.le_add_right _ _) g4
    omega
  · exact br_f (by rw [cp]; exact z) ⟨hi, nm_r (e' := be) ((cr_ub1 (by omega)).trans (cr_id g2 z)) (hp be yX ⟨g1, g2, g3, g4⟩ z (fun k => ⟨rfl, k⟩) (fun _ k => k))⟩
theorem cy_d89 (T : cr_tr lv h N K A B S ln ls par E F L) (Q : cr_yt lv h N K A B S ln ls lea lno sk ki lf rg) (hN : N ≤ 260) (ht : par top = 1000 + t) (hn : n < N) (Hg : cr_G st top N c0 K A B E F L C be dn yX)
    (hp : ∀ be' yX', cr_G st top N c0 K A B E F L C be' dn yX' → (yX' = 0 → be' = be ∧ yX = 0 ∧ (K n = 1 → ¬ dn (A n) = 0 → ¬ be (B n) = 0)) → post (yM, yC, yP, yT, yL, yN, yR, yG, yH, yX', ma, lea, mo, lno, sk, ki, lf, rg, hy, nx, be', dn)) : wY_down_89 post (nI n) (nI (K n)) yM yC yP yT yL yN yR yG yH yX ma lea mo lno sk ki lf rg hy nx be dn := by
  have nd := T.1 n hn
  have k5 := cr_k5 nd
  obtain ⟨eK, eA, eB⟩ := Q.1 n hn
  have hi : vp_in (nI n) 260 := vp_in_nI (by omega) (by decide)
  have cp : (nI n).toNatClampNeg = n := nI_clamp (by omega)
  refine pk_eq (K n) 1 (fun k1 => ?_) (fun k1 => hp be yX Hg (fun z => ⟨rfl, z, fun k => absurd k k1⟩))
  have hA := (cr_ndA nd (by omega)).1
  have hB := (cr_ndB nd (Or.inl k1)).1
  have cA : (nI (A n)).toNatClampNeg = A n := nI_clamp (by omega)
  refine ⟨hi, (by rw [cp, eA]; exact vp_in_nI (by omega) (by decide)), ?_⟩
  by_cases z : dn (A n) = 0
  · exact br_t (by rw [cp, eA, cA]; exact z) (hp be yX Hg (fun w => ⟨rfl, w, fun _ k => absurd z k⟩))
  · refine br_f (by rw [cp, eA, cA]; exact z) ⟨hi, ?_⟩
    rw [cp, eB]
    exact cy_ent (by omega) hN Hg (cr_entB1 T (by omega) ht hn k1 Hg.1 z) (fun be' yX' G' b1 b2 _ => hp be' yX' G' (fun w => ⟨(b2 w).1, (b2 w).2, fun _ _ => by rw [← (b2 w).1]; exact b1⟩))
theorem cy_d65 (T : cr_tr lv h N K A B S ln ls par E F L) (Q : cr_yt lv h N K A B S ln ls lea lno sk ki lf rg) (hN : N ≤ 260) (ht : par top = 1000 + t) (hn : n < N) (Hg : cr_G st top N c0 K A B E F L C be dn yX)
    (hp : ∀ be' yX', cr_G st top N c0 K A B E F L C be' dn yX' → (yX' = 0 → be' = be ∧ yX = 0 ∧ (K n = 1 → ¬ dn (A n) = 0 → ¬ be (B n) = 0) ∧ (K n = 2 → ¬ be n = 0 → ¬ be (B n) = 0)) → post (yM, yC, yP, yT, yL, yN, yR, yG, yH, yX', ma, lea, mo, lno, sk, ki, lf, rg, hy, nx, be', dn)) : wY_down_65 post (nI n) (nI (K n)) yM yC yP yT yL yN yR yG yH yX ma lea mo lno sk ki lf rg hy nx be dn := by
  have nd := T.1 n hn
  have k5 := cr_k5 nd
  obtain ⟨eK, eA, eB⟩ := Q.1 n hn
  have hi : vp_in (nI n) 260 := vp_in_nI (by omega) (by decide)
  have cp : (nI n).toNatClampNeg = n := nI_clamp (by omega)
  refine pk_eq (K n) 2 (fun k2 => ⟨hi, ?_⟩) (fun k2 => cy_d89 T Q hN ht hn Hg (fun be' yX' G' k => hp be' yX' G' (fun w => ⟨(k w).1, (k w).2.1, (k w).2.2, fun z => absurd z k2⟩)))
  have hB := (cr_ndB nd (Or.inr k2)).1
  by_cases z : be n = 0
  · exact br_t (by rw [cp]; exact z) (cy_d89 T Q hN ht hn Hg (fun be' yX' G' k => hp be' yX' G' (fun w => ⟨(k w).1, (k w).2.1, (k w).2.2, fun _ y => absurd z y⟩)))
  · refine br_f (by rw [cp]; exact z) ⟨hi, ?_⟩
    rw [cp, eB]
    refine cy_ent (by omega) hN Hg (cr_entB2 T (by omega) ht hn k2 Hg.1 z) (fun be' yX' G' b1 b2 _ => cy_d89 T Q hN ht hn G' (fun be'' yX'' G'' k => hp be'' yX'' G'' (fun w => ?_)))
    obtain ⟨k1, k2', k3⟩ := k w
    obtain ⟨m1, m2⟩ := b2 k2'
    subst m1
    exact ⟨k1, m2, k3, fun _ _ => b1⟩
theorem cy_d55 (T : cr_tr lv h N K A B S ln ls par E F L) (Q : cr_yt lv h N K A B S ln ls lea lno sk ki lf rg) (hN : N ≤ 260) (ht : par top = 1000 + t) (hn : n < N) (Hg : cr_G st top N c0 K A B E F L C be dn yX)
    (hk : K n ≠ 0) (hj : ¬ be n = 0 ∨ ((K n = 3 ∨ K n = 4) ∧ ¬ dn (A n) = 0))
    (hp : ∀ be' yX', cr_G st top N c0 K A B E F L C be' dn yX' → (yX' = 0 → be' = be ∧ yX = 0 ∧ cr_dc K A B be dn n) → post (yM, yC, yP, yT, yL, yN, yR, yG, yH, yX', ma, lea, mo, lno, sk, ki, lf, rg, hy, nx, be', dn)) : wY_down_55 post (nI n) (nI (K n)) yM yC yP yT yL yN yR yG yH yX ma lea mo lno sk ki lf rg hy nx be dn := by
  have nd := T.1 n hn
  obtain ⟨eK, eA, eB⟩ := Q.1 n hn
  have hi : vp_in (nI n) 260 := vp_in_nI (by omega) (by decide)
  have cp : (nI n).toNatClampNeg = n := nI_clamp (by omega)
  have hA := (cr_ndA nd hk).1
  refine ⟨hi, ?_⟩
  rw [cp, eA]
  refine cy_ent (by omega) hN Hg (cr_entA T (by omega) ht hn hk Hg.1 hj) (fun be' yX' G' b1 b2 _ => cy_d65 T Q hN ht hn G' (fun be'' yX'' G'' k => hp be'' yX'' G'' (fun w => ?_)))
  obtain ⟨k1, k2', k3, k4⟩ := k w
  obtain ⟨m1, m2⟩ := b2 k2'
  subst m1
  exact ⟨k1, m2, fun _ _ => b1, fun _ _ => b1, k4, k3⟩
theorem cy_d41 {z : Int32} (T : cr_tr lv h N K A B S ln ls par E F L) (Q : cr_yt lv h N K A B S ln ls lea lno sk ki lf rg) (hN : N ≤ 260) (ht : par top = 1000 + t) (hn : n < N) (Hg : cr_G st top N c0 K A B E F L C be dn yX)
    (hk : K n ≠ 0) (hz : ¬ z = 0 ↔ ((K n = 3 ∨ K n = 4) ∧ ¬ dn (A n) = 0))
    (hp : ∀ be' yX', cr_G st top N c0 K A B E F L C be' dn yX' → (yX' = 0 → be' = be ∧ yX = 0 ∧ cr_dc K A B be dn n) → post (yM, yC, yP, yT, yL, yN, yR, yG, yH, yX', ma, lea, mo, lno, sk, ki, lf, rg, hy, nx, be', dn)) : wY_down_41 post (nI n) (nI (K n)) z yM yC yP yT yL yN yR yG yH yX ma lea mo lno sk ki lf rg hy nx be dn := by
  have hi : vp_in (nI n) 260 := vp_in_nI (by omega) (by decide)
  have cp : (nI n).toNatClampNeg = n := nI_clamp (by omega)
  refine ⟨hi, ?_⟩
  by_cases b : be n = 0
  · refine br_t (by rw [cp]; exact b) ?_
    by_cases e : z = 0
    · refine br_t e (cy_d65 T Q hN ht hn Hg (fun be' yX' G' k => hp be' yX' G' (fun w => ⟨(k w).1, (k w).2.1, fun _ y => absurd b y, fun y y2 => absurd (hz.mpr ⟨y, y2⟩) (fun q => q e), (k w).2.2.2, (k w).2.2.1⟩)))
    · exact br_f e (cy_d55 T Q hN ht hn Hg hk (Or.inr (hz.mp e)) hp)
  · exact br_f (by rw [cp]; exact b) (cy_d55 T Q hN ht hn Hg hk (Or.inl b) hp)
theorem cy_down (T : cr_tr lv h N K A B S ln ls par E F L) (Q : cr_yt lv h N K A B S ln ls lea lno sk ki lf rg) (hN : N ≤ 260) (ht : par top = 1000 + t) (hn : n < N) (Hg : cr_G st top N c0 K A B E F L C be dn yX)
    (hp : ∀ be' yX', cr_G st top N c0 K A B E F L C be' dn yX' → (yX' = 0 → be' = be ∧ yX = 0 ∧ cr_dc K A B be dn n) → post (yM, yC, yP, yT, yL, yN, yR, yG, yH, yX', ma, lea, mo, lno, sk, ki, lf, rg, hy, nx, be', dn)) : wpY_down post (yM, yC, yP, yT, yL, yN, yR, yG, yH, yX, ma, lea, mo, lno, sk, ki, lf, rg, hy, nx, be, dn) (nI n) := by
  have nd := T.1 n hn
  have k5 := cr_k5 nd
  obtain ⟨eK, eA, eB⟩ := Q.1 n hn
  have hi : vp_in (nI n) 260 := vp_in_nI (by omega) (by decide)
  have cp : (nI n).toNatClampNeg = n := nI_clamp (by omega)
  refine ⟨hi, nm_r (e' := nI (K n)) (by rw [cp, eK]) (pk_eq (K n) 0 (fun k0 => hp be yX Hg (fun w => ⟨rfl, w, fun k => absurd k0 k, fun k => by omega, fun k => by omega, fun k => by omega⟩)) (fun k0 => ?_))⟩
  have hA := (cr_ndA nd k0).1
  have cA : (nI (A n)).toNatClampNeg = A n := nI_clamp (by omega)
  have d22 : K n = 3 ∨ K n = 4 → wY_down_22 post (nI n) (nI (K n)) yM yC yP yT yL yN yR yG yH yX ma lea mo lno sk ki lf rg hy nx be dn := by
    intro k
    refine ⟨hi, (by rw [cp, eA]; exact vp_in_nI (by omega) (by decide)), ?_⟩
    by_cases z : dn (A n) = 0
    · exact br_t (by rw [cp, eA, cA]; exact z) (cy_d41 T Q hN ht hn Hg k0 ⟨fun w => absurd rfl w, fun w => absurd z w.2⟩ hp)
    · exact br_f (by rw [cp, eA, cA]; exact z) (cy_d41 T Q hN ht hn Hg k0 ⟨fun _ => ⟨k, z⟩, fun _ => cr_10⟩ hp)
  exact pk_eq (K n) 3 (fun k => d22 (Or.inl k)) (fun k3 => pk_eq (K n) 4 (fun k => d22 (Or.inr k)) (fun k4 => cy_d41 T Q hN ht hn Hg k0 ⟨fun w => absurd rfl w, fun w => by omega⟩ hp))
/-! up -/
theorem cr_ueuc (H : cr_ue K A B ls C be dn n → ¬ dn n = 0) : cr_uc K A B ls C be dn n :=
  ⟨fun k b l => H (Or.inl ⟨k, Or.inl ⟨b, l⟩⟩), fun k c => H (Or.inl ⟨k, Or.inr c⟩), fun k d => H (Or.inr (Or.inl ⟨k, d⟩)), fun k d => H (Or.inr (Or.inr (Or.inl ⟨k, d⟩))),
   fun k d => H (Or.inr (Or.inr (Or.inr (Or.inl ⟨k, d⟩)))), fun k d => H (Or.inr (Or.inr (Or.inr (Or.inr ⟨k, d⟩))))⟩
theorem cy_u208 {x3 : Int32} (T : cr_tr lv h N K A B S ln ls par E F L) (hN : N ≤ 260) (hn : n < N) (Hg : cr_G st top N c0 K A B E F L C be dn yX) (h3 : ¬ x3 = 0 ↔ cr_ue K A B ls C be dn n)
    (hp : ∀ dn' yX', cr_G st top N c0 K A B E F L C be dn' yX' → (yX' = 0 → dn' = dn ∧ yX = 0 ∧ cr_uc K A B ls C be dn n) → post (yM, yC, yP, yT, yL, yN, yR, yG, yH, yX', ma, lea, mo, lno, sk, ki, lf, rg, hy, nx, be, dn')) : wY_up_208 post (nI n) x3 yM yC yP yT yL yN yR yG yH yX ma lea mo lno sk ki lf rg hy nx be dn := by
  have hi : vp_in (nI n) 260 := vp_in_nI (by omega) (by decide)
  have cp : (nI n).toNatClampNeg = n := nI_clamp (by omega)
  by_cases z : x3 = 0
  · exact br_t z (br_t z (hp dn yX Hg (fun w => ⟨rfl, w, cr_ueuc (fun u => absurd z (h3.mpr u))⟩)))
  · have u := h3.mp z
    refine br_f z ⟨hi, ?_⟩
    have Hi := cr_upd T hn Hg.1 u
    obtain ⟨g1, g2, g3, g4⟩ := Hg
    by_cases d : dn n = 0
    · refine br_t (by rw [cp]; exact d) (br_f z ⟨hi, nm_r (cr_ub1 (by omega)) (hp (upd dn n 1) 1 ⟨Hi, g2, cr_01u g3 (Or.inr rfl), ?_⟩ (fun k => absurd k cr_10))⟩)
      rw [if_neg cr_10, cr_ct_up d N hn]
      have := Nat.le_trans (Nat.le_add_right _ _) g4
      omega
    · exact br_f (by rw [cp]; exact d) (br_f z ⟨hi, nm_r (e' := dn) ((cr_ub1 (by omega)).trans (cr_id g3 d)) (hp dn yX ⟨g1, g2, g3, g4⟩ (fun w => ⟨rfl, w, cr_ueuc (fun _ => d)⟩))⟩)
theorem cy_u49 {p : Nat} {e0 : Prop} (Q : cr_yt lv h N K A B S ln ls lea lno sk ki lf rg) (hl : lv ≤ 12) (hp : p < lv) (hs : ls p ≤ 224) : ∀ m v x3, 225 - v < m → 1 ≤ v → v ≤ 225 →
    (¬ x3 = 0 ↔ e0 ∨ ∃ w, 1 ≤ w ∧ w < v ∧ ls p ≤ w ∧ ¬ hy (p * 225 + w) = 0) → (∀ x3', (¬ x3' = 0 ↔ e0 ∨ ∃ w, 1 ≤ w ∧ w < 225 ∧ ls p ≤ w ∧ ¬ hy (p * 225 + w) = 0) → wY_up_208 post (nI n) x3' yM yC yP yT yL yN yR yG yH yX ma lea mo lno sk ki lf rg hy nx be dn) →
    wY_up_49 post (nI n) (nI p) yM yC yP yT yL yN yR yG yH yX ma lea mo lno sk ki lf rg hy nx be dn m x3 (nI v) := by
  have eL := (Q.2.2 p hp).2
  have cp : (nI p).toNatClampNeg = p := nI_clamp (by omega)
  intro m
  induction m with
  | zero => intro v x3 h; omega
  | succ m ih =>
    intro v x3 hm v1 v2 h3 H
    rcases Nat.lt_or_ge v 225 with h | h
    · have e := cr_ix p v
      have ce : (nI (p * 225 + v)).toNatClampNeg = p * 225 + v := nI_clamp (by omega)
      refine br_f (nI_ge (b := 225) h (by decide)) ⟨(by rw [e]; exact vp_in_nI (by omega) (by decide)), ?_⟩
      by_cases z : hy (p * 225 + v) = 0
      · refine br_t (by rw [e, ce]; exact z) (nm_r (nI_1 v) (ih (v + 1) x3 (by omega) (by omega) (by omega) (h3.trans ?_) H))
        constructor
        · rintro (k | ⟨w, w1, w2, w3⟩)
          · exact Or.inl k
          · exact Or.inr ⟨w, w1, by omega, w3⟩
        · rintro (k | ⟨w, w1, w2, w3, w4⟩)
          · exact Or.inl k
          · by_cases ew : w = v
            · subst ew; exact absurd z w4
            · exact Or.inr ⟨w, w1, by omega, w3, w4⟩
      · refine br_f (by rw [e, ce]; exact z) ⟨vp_in_nI (by omega) (by decide), ?_⟩
        by_cases l : v < ls p
        · refine br_t (by rw [cp, eL]; exact nI_lt l (by omega)) (nm_r (nI_1 v) (ih (v + 1) x3 (by omega) (by omega) (by omega) (h3.trans ?_) H))
          constructor
          · rintro (k | ⟨w, w1, w2, w3⟩)
            · exact Or.inl k
            · exact Or.inr ⟨w, w1, by omega, w3⟩
          · rintro (k | ⟨w, w1, w2, w3, w4⟩)
            · exact Or.inl k
            · exact Or.inr ⟨w, w1, by omega, w3, w4⟩
        · exact br_f (by rw [cp, eL]; exact nI_nlt (by omega) (by omega)) (nm_r (nI_1 v) (ih (v + 1) 1 (by omega) (by omega) (by omega) ⟨fun _ => Or.inr ⟨v, v1, by omega, by omega, z⟩, fun _ => cr_10⟩ H))
    · have e : v = 225 := by omega
      subst e
      exact br_t (nI_le (a := 225) (Nat.le_refl _) (by decide)) (H x3 h3)
theorem cy_up (T : cr_tr lv h N K A B S ln ls par E F L) (Q : cr_yt lv h N K A B S ln ls lea lno sk ki lf rg) (hN : N ≤ 260) (hl : lv ≤ 12) (hs : ∀ p, p < lv → ls p ≤ 224) (hn : n < N)
    (Hg : cr_G st top N c0 K A B E F L (cr_cy lv hy ls) be dn yX)
    (hp : ∀ dn' yX', cr_G st top N c0 K A B E F L (cr_cy lv hy ls) be dn' yX' → (yX' = 0 → dn' = dn ∧ yX = 0 ∧ cr_uc K A B ls (cr_cy lv hy ls) be dn n) → post (yM, yC, yP, yT, yL, yN, yR, yG, yH, yX', ma, lea, mo, lno, sk, ki, lf, rg, hy, nx, be, dn')) : wpY_up post (yM, yC, yP, yT, yL, yN, yR, yG, yH, yX, ma, lea, mo, lno, sk, ki, lf, rg, hy, nx, be, dn) (nI n) := by
  have nd := T.1 n hn
  have k5 := cr_k5 nd
  obtain ⟨eK, eA, eB⟩ := Q.1 n hn
  have hi : vp_in (nI n) 260 := vp_in_nI (by omega) (by decide)
  have cp : (nI n).toNatClampNeg = n := nI_clamp (by omega)
  have u208 : ∀ x3, (¬ x3 = 0 ↔ cr_ue K A B ls (cr_cy lv hy ls) be dn n) → wY_up_208 post (nI n) x3 yM yC yP yT yL yN yR yG yH yX ma lea mo lno sk ki lf rg hy nx be dn := fun x3 h3 => cy_u208 T hN hn Hg h3 hp
  refine ⟨hi, nm_r (e' := nI (K n)) (by rw [cp, eK]) (pk_eq (K n) 0 (fun k0 => ?_) (fun k0 => ?_))⟩
  · obtain ⟨a1, a2, aE, aF, aL⟩ := cr_nd0 nd k0
    have cA : (nI (A n)).toNatClampNeg = A n := nI_clamp (by omega)
    have eL := (Q.2.2 (A n) a1).2
    have loop : ∀ x3, (¬ x3 = 0 ↔ ¬ be n = 0 ∧ ls (A n) = 0) → ∃ n49 : Nat, wY_up_49 post (nI n) (nI (A n)) yM yC yP yT yL yN yR yG yH yX ma lea mo lno sk ki lf rg hy nx be dn n49 x3 1 := by
      intro x3 h3
      refine ⟨226, cy_u49 (e0 := ¬ be n = 0 ∧ ls (A n) = 0) Q hl a1 (hs _ a1) 226 1 x3 (by omega) (by omega) (by omega) (h3.trans ⟨Or.inl, fun k => k.elim id (fun ⟨w, w1, w2, _⟩ => by omega)⟩) (fun x3' h3' => u208 x3' (h3'.trans ?_))⟩
      constructor
      · rintro (k | k)
        · exact Or.inl ⟨k0, Or.inl k⟩
        · exact Or.inl ⟨k0, Or.inr ⟨a1, k⟩⟩
      · rintro (⟨_, k⟩ | ⟨k, _⟩ | ⟨k, _⟩ | ⟨k, _⟩ | ⟨k, _⟩)
        · exact k.elim Or.inl (fun k => Or.inr k.2)
        · omega
        · omega
        · omega
        · omega
    refine ⟨hi, nm_r (e' := nI (A n)) (by rw [cp, eA]) ⟨hi, ?_⟩⟩
    by_cases b : be n = 0
    · exact br_t (by rw [cp]; exact b) (loop 0 ⟨fun k => absurd rfl k, fun k => absurd b k.1⟩)
    · refine br_f (by rw [cp]; exact b) ⟨vp_in_nI (by omega) (by decide), ?_⟩
      by_cases l : ls (A n) = 0
      · exact br_t (by rw [cA, eL, l]; rfl) (loop 1 ⟨fun _ => ⟨b, l⟩, fun _ => cr_10⟩)
      · have := hs _ a1
        exact br_f (by rw [cA, eL]; exact nI_ne0 (by omega) (by omega)) (loop 0 ⟨fun k => absurd rfl k, fun k => absurd k.2 l⟩)
  · have hA := (cr_ndA nd k0).1
    have cA : (nI (A n)).toNatClampNeg = A n := nI_clamp (by omega)
    have iA : vp_in (lf (nI n).toNatClampNeg) 260 := by rw [cp, eA]; exact vp_in_nI (by omega) (by decide)
    refine pk_eq (K n) 1 (fun k1 => ?_) (fun k1 => pk_eq (K n) 2 (fun k2 => ?_) (fun k2 => pk_eq (K n) 4 (fun k4 => ?_) (fun k4 => ?_)))
    · have hB := (cr_ndB nd (Or.inl k1)).1
      have cB : (nI (B n)).toNatClampNeg = B n := nI_clamp (by omega)
      have iB : vp_in (rg (nI n).toNatClampNeg) 260 := by rw [cp, eB]; exact vp_in_nI (by omega) (by decide)
      refine ⟨hi, iB, nm_r (e' := dn (B n)) (by rw [cp, eB, cB]) (u208 _ ⟨fun k => Or.inr (Or.inl ⟨k1, k⟩), ?_⟩)⟩
      rintro (⟨k, _⟩ | ⟨_, k⟩ | ⟨k, _⟩ | ⟨k, _⟩ | ⟨k, _⟩)
      · omega
      · exact k
      · omega
      · omega
      · omega
    · have hB := (cr_ndB nd (Or.inr k2)).1
      have cB : (nI (B n)).toNatClampNeg = B n := nI_clamp (by omega)
      have iB : vp_in (rg (nI n).toNatClampNeg) 260 := by rw [cp, eB]; exact vp_in_nI (by omega) (by decide)
      have back : cr_ue K A B ls (cr_cy lv hy ls) be dn n → ¬ dn (A n) = 0 ∨ ¬ dn (B n) = 0 := by
        rintro (⟨k, _⟩ | ⟨k, _⟩ | ⟨_, k⟩ | ⟨k, _⟩ | ⟨k, _⟩)
        · omega
        · omega
        · exact k
        · omega
        · omega
      refine ⟨hi, iA, ?_⟩
      by_cases dA : dn (A n) = 0
      · refine br_t (by rw [cp, eA, cA]; exact dA) ⟨hi, iB, ?_⟩
        by_cases dB : dn (B n) = 0
        · exact br_t (by rw [cp, eB, cB]; exact dB) (u208 0 ⟨fun k => absurd rfl k, fun k => (back k).elim (fun q => absurd dA q) (fun q => absurd dB q)⟩)
        · exact br_f (by rw [cp, eB, cB]; exact dB) (u208 1 ⟨fun _ => Or.inr (Or.inr (Or.inl ⟨k2, Or.inr dB⟩)), fun _ => cr_10⟩)
      · exact br_f (by rw [cp, eA, cA]; exact dA) (u208 1 ⟨fun _ => Or.inr (Or.inr (Or.inl ⟨k2, Or.inl dA⟩)), fun _ => cr_10⟩)
    · refine ⟨hi, iA, nm_r (e' := dn (A n)) (by rw [cp, eA, cA]) (u208 _ ⟨fun k => Or.inr (Or.inr (Or.inr (Or.inl ⟨k4, k⟩))), ?_⟩)⟩
      rintro (⟨k, _⟩ | ⟨k, _⟩ | ⟨k, _⟩ | ⟨_, k⟩ | ⟨k, _⟩)
      · omega
      · omega
      · omega
      · exact k
      · omega
    · have k35 : K n = 3 ∨ K n = 5 := by omega
      have back : cr_ue K A B ls (cr_cy lv hy ls) be dn n → ¬ be n = 0 ∨ ¬ dn (A n) = 0 := by
        rintro (⟨k, _⟩ | ⟨k, _⟩ | ⟨k, _⟩ | ⟨k, _⟩ | ⟨_, k⟩)
        · omega
        · omega
        · omega
        · omega
        · exact k
      refine ⟨hi, ?_⟩
      by_cases b : be n = 0
      · refine br_t (by rw [cp]; exact b) ⟨hi, iA, ?_⟩
        by_cases dA : dn (A n) = 0
        · exact br_t (by rw [cp, eA, cA]; exact dA) (u208 0 ⟨fun k => absurd rfl k, fun k => (back k).elim (fun q => absurd b q) (fun q => absurd dA q)⟩)
        · exact br_f (by rw [cp, eA, cA]; exact dA) (u208 1 ⟨fun _ => Or.inr (Or.inr (Or.inr (Or.inr ⟨k35, Or.inr dA⟩))), fun _ => cr_10⟩)
      · exact br_f (by rw [cp]; exact b) (u208 1 ⟨fun _ => Or.inr (Or.inr (Or.inr (Or.inr ⟨k35, Or.inl b⟩))), fun _ => cr_10⟩)
end CRF
end
section
section CRD
/-! Y: spread -/
variable {yM yC yP yT yL yN yR yG yH yX : Int32} {ma lea mo lno sk ki lf rg hy nx be dn : Nat → Int32}
variable {st : Prop} {lv h N top c0 t n : Nat} {K A B S ln ls par : Nat → Nat} {E : Nat → Prop} {F L : Nat → Nat → Prop} {C : Nat → Prop} {post : SY → Prop}
abbrev cr_TJ : Type := Int32 → Int32 → Int32 → Int32 → Int32 → Int32 → Int32 → Int32 → Int32 → Int32 → Int32 → (Nat → Int32) → (Nat → Int32) → (Nat → Int32) → (Nat → Int32) → (Nat → Int32) → (Nat → Int32) → (Nat → Int32) → (Nat → Int32) → (Nat → Int32) → (Nat → Int32) → (Nat → Int32) → (Nat → Int32) → Prop
theorem cy_116 {J : cr_TJ} {x1 : Int32} (T : cr_tr lv h N K A B S ln ls par E F L) (Q : cr_yt lv h N K A B S ln ls lea lno sk ki lf rg) (hN : N ≤ 260) (hl : lv ≤ 12) (hs : ∀ p, p < lv → ls p ≤ 224) :
    ∀ m i dn yX, N - i < m → i ≤ N → cr_G st top N c0 K A B E F L (cr_cy lv hy ls) be dn yX → (yX = 0 → (∀ j, j < N → cr_dc K A B be dn j) ∧ ∀ j, j < i → cr_uc K A B ls (cr_cy lv hy ls) be dn j) →
    (∀ dn' yX', cr_G st top N c0 K A B E F L (cr_cy lv hy ls) be dn' yX' → (yX' = 0 → (∀ j, j < N → cr_dc K A B be dn' j) ∧ ∀ j, j < N → cr_uc K A B ls (cr_cy lv hy ls) be dn' j) → J (x1 + 1) yM yC yP yT yL (nI N) yR yG yH yX' ma lea mo lno sk ki lf rg hy nx be dn') →
    wY_spread_116 post J x1 m (nI i) yM yC yP yT yL (nI N) yR yG yH yX ma lea mo lno sk ki lf rg hy nx be dn := by
  intro m
  induction m with
  | zero => intro i dn yX h; omega
  | succ m ih =>
    intro i dn yX hm hi Hg Hc H
    rcases Nat.lt_or_ge i N with hlt | hge
    · refine br_f (nI_ge hlt (by omega)) (cy_up T Q hN hl hs hlt Hg (fun dn' yX' G' k => nm_r (nI_1 i) (ih (i + 1) dn' yX' (by omega) (by omega) G' (fun w => ?_) H)))
      obtain ⟨k1, k2, k3⟩ := k w
      subst k1
      refine ⟨(Hc k2).1, fun j hj => ?_⟩
      by_cases e : j = i
      · subst e; exact k3
      · exact (Hc k2).2 j (by omega)
    · exact br_t (nI_le hge (by omega)) (nm_e (H dn yX Hg (fun w => ⟨(Hc w).1, fun j hj => (Hc w).2 j (by omega)⟩)))
theorem cy_99 {J : cr_TJ} {x1 : Int32} (T : cr_tr lv h N K A B S ln ls par E F L) (Q : cr_yt lv h N K A B S ln ls lea lno sk ki lf rg) (hN : N ≤ 260) (hl : lv ≤ 12) (hs : ∀ p, p < lv → ls p ≤ 224) (ht : par top = 1000 + t) :
    ∀ i m be yX, i < m → i ≤ N → cr_G st top N c0 K A B E F L (cr_cy lv hy ls) be dn yX → (yX = 0 → ∀ j, i ≤ j → j < N → cr_dc K A B be dn j) →
    (∀ be' dn' yX', cr_G st top N c0 K A B E F L (cr_cy lv hy ls) be' dn' yX' → (yX' = 0 → (∀ j, j < N → cr_dc K A B be' dn' j) ∧ ∀ j, j < N → cr_uc K A B ls (cr_cy lv hy ls) be' dn' j) → J (x1 + 1) yM yC yP yT yL (nI N) yR yG yH yX' ma lea mo lno sk ki lf rg hy nx be' dn') →
    wY_spread_99 post J x1 m (nI i - 1) yM yC yP yT yL (nI N) yR yG yH yX ma lea mo lno sk ki lf rg hy nx be dn := by
  intro i
  induction i with
  | zero =>
    intro m be yX hm hi Hg Hc H
    obtain ⟨m, rfl⟩ : ∃ m', m = m' + 1 := ⟨m - 1, by omega⟩
    exact br_t (by decide) ⟨N + 1, cy_116 T Q hN hl hs (N + 1) 0 dn yX (by omega) (by omega) Hg (fun w => ⟨fun j hj => Hc w j (by omega) hj, fun j hj => by omega⟩) (fun dn' yX' G' k => H be dn' yX' G' k)⟩
  | succ i ih =>
    intro m be yX hm hi Hg Hc H
    obtain ⟨m, rfl⟩ : ∃ m', m = m' + 1 := ⟨m - 1, by omega⟩
    rw [nI_pred]
    refine br_f (nI_pos (by omega)) (cy_down T Q hN ht (show i < N by omega) Hg (fun be' yX' G' k => nm_r (e' := nI i - 1) (Int32.sub_eq_add_neg _ _).symm (ih m be' yX' (by omega) (by omega) G' (fun w j hj hjN => ?_) H)))
    obtain ⟨k1, k2, k3⟩ := k w
    subst k1
    by_cases e : j = i
    · subst e; exact k3
    · exact Hc k2 j (by omega) hjN
theorem cy_73 (T : cr_tr lv h N K A B S ln ls par E F L) (Q : cr_yt lv h N K A B S ln ls lea lno sk ki lf rg) (hN : N ≤ 260) (hl : lv ≤ 12) (hs : ∀ p, p < lv → ls p ≤ 224) (ht : par top = 1000 + t) (htN : top < N)
    (H : ∀ be' dn' yX', cr_01 be' → cr_01 dn' → (¬ dn' top = 0 ↔ (st ∧ E top) ∨ ∃ q, L top q ∧ cr_cy lv hy ls q) → (∀ p, p < lv → (¬ be' (ln p) = 0 ↔ cr_en st top N K A B F L (cr_cy lv hy ls) p)) → post (yM, yC, yP, yT, yL, nI N, yR, yG, yH, yX', ma, lea, mo, lno, sk, ki, lf, rg, hy, nx, be', dn')) :
    ∀ m r be dn yX, 521 - r < m → r ≤ 521 → cr_inv st top N K A B E F L (cr_cy lv hy ls) be dn → cr_01 be → cr_01 dn → (¬ yX = 0 → r ≤ cr_ct be N + cr_ct dn N) →
    (yX = 0 → (∀ j, j < N → cr_dc K A B be dn j) ∧ ∀ j, j < N → cr_uc K A B ls (cr_cy lv hy ls) be dn j) → wY_spread_73 post m (nI r) yM yC yP yT yL (nI N) yR yG yH yX ma lea mo lno sk ki lf rg hy nx be dn := by
  intro m
  induction m with
  | zero => intro r be dn yX h; omega
  | succ m ih =>
    intro r be dn yX hm hr Hi b01 d01 Hr Hc
    have fin : yX = 0 → post (yM, yC, yP, yT, yL, nI N, yR, yG, yH, yX, ma, lea, mo, lno, sk, ki, lf, rg, hy, nx, be, dn) := fun z => H be dn yX b01 d01 (cr_R1 T (Hc z).1 (Hc z).2 Hi htN) (fun p hp => cr_R2 T (Hc z).1 (Hc z).2 Hi htN hp)
    rcases Nat.lt_or_ge r 521 with hlt | hge
    · refine br_f (nI_ge (b := 521) hlt (by decide)) ?_
      by_cases z : yX = 0
      · exact br_t z (fin z)
      · refine br_f z (nm_r (e' := nI N - 1) rfl ⟨N + 1, cy_99 (c0 := cr_ct be N + cr_ct dn N) T Q hN hl hs ht N (N + 1) be 0 (by omega) (Nat.le_refl N) ⟨Hi, b01, d01, ?_⟩ (fun _ j h1 h2 => by omega) (fun be' dn' yX' G' k => ?_)⟩)
        · rw [if_pos rfl]; omega
        · obtain ⟨g1, g2, g3, g4⟩ := G'
          rw [nI_1]
          refine ih (r + 1) be' dn' yX' (by omega) (by omega) g1 g2 g3 (fun w => ?_) k
          rw [if_neg w] at g4
          have := Hr z
          omega
    · refine br_t (nI_le (a := 521) hge (by omega)) (fin ?_)
      by_cases z : yX = 0
      · exact z
      · have := Hr z
        have h1 := cr_ct_le be N
        have h2 := cr_ct_le dn N
        omega
/-- the start of an input, as Y reckons it -/
def cr_ys (yP yG : Int32) : Prop := ¬ yP = 1 ∨ yG = 0
theorem cy_sp (T : cr_tr lv (h + 1) N K A B S ln ls par E F L) (Q : cr_yt lv (h + 1) N K A B S ln ls lea lno sk ki lf rg) (hN : N ≤ 260) (hl : lv ≤ 12) (hh : h < 16) (hs : ∀ p, p < lv → ls p ≤ 224) (b01 : cr_01 be) (d01 : cr_01 dn)
    (H : ∀ be' dn' yX', cr_01 be' → cr_01 dn' → (¬ dn' (S h) = 0 ↔ (cr_ys yP yG ∧ E (S h)) ∨ ∃ q, L (S h) q ∧ cr_cy lv hy ls q) → (∀ p, p < lv → (¬ be' (ln p) = 0 ↔ cr_en (cr_ys yP yG) (S h) N K A B F L (cr_cy lv hy ls) p)) →
      post (yM, yC, yP, nI (h + 1), yL, nI N, yR, yG, yH, yX', ma, lea, mo, lno, sk, ki, lf, rg, hy, nx, be', dn')) : wpY_spread post (yM, yC, yP, nI (h + 1), yL, nI N, yR, yG, yH, yX, ma, lea, mo, lno, sk, ki, lf, rg, hy, nx, be, dn) := by
  obtain ⟨s1, s2⟩ := T.2.1 h (by omega)
  have eS := Q.2.1 h (by omega)
  have eh : nI (h + 1) - 1 = nI h := nI_pred h
  have ch : (nI h).toNatClampNeg = h := nI_clamp (by omega)
  have cS : (nI (S h)).toNatClampNeg = S h := nI_clamp (by omega)
  have go : ∀ be dn : Nat → Int32, cr_01 be → cr_01 dn → (∀ j, j < N → be j = 0) → (∀ j, j < N → dn j = 0) → ∀ x : Int32, (x = 0 ∨ x = 1) → (¬ x = 0 ↔ cr_ys yP yG) →
      ∃ n73 : Nat, wY_spread_73 post n73 0 yM yC yP (nI (h + 1)) yL (nI N) yR yG yH 1 ma lea mo lno sk ki lf rg hy nx (upd be (S h) x) dn := by
    intro be dn b01 d01 b0 d0 x hx01 hx
    refine ⟨522, cy_73 (yT := nI (h + 1)) (st := cr_ys yP yG) T Q hN hl hs s2 s1 H 522 0 (upd be (S h) x) dn 1 (by omega) (by omega) (cr_inv0 T (by omega) s2 (fun j hj hne => ?_) d0 ?_) (cr_01u b01 hx01) d01 (fun _ => by omega) (fun k => absurd k cr_10)⟩
    · rw [pk_un hne]; exact b0 j hj
    · rw [pk_us]; exact hx
  have loop : ∀ m i be dn, N - i < m → i ≤ N → cr_01 be → cr_01 dn → (∀ j, j < i → be j = 0) → (∀ j, j < i → dn j = 0) → wY_spread_2 post yM yC yP (nI (h + 1)) yL (nI N) yR yG yH yX m (nI i) ma lea mo lno sk ki lf rg hy nx be dn := by
    intro m
    induction m with
    | zero => intro i be dn hm; omega
    | succ m ih =>
      intro i be dn hm hi b01 d01 b0 d0
      rcases Nat.lt_or_ge i N with hlt | hge
      · have hin : vp_in (nI i) 260 := vp_in_nI (by omega) (by decide)
        refine br_f (nI_ge hlt (by omega)) ⟨hin, nm_r (cr_ub0 (by omega)) ⟨hin, nm_r (cr_ub0 (by omega)) (nm_r (nI_1 i) (ih (i + 1) _ _ (by omega) (by omega) (cr_01u b01 (Or.inl rfl)) (cr_01u d01 (Or.inl rfl)) (fun j hj => ?_) (fun j hj => ?_)))⟩⟩
        · by_cases e : j = i
          · subst e; exact pk_us
          · rw [pk_un e]; exact b0 j (by omega)
        · by_cases e : j = i
          · subst e; exact pk_us
          · rw [pk_un e]; exact d0 j (by omega)
      · have b0' : ∀ j, j < N → be j = 0 := fun j hj => b0 j (by omega)
        have d0' : ∀ j, j < N → dn j = 0 := fun j hj => d0 j (by omega)
        have s60 : cr_ys yP yG → wY_spread_60 post (sk (nI (h + 1) - 1).toNatClampNeg) yM yC yP (nI (h + 1)) yL (nI N) yR yG yH yX ma lea mo lno sk ki lf rg hy nx be dn := by
          intro z
          rw [eh, ch, eS]
          exact ⟨vp_in_nI (by omega) (by decide), nm_r (cr_ub1 (by omega)) (go be dn b01 d01 b0' d0' 1 (Or.inr rfl) ⟨fun _ => z, fun _ => cr_10⟩)⟩
        refine br_t (nI_le hge (by omega)) ⟨(by rw [eh]; exact vp_in_nI (by omega) (by decide)), ?_⟩
        by_cases a : yP = 1
        · refine br_t a ?_
          by_cases b : yG = 0
          · exact br_t b (s60 (Or.inr b))
          · exact br_f b ⟨(by rw [eh, ch, eS]; exact vp_in_nI (by omega) (by decide)), nm_r (e' := upd be (S h) 0) (by rw [eh, ch, eS]; exact cr_ub0 (by omega)) (go be dn b01 d01 b0' d0' 0 (Or.inl rfl) ⟨fun k => absurd rfl k, fun k => k.elim (fun k => absurd a k) (fun k => absurd k b)⟩)⟩
        · exact br_f a (s60 (Or.inl a))
  exact ⟨N + 1, loop (N + 1) 0 be dn (by omega) (by omega) b01 d01 (fun j hj => by omega) (fun j hj => by omega)⟩
end CRD
end
section
section CRY
/-! Y: acceptance, what may follow, a step -/
variable {yM yC yP yT yL yN yR yG yH yX : Int32} {ma lea mo lno sk ki lf rg hy nx be dn : Nat → Int32}
variable {lv h N : Nat} {K A B S ln ls tp par : Nat → Nat} {E : Nat → Prop} {F L : Nat → Nat → Prop}
/-- the input is accepted, as Y reckons it -/
def cr_ya (yP yG : Int32) (top lv : Nat) (E : Nat → Prop) (L : Nat → Nat → Prop) (hy : Nat → Int32) (ls : Nat → Nat) : Prop := (cr_ys yP yG ∧ E top) ∨ ∃ q, L top q ∧ cr_cy lv hy ls q
theorem cy_acc {post : Int32 → SY → Prop} (T : cr_tr lv (h + 1) N K A B S ln ls par E F L) (Q : cr_yt lv (h + 1) N K A B S ln ls lea lno sk ki lf rg) (hN : N ≤ 260) (hl : lv ≤ 12) (hh : h < 16) (hs : ∀ p, p < lv → ls p ≤ 224) (b01 : cr_01 be) (d01 : cr_01 dn)
    (H : ∀ be' dn' yX' r, cr_01 be' → cr_01 dn' → (r = 0 ∨ r = 1) → (¬ r = 0 ↔ cr_ya yP yG (S h) lv E L hy ls) → post r (yM, yC, yP, nI (h + 1), yL, nI N, yR, yG, yH, yX', ma, lea, mo, lno, sk, ki, lf, rg, hy, nx, be', dn')) : wpY_accepts post (yM, yC, yP, nI (h + 1), yL, nI N, yR, yG, yH, yX, ma, lea, mo, lno, sk, ki, lf, rg, hy, nx, be, dn) := by
  obtain ⟨s1, s2⟩ := T.2.1 h (by omega)
  have eS := Q.2.1 h (by omega)
  have eh : nI (h + 1) - 1 = nI h := nI_pred h
  have ch : (nI h).toNatClampNeg = h := nI_clamp (by omega)
  have cS : (nI (S h)).toNatClampNeg = S h := nI_clamp (by omega)
  refine br_f (nI_ne0 (by omega) (by omega)) (cy_sp T Q hN hl hh hs b01 d01 (fun be' dn' yX' b' d' r1 r2 => ?_))
  have e : dn' (sk (nI (h + 1) - 1).toNatClampNeg).toNatClampNeg = dn' (S h) := by rw [eh, ch, eS, cS]
  refine ⟨(by rw [eh]; exact vp_in_nI (by omega) (by decide)), (by rw [eh, ch, eS]; exact vp_in_nI (by omega) (by decide)), (by rw [e]; exact cr_nn (d' _)), ?_⟩
  rw [e]
  exact H be' dn' yX' (dn' (S h)) b' d' (d' _) r1
/-- the leaves' bounds in Y -/
def cr_mo (lv : Nat) (ls tp : Nat → Nat) (lea mo : Nat → Int32) : Prop :=
  ∀ p, p < lv → lea p = nI (ls p) ∧ ls p ≤ tp p ∧ 1 ≤ tp p ∧ tp p ≤ 224 ∧ ((mo p = -1 ∧ ((ls p ≤ 1 ∧ tp p = 1) ∨ (1 < ls p ∧ tp p = ls p))) ∨ (¬ mo p = -1 ∧ mo p = nI (tp p)))
theorem cy_top {post : Int32 → Prop} {p : Nat} (M : cr_mo lv ls tp lea mo) (hp : p < lv) (H : post (nI (tp p))) : wpY_top post (yM, yC, yP, yT, yL, yN, yR, yG, yH, yX, ma, lea, mo, lno, sk, ki, lf, rg, hy, nx, be, dn) (lea p) (mo p) := by
  obtain ⟨m1, m2, m3, m4, m5⟩ := M p hp
  rw [m1]
  rcases m5 with ⟨z, m5⟩ | ⟨z, m5⟩
  · refine br_t z (pk_le (ls p) 1 (fun k => ?_) (fun k => ?_))
    · rw [show tp p = 1 by omega] at H; exact H
    · rw [show tp p = ls p by omega] at H; exact H
  · rw [← m5] at H
    exact br_f z H
/-- (p,v) is held after one letter x more, as Y reckons it -/
def cr_V (ma mo hy : Nat → Int32) (tp : Nat → Nat) (en : Nat → Prop) (x p v : Nat) : Prop :=
  bt (ma p) x = true ∧ ((v = 1 ∧ en p) ∨ (1 < v ∧ ¬ hy (p * 225 + v - 1) = 0) ∨ (mo p = -1 ∧ v = tp p ∧ ¬ hy (p * 225 + v) = 0))
theorem cy_fol {post : Int32 → Prop} {x p v : Nat} (Q : cr_yt lv h N K A B S ln ls lea lno sk ki lf rg) (M : cr_mo lv ls tp lea mo) (hl : lv ≤ 12) (hN : N ≤ 260) (hlN : ∀ p, p < lv → ln p < N) (hp : p < lv) (hx : x < 8) (v1 : 1 ≤ v) (v2 : v < 225)
    (h1 : cr_V ma mo hy tp (fun p => ¬ be (ln p) = 0) x p v → post 1) (h0 : ¬ cr_V ma mo hy tp (fun p => ¬ be (ln p) = 0) x p v → post 0) : wpY_follows post (yM, yC, yP, yT, yL, yN, yR, yG, yH, yX, ma, lea, mo, lno, sk, ki, lf, rg, hy, nx, be, dn) (nI p) (nI v) (nI x) := by
  have hi : vp_in (nI p) 12 := vp_in_nI (by omega) (by decide)
  have cp : (nI p).toNatClampNeg = p := nI_clamp (by omega)
  have l1 := hlN p hp
  obtain ⟨eN, eL⟩ := Q.2.2 p hp
  obtain ⟨m1, m2, m3, m4, m5⟩ := M p hp
  have cN : (nI (ln p)).toNatClampNeg = ln p := nI_clamp (by omega)
  have e := cr_ix p v
  have ce : (nI (p * 225 + v)).toNatClampNeg = p * 225 + v := nI_clamp (by omega)
  refine ⟨hi, ?_⟩
  by_cases z : bt (ma p) x = true
  · refine br_f (fun w => by rw [cp, cr_bit0 (by omega)] at w; rw [w] at z; exact absurd z (by decide)) ?_
    have f60 : ¬ (v = 1 ∧ ¬ be (ln p) = 0) → ¬ (1 < v ∧ ¬ hy (p * 225 + v - 1) = 0) → wY_follows_60 post (nI p) (nI v) yM yC yP yT yL yN yR yG yH yX ma lea mo lno sk ki lf rg hy nx be dn := by
      intro n1 n2
      refine ⟨hi, ?_⟩
      rw [cp]
      by_cases k : mo p = -1
      · refine br_t k ⟨hi, hi, cy_top M hp (pk_eq v (tp p) (fun et => ⟨(by rw [e]; exact vp_in_nI (by omega) (by decide)), ?_⟩) (fun et => h0 (fun w => w.2.elim n1 (fun w => w.elim n2 (fun w => et w.2.1)))))⟩
        by_cases y : hy (p * 225 + v) = 0
        · exact br_t (by rw [e, ce]; exact y) (h0 (fun w => w.2.elim n1 (fun w => w.elim n2 (fun w => w.2.2 y))))
        · exact br_f (by rw [e, ce]; exact y) (h1 ⟨z, Or.inr (Or.inr ⟨k, et, y⟩)⟩)
      · exact br_f k (h0 (fun w => w.2.elim n1 (fun w => w.elim n2 (fun w => k w.1))))
    have f36 : ¬ (v = 1 ∧ ¬ be (ln p) = 0) → wY_follows_36 post (nI p) (nI v) yM yC yP yT yL yN yR yG yH yX ma lea mo lno sk ki lf rg hy nx be dn := by
      intro n1
      refine pk_le v 1 (fun k => f60 n1 (fun w => by omega)) (fun k => ?_)
      have e1 : nI p * 225 + nI v - 1 = nI (p * 225 + v - 1) := by rw [e, cr_s1' (by omega)]
      have ce1 : (nI (p * 225 + v - 1)).toNatClampNeg = p * 225 + v - 1 := nI_clamp (by omega)
      refine ⟨(by rw [e1]; exact vp_in_nI (by omega) (by decide)), ?_⟩
      by_cases y : hy (p * 225 + v - 1) = 0
      · exact br_t (by rw [e1, ce1]; exact y) (f60 n1 (fun w => w.2 y))
      · exact br_f (by rw [e1, ce1]; exact y) (h1 ⟨z, Or.inr (Or.inl ⟨k, y⟩)⟩)
    refine pk_eq v 1 (fun k => ⟨hi, (by rw [cp, eN]; exact vp_in_nI (by omega) (by decide)), ?_⟩) (fun k => f36 (fun w => k w.1))
    by_cases y : be (ln p) = 0
    · exact br_t (by rw [cp, eN, cN]; exact y) (f36 (fun w => w.2 y))
    · exact br_f (by rw [cp, eN, cN]; exact y) (h1 ⟨z, Or.inl ⟨k, y⟩⟩)
  · exact br_t (by rw [cp, cr_bit0 (by omega)]; exact cr_nt z) (h0 (fun w => z w.1))
/-- the cells of the next table that are reckoned -/
def cr_nx (D V : Nat → Nat → Prop) (nx : Nat → Int32) : Prop := ∀ q v, q < 12 → v < 225 → (D q v → (¬ nx (q * 225 + v) = 0 ↔ V q v)) ∧ (¬ D q v → nx (q * 225 + v) = 0)
theorem cy_97 {post : SY → Prop} (n01 : ∀ j, j < 2700 → nx j = 0 ∨ nx j = 1) (H : ∀ hy', cr_01 hy' → (∀ j, j < 2700 → hy' j = nx j) → post (yM, yC, yP, yT, yL, yN, yR, yG, yH, yX, ma, lea, mo, lno, sk, ki, lf, rg, hy', nx, be, dn)) : ∀ m i hy, 2700 - i < m → i ≤ 2700 → cr_01 hy → (∀ j, j < i → hy j = nx j) →
    wY_step_97 post yM yC yP yT yL yN yR yG yH yX m (nI i) ma lea mo lno sk ki lf rg hy nx be dn := by
  intro m
  induction m with
  | zero => intro i hy h; omega
  | succ m ih =>
    intro i hy hm hi h01 hj
    rcases Nat.lt_or_ge i 2700 with hlt | hge
    · have hin : vp_in (nI i) 2700 := vp_in_nI hlt (by decide)
      refine br_f (nI_ge (b := 2700) hlt (by decide)) ⟨hin, hin, nm_r (e' := upd hy i (nx i)) (by rw [nI_clamp (by omega), cr_nb (n01 i hlt)]) (nm_r (nI_1 i) (ih (i + 1) _ (by omega) (by omega) (cr_01u h01 (n01 i hlt)) (fun j hj' => ?_)))⟩
      by_cases e : j = i
      · subst e; exact pk_us
      · rw [pk_un e]; exact hj j (by omega)
    · exact br_t (nI_le (a := 2700) hge (by omega)) (H hy h01 (fun j hj' => hj j (by omega)))
theorem cy_56 {post : SY → Prop} {x p : Nat} {J : Int32 → (Nat → Int32) → (Nat → Int32) → (Nat → Int32) → (Nat → Int32) → (Nat → Int32) → (Nat → Int32) → (Nat → Int32) → (Nat → Int32) → (Nat → Int32) → (Nat → Int32) → (Nat → Int32) → (Nat → Int32) → Prop} {D : Nat → Nat → Prop}
    (Q : cr_yt lv h N K A B S ln ls lea lno sk ki lf rg) (M : cr_mo lv ls tp lea mo) (hl : lv ≤ 12) (hN : N ≤ 260) (hlN : ∀ p, p < lv → ln p < N) (hp : p < lv) (hx : x < 8) (hD : ∀ v, ¬ D p v)
    (H : ∀ nx', (∀ j, j < 2700 → nx' j = 0 ∨ nx' j = 1) → cr_nx (fun q v => D q v ∨ (q = p ∧ 1 ≤ v ∧ v ≤ tp p)) (cr_V ma mo hy tp (fun p => ¬ be (ln p) = 0) x) nx' → J (nI (p + 1)) ma lea mo lno sk ki lf rg hy nx' be dn) :
    ∀ m v nx, tp p + 1 - v < m → 1 ≤ v → v ≤ tp p + 1 → (∀ j, j < 2700 → nx j = 0 ∨ nx j = 1) → cr_nx (fun q w => D q w ∨ (q = p ∧ 1 ≤ w ∧ w < v)) (cr_V ma mo hy tp (fun p => ¬ be (ln p) = 0) x) nx →
    wY_step_56 post J (nI x) (nI p) (nI (tp p)) yM yC yP yT yL yN yR yG yH yX m (nI v) ma lea mo lno sk ki lf rg hy nx be dn := by
  obtain ⟨m1, m2, m3, m4, m5⟩ := M p hp
  intro m
  induction m with
  | zero => intro v nx h; omega
  | succ m ih =>
    intro v nx hm v1 v2 n01 I
    rcases Nat.lt_or_ge (tp p) v with hlt | hge
    · have ev : v = tp p + 1 := by omega
      subst ev
      refine br_t (nI_lt hlt (by omega)) (nm_r (nI_1 p) (H nx n01 (fun q w hq hw => ⟨fun k => (I q w hq hw).1 ?_, fun k => (I q w hq hw).2 (fun k' => k ?_)⟩)))
      · exact k.elim Or.inl (fun k => Or.inr ⟨k.1, k.2.1, by omega⟩)
      · exact k'.elim Or.inl (fun k => Or.inr ⟨k.1, k.2.1, by omega⟩)
    · have e := cr_ix p v
      have ce : (nI (p * 225 + v)).toNatClampNeg = p * 225 + v := nI_clamp (by omega)
      have put : ∀ r : Int32, (r = 0 ∨ r = 1) → (¬ r = 0 ↔ cr_V ma mo hy tp (fun p => ¬ be (ln p) = 0) x p v) → vp_in (nI p * 225 + nI v) 2700 ∧ ∀ a : Nat → Int32, a = upd nx (nI p * 225 + nI v).toNatClampNeg (vp_nar .boolean r) → ∀ y : Int32, y = nI v + 1 → wY_step_56 post J (nI x) (nI p) (nI (tp p)) yM yC yP yT yL yN yR yG yH yX m y ma lea mo lno sk ki lf rg hy a be dn := by
        intro r hr hV
        refine ⟨(by rw [e]; exact vp_in_nI (by omega) (by decide)), nm_r (e' := upd nx (p * 225 + v) r) (by rw [e]; exact cr_ub (by omega) hr) (nm_r (nI_1 v) (ih (v + 1) _ (by omega) (by omega) (by omega) (fun j hj => ?_) (fun q w hq hw => ?_)))⟩
        · by_cases ej : j = p * 225 + v
          · subst ej; rw [pk_us]; exact hr
          · rw [pk_un ej]; exact n01 j hj
        · by_cases ej : q = p ∧ w = v
          · obtain ⟨rfl, rfl⟩ := ej
            rw [pk_us]
            exact ⟨fun _ => hV, fun k => absurd (Or.inr ⟨rfl, v1, by omega⟩) k⟩
          · rw [pk_un (by omega)]
            obtain ⟨i1, i2⟩ := I q w hq hw
            refine ⟨fun k => i1 (k.elim Or.inl (fun k => Or.inr ⟨k.1, k.2.1, ?_⟩)), fun k => i2 (fun k' => k (k'.elim Or.inl (fun k' => Or.inr ⟨k'.1, k'.2.1, by omega⟩)))⟩
            have : w ≠ v := fun z => ej ⟨k.1, z⟩
            omega
      exact br_f (nI_nlt hge (by omega)) (cy_fol Q M hl hN hlN hp hx v1 (by omega) (fun z => put 1 (Or.inr rfl) ⟨fun _ => z, fun _ => cr_10⟩) (fun z => put 0 (Or.inl rfl) ⟨fun k => absurd rfl k, fun k => absurd k z⟩))
theorem cy_28 {post : SY → Prop} {x : Nat} (Q : cr_yt lv h N K A B S ln ls lea lno sk ki lf rg) (M : cr_mo lv ls tp lea mo) (hl : lv ≤ 12) (hN : N ≤ 260) (hlN : ∀ p, p < lv → ln p < N) (hx : x < 8) (h01 : cr_01 hy)
    (H : ∀ hy' nx', cr_01 hy' → cr_nx (fun q v => q < lv ∧ 1 ≤ v ∧ v ≤ tp q) (cr_V ma mo hy tp (fun p => ¬ be (ln p) = 0) x) hy' → post (yM, yC, yP, yT, nI lv, yN, yR, yG, yH, yX, ma, lea, mo, lno, sk, ki, lf, rg, hy', nx', be, dn)) :
    ∀ m p nx, lv - p < m → p ≤ lv → (∀ j, j < 2700 → nx j = 0 ∨ nx j = 1) → cr_nx (fun q v => q < p ∧ 1 ≤ v ∧ v ≤ tp q) (cr_V ma mo hy tp (fun p => ¬ be (ln p) = 0) x) nx →
    wY_step_28 post (nI x) yM yC yP yT (nI lv) yN yR yG yH yX m (nI p) ma lea mo lno sk ki lf rg hy nx be dn := by
  intro m
  induction m with
  | zero => intro p nx h; omega
  | succ m ih =>
    intro p nx hm hp n01 I
    rcases Nat.lt_or_ge p lv with hlt | hge
    · have hi : vp_in (nI p) 12 := vp_in_nI (by omega) (by decide)
      have cp : (nI p).toNatClampNeg = p := nI_clamp (by omega)
      refine br_f (nI_ge hlt (by omega)) ⟨hi, hi, ?_⟩
      rw [cp]
      refine cy_top M hlt ⟨tp p + 1, cy_56 (D := fun q v => q < p ∧ 1 ≤ v ∧ v ≤ tp q) Q M hl hN hlN hlt hx (fun v k => by omega) (fun nx' n01' I' => ih (p + 1) nx' (by omega) (by omega) n01' (fun q v hq hv => ?_)) (tp p + 1) 1 nx (by omega) (by omega) (by omega) n01 (fun q v hq hv => ?_)⟩
      · obtain ⟨i1, i2⟩ := I' q v hq hv
        refine ⟨fun k => i1 ?_, fun k => i2 (fun k' => k ?_)⟩
        · by_cases e : q = p
          · subst e; exact Or.inr ⟨rfl, k.2⟩
          · exact Or.inl ⟨by omega, k.2⟩
        · rcases k' with k' | ⟨e, k'⟩
          · exact ⟨by omega, k'.2⟩
          · subst e; exact ⟨by omega, k'⟩
      · obtain ⟨i1, i2⟩ := I q v hq hv
        exact ⟨fun k => i1 (k.elim id (fun k => by omega)), fun k => i2 (fun k' => k (Or.inl k'))⟩
    · have e : p = lv := by omega
      subst e
      refine br_t (nI_le hge (by omega)) ⟨2701, cy_97 n01 (fun hy' h01' hj => H hy' nx h01' (fun q v hq hv => ?_)) 2701 0 hy (by omega) (by omega) h01 (fun j hj => by omega)⟩
      rw [hj (q * 225 + v) (by omega)]
      exact I q v hq hv
theorem cy_06 {post : SY → Prop} {x : Nat} (Q : cr_yt lv h N K A B S ln ls lea lno sk ki lf rg) (M : cr_mo lv ls tp lea mo) (hl : lv ≤ 12) (hN : N ≤ 260) (hlN : ∀ p, p < lv → ln p < N) (hx : x < 8) (h01 : cr_01 hy)
    (H : ∀ hy' nx', cr_01 hy' → cr_nx (fun q v => q < lv ∧ 1 ≤ v ∧ v ≤ tp q) (cr_V ma mo hy tp (fun p => ¬ be (ln p) = 0) x) hy' → post (yM, yC, yP, yT, nI lv, yN, yR, yG, yH, yX, ma, lea, mo, lno, sk, ki, lf, rg, hy', nx', be, dn)) :
    ∀ m i nx, 2700 - i < m → i ≤ 2700 → (∀ j, j < i → nx j = 0) → wY_step_6 post (nI x) yM yC yP yT (nI lv) yN yR yG yH yX m (nI i) ma lea mo lno sk ki lf rg hy nx be dn := by
  intro m
  induction m with
  | zero => intro i nx h; omega
  | succ m ih =>
    intro i nx hm hi hj
    rcases Nat.lt_or_ge i 2700 with hlt | hge
    · have hin : vp_in (nI i) 2700 := vp_in_nI hlt (by decide)
      refine br_f (nI_ge (b := 2700) hlt (by decide)) ⟨hin, nm_r (cr_ub0 (by omega)) (nm_r (nI_1 i) (ih (i + 1) _ (by omega) (by omega) (fun j hj' => ?_)))⟩
      by_cases e : j = i
      · subst e; exact pk_us
      · rw [pk_un e]; exact hj j (by omega)
    · exact br_t (nI_le (a := 2700) hge (by omega)) ⟨lv + 1, cy_28 Q M hl hN hlN hx h01 H (lv + 1) 0 nx (by omega) (by omega) (fun j hj' => Or.inl (hj j (by omega))) (fun q v hq hv => ⟨fun k => by omega, fun _ => hj _ (by omega)⟩)⟩
theorem cr_Vc {en en' : Nat → Prop} {x : Nat} (he : ∀ p, p < lv → (en p ↔ en' p)) {q v : Nat} (hq : q < lv) : cr_V ma mo hy tp en x q v ↔ cr_V ma mo hy tp en' x q v := by
  unfold cr_V
  rw [he q hq]
theorem cy_step {post : SY → Prop} {x : Nat} (T : cr_tr lv (h + 1) N K A B S ln ls par E F L) (Q : cr_yt lv (h + 1) N K A B S ln ls lea lno sk ki lf rg) (M : cr_mo lv ls tp lea mo) (hN : N ≤ 260) (hl : lv ≤ 12) (hh : h < 16) (b01 : cr_01 be) (d01 : cr_01 dn) (hx : x < 8) (h01 : cr_01 hy)
    (H : ∀ hy' nx' be' dn' yX', cr_01 hy' → cr_01 be' → cr_01 dn' → cr_nx (fun q v => q < lv ∧ 1 ≤ v ∧ v ≤ tp q) (cr_V ma mo hy tp (cr_en (cr_ys yP yG) (S h) N K A B F L (cr_cy lv hy ls)) x) hy' → post (yM, yC, yP, nI (h + 1), nI lv, nI N, yR, yG, yH, yX', ma, lea, mo, lno, sk, ki, lf, rg, hy', nx', be', dn')) :
    wpY_step post (yM, yC, yP, nI (h + 1), nI lv, nI N, yR, yG, yH, yX, ma, lea, mo, lno, sk, ki, lf, rg, hy, nx, be, dn) (nI x) := by
  have hs : ∀ p, p < lv → ls p ≤ 224 := fun p hp => by have := M p hp; omega
  unfold wpY_step
  refine cy_sp T Q hN hl hh hs b01 d01 (fun be' dn' yX' b' d' r1 r2 => ?_)
  refine ⟨2701, cy_06 (yT := nI (h + 1)) (yN := nI N) (be := be') Q M hl hN (fun p hp => (T.2.2 p hp).1) hx h01 (fun hy' nx' h01' I => H hy' nx' be' dn' yX' h01' b' d' (fun q v hq hv => ?_)) 2701 0 nx (by omega) (by omega) (fun j hj => by omega)⟩
  obtain ⟨i1, i2⟩ := I q v hq hv
  exact ⟨fun k => (i1 k).trans (cr_Vc r2 k.1), i2⟩
end CRY
end
section
section CRQ
/-! what both sides answer of the held pairs -/
variable {xL xW xP xT xC xR xN xH : Int32} {aC aL aT aE aB aF iE iF iL hx : Nat → Int32}
variable {yM yC yP yT yL yN yR yG yH yX : Int32} {ma lea mo lno sk ki lf rg hy nx be dn : Nat → Int32}
variable {lv h N : Nat} {K A B S ln ls tp bs par : Nat → Nat} {E : Nat → Prop} {F L : Nat → Nat → Prop}
/-! counts -/
theorem cr_ctc {f g : Nat → Int32} : ∀ n, (∀ j, j < n → f j = g j) → cr_ct f n = cr_ct g n := by
  intro n
  induction n with
  | zero => exact fun _ => rfl
  | succ n ih =>
    intro hj
    show cr_ct f n + (if f n = 0 then 0 else 1) = cr_ct g n + (if g n = 0 then 0 else 1)
    rw [ih (fun j h => hj j (by omega)), hj n (by omega)]
theorem cr_ctz {f : Nat → Int32} {n : Nat} : ∀ d, (∀ j, n ≤ j → j < n + d → f j = 0) → cr_ct f (n + d) = cr_ct f n := by
  intro d
  induction d with
  | zero => exact fun _ => rfl
  | succ d ih =>
    intro hj
    show cr_ct f (n + d) + (if f (n + d) = 0 then 0 else 1) = cr_ct f n
    rw [ih (fun j a b => hj j a (by omega)), hj (n + d) (by omega) (by omega), if_pos rfl, Nat.add_zero]
theorem cx_szl {post : Int32 → Prop} {p : Nat} (G : cr_lf lv ls tp bs aL aT aE aB) (hp : p < lv) (H : post (nI (cr_ct (fun j => hx (bs p + j)) (tp p)))) : ∀ n i, tp p - i < n → i ≤ tp p →
    wX_size_14 post (nI p) xL xW xP xT xC xR xN xH aC aL aT aE aB aF iE iF iL hx n (nI (cr_ct (fun j => hx (bs p + j)) i)) (nI (i + 1)) := by
  obtain ⟨g1, g2, g3⟩ := G
  obtain ⟨eL, eT, eB, eE, t1, t2, t3⟩ := g2 p hp
  have hi : vp_in (nI p) 12 := vp_in_nI (by omega) (by decide)
  have cp : (nI p).toNatClampNeg = p := nI_clamp (by omega)
  intro n
  induction n with
  | zero => intro i h; omega
  | succ n ih =>
    intro i hn hit
    rcases Nat.lt_or_ge i (tp p) with h | h
    · have e : ((aB (nI p).toNatClampNeg) + nI (i + 1)) - 1 = nI (bs p + i) := cr_cell (aB := aB) (show p < 12 by omega) eB (by omega)
      have ce : (nI (bs p + i)).toNatClampNeg = bs p + i := nI_clamp (by omega)
      have hv : vp_in (((aB (nI p).toNatClampNeg) + nI (i + 1)) - 1) 224 := by rw [e]; exact vp_in_nI (by omega) (by decide)
      have ih' := ih (i + 1) (by omega) (by omega)
      have es : cr_ct (fun j => hx (bs p + j)) (i + 1) = cr_ct (fun j => hx (bs p + j)) i + (if hx (bs p + i) = 0 then 0 else 1) := rfl
      refine ⟨hi, br_f (by rw [cp, eT]; exact nI_nlt (by omega) (by omega)) ⟨hi, hv, ?_⟩⟩
      by_cases z : hx (bs p + i) = 0
      · rw [es, if_pos z, Nat.add_zero] at ih'
        exact br_t (by rw [e, ce]; exact z) (nm_r (nI_1 (i + 1)) ih')
      · rw [es, if_neg z] at ih'
        exact br_f (by rw [e, ce]; exact z) (nm_r (nI_1 _) (nm_r (nI_1 (i + 1)) ih'))
    · have e : i = tp p := by omega
      subst e
      exact ⟨hi, br_t (by rw [cp, eT]; exact nI_lt (by omega) (by omega)) H⟩
theorem cy_szl {post : Int32 → Prop} {p : Nat} (hp : p < 12) (H : post (nI (cr_ct (fun j => hy (p * 225 + (j + 1))) 224))) : ∀ n i, 224 - i < n → i ≤ 224 →
    wY_size_18 post (nI p) yM yC yP yT yL yN yR yG yH yX ma lea mo lno sk ki lf rg hy nx be dn n (nI (cr_ct (fun j => hy (p * 225 + (j + 1))) i)) (nI (i + 1)) := by
  intro n
  induction n with
  | zero => intro i h; omega
  | succ n ih =>
    intro i hn hit
    rcases Nat.lt_or_ge i 224 with h | h
    · have e := cr_ix p (i + 1)
      have ce : (nI (p * 225 + (i + 1))).toNatClampNeg = p * 225 + (i + 1) := nI_clamp (by omega)
      have ih' := ih (i + 1) (by omega) (by omega)
      have es : cr_ct (fun j => hy (p * 225 + (j + 1))) (i + 1) = cr_ct (fun j => hy (p * 225 + (j + 1))) i + (if hy (p * 225 + (i + 1)) = 0 then 0 else 1) := rfl
      refine br_f (nI_ge (b := 225) (by omega) (by decide)) ⟨(by rw [e]; exact vp_in_nI (by omega) (by decide)), ?_⟩
      by_cases z : hy (p * 225 + (i + 1)) = 0
      · rw [es, if_pos z, Nat.add_zero] at ih'
        exact br_t (by rw [e, ce]; exact z) (nm_r (nI_1 (i + 1)) ih')
      · rw [es, if_neg z] at ih'
        exact br_f (by rw [e, ce]; exact z) (nm_r (nI_1 _) (nm_r (nI_1 (i + 1)) ih'))
    · have e : i = 224 := by omega
      subst e
      exact br_t (nI_le (a := 225) (by omega) (by decide)) H
/-! the greatest, the least -/
def cr_mx (f : Nat → Int32) (n m : Nat) : Prop := m ≤ n ∧ (m = 0 ∨ ¬ f m = 0) ∧ ∀ v, m < v → v ≤ n → f v = 0
def cr_mn (f : Nat → Int32) (n m : Nat) : Prop := (m = 0 ∧ ∀ v, 1 ≤ v → v ≤ n → f v = 0) ∨ (1 ≤ m ∧ m ≤ n ∧ ¬ f m = 0 ∧ ∀ v, 1 ≤ v → v < m → f v = 0)
theorem cr_mxu {f g : Nat → Int32} {n k m m' : Nat} (hnk : n ≤ k) (e1 : ∀ v, 1 ≤ v → v ≤ n → f v = g v) (e2 : ∀ v, n < v → v ≤ k → g v = 0) (a : cr_mx f n m) (b : cr_mx g k m') : m' = m := by
  obtain ⟨a1, a2, a3⟩ := a
  obtain ⟨b1, b2, b3⟩ := b
  rcases Nat.lt_trichotomy m m' with h | h | h
  · have n1 : ¬ g m' = 0 := b2.elim (fun z => by omega) id
    rcases Nat.lt_or_ge n m' with k1 | k1
    · exact absurd (e2 m' k1 b1) n1
    · exact absurd ((e1 m' (by omega) k1).symm.trans (a3 m' h k1)) n1
  · exact h.symm
  · have n1 : ¬ f m = 0 := a2.elim (fun z => by omega) id
    exact absurd ((e1 m (by omega) a1).trans (b3 m h (by omega))) n1
theorem cr_mnu {f g : Nat → Int32} {n k m m' : Nat} (hnk : n ≤ k) (e1 : ∀ v, 1 ≤ v → v ≤ n → f v = g v) (e2 : ∀ v, n < v → v ≤ k → g v = 0) (a : cr_mn f n m) (b : cr_mn g k m') : m' = m := by
  rcases a with ⟨a1, a2⟩ | ⟨a1, a2, a3, a4⟩
  · rcases b with ⟨b1, b2⟩ | ⟨b1, b2, b3, b4⟩
    · omega
    · rcases Nat.lt_or_ge n m' with k1 | k1
      · exact absurd (e2 m' k1 b2) b3
      · exact absurd ((e1 m' b1 k1).symm.trans (a2 m' b1 k1)) b3
  · rcases b with ⟨b1, b2⟩ | ⟨b1, b2, b3, b4⟩
    · exact absurd ((e1 m a1 a2).trans (b2 m a1 (by omega))) a3
    · rcases Nat.lt_trichotomy m m' with h | h | h
      · exact absurd ((e1 m a1 a2).trans (b4 m a1 h)) a3
      · exact h.symm
      · exact absurd ((e1 m' b1 (by omega)).symm.trans (a4 m' b1 h)) b3
theorem cx_lgl {post : Int32 → Prop} {p : Nat} (G : cr_lf lv ls tp bs aL aT aE aB) (hp : p < lv) (H : ∀ m, cr_mx (fun v => hx (bs p + v - 1)) (tp p) m → post (nI m)) : ∀ i n, i < n → i ≤ tp p → (∀ v, i < v → v ≤ tp p → hx (bs p + v - 1) = 0) →
    wX_largest_17 post (nI p) xL xW xP xT xC xR xN xH aC aL aT aE aB aF iE iF iL hx n (nI i) := by
  obtain ⟨g1, g2, g3⟩ := G
  obtain ⟨eL, eT, eB, eE, t1, t2, t3⟩ := g2 p hp
  have hi : vp_in (nI p) 12 := vp_in_nI (by omega) (by decide)
  intro i
  induction i with
  | zero =>
    intro n hn hit h0
    obtain ⟨n, rfl⟩ : ∃ n', n = n' + 1 := ⟨n - 1, by omega⟩
    exact br_t (by decide) (H 0 ⟨by omega, Or.inl rfl, h0⟩)
  | succ i ih =>
    intro n hn hit h0
    obtain ⟨n, rfl⟩ : ∃ n', n = n' + 1 := ⟨n - 1, by omega⟩
    have e := cr_cell (aB := aB) (a := i + 1) (show p < 12 by omega) eB (by omega)
    have ce : (nI (bs p + (i + 1) - 1)).toNatClampNeg = bs p + (i + 1) - 1 := nI_clamp (by omega)
    refine br_f (nI_nlt (b := 1) (by omega) (by omega)) ⟨hi, (by rw [e]; exact vp_in_nI (by omega) (by decide)), ?_⟩
    by_cases z : hx (bs p + (i + 1) - 1) = 0
    · refine br_t (by rw [e, ce]; exact z) (nm_r (pk_m1 i) (ih n (by omega) (by omega) (fun v v1 v2 => ?_)))
      by_cases ev : v = i + 1
      · subst ev; exact z
      · exact h0 v (by omega) v2
    · exact br_f (by rw [e, ce]; exact z) (H (i + 1) ⟨hit, Or.inr z, h0⟩)
theorem cy_lgl {post : Int32 → Prop} {p : Nat} (hp : p < 12) (H : ∀ m, cr_mx (fun v => hy (p * 225 + v)) 224 m → post (nI m)) : ∀ n i m, 225 - i < n → 1 ≤ i → i ≤ 225 → cr_mx (fun v => hy (p * 225 + v)) (i - 1) m →
    wY_largest_18 post (nI p) yM yC yP yT yL yN yR yG yH yX ma lea mo lno sk ki lf rg hy nx be dn n (nI m) (nI i) := by
  intro n
  induction n with
  | zero => intro i m h; omega
  | succ n ih =>
    intro i m hn i1 hit hm
    rcases Nat.lt_or_ge i 225 with h | h
    · have e := cr_ix p i
      have ce : (nI (p * 225 + i)).toNatClampNeg = p * 225 + i := nI_clamp (by omega)
      refine br_f (nI_ge (b := 225) (by omega) (by decide)) ⟨(by rw [e]; exact vp_in_nI (by omega) (by decide)), ?_⟩
      obtain ⟨a1, a2, a3⟩ := hm
      by_cases z : hy (p * 225 + i) = 0
      · refine br_t (by rw [e, ce]; exact z) (nm_r (nI_1 i) (ih (i + 1) m (by omega) (by omega) (by omega) ⟨by omega, a2, fun v v1 v2 => ?_⟩))
        by_cases ev : v = i
        · subst ev; exact z
        · exact a3 v v1 (by omega)
      · exact br_f (by rw [e, ce]; exact z) (nm_r (nI_1 i) (ih (i + 1) i (by omega) (by omega) (by omega) ⟨by omega, Or.inr z, fun v v1 v2 => by omega⟩))
    · have e : i = 225 := by omega
      subst e
      exact br_t (nI_le (a := 225) (by omega) (by decide)) (H m hm)
theorem cx_sml {post : Int32 → Prop} {p : Nat} (G : cr_lf lv ls tp bs aL aT aE aB) (hp : p < lv) (H : ∀ m, cr_mn (fun v => hx (bs p + v - 1)) (tp p) m → post (nI m)) : ∀ n i, tp p + 1 - i < n → 1 ≤ i → i ≤ tp p + 1 → (∀ v, 1 ≤ v → v < i → hx (bs p + v - 1) = 0) →
    wX_smallest_12 post (nI p) xL xW xP xT xC xR xN xH aC aL aT aE aB aF iE iF iL hx n (nI i) := by
  obtain ⟨g1, g2, g3⟩ := G
  obtain ⟨eL, eT, eB, eE, t1, t2, t3⟩ := g2 p hp
  have hi : vp_in (nI p) 12 := vp_in_nI (by omega) (by decide)
  have cp : (nI p).toNatClampNeg = p := nI_clamp (by omega)
  intro n
  induction n with
  | zero => intro i h; omega
  | succ n ih =>
    intro i hn i1 hit h0
    rcases Nat.lt_or_ge (tp p) i with h | h
    · exact ⟨hi, br_t (by rw [cp, eT]; exact nI_lt h (by omega)) (H 0 (Or.inl ⟨rfl, fun v v1 v2 => h0 v v1 (by omega)⟩))⟩
    · have e := cr_cell (aB := aB) (show p < 12 by omega) eB i1
      have ce : (nI (bs p + i - 1)).toNatClampNeg = bs p + i - 1 := nI_clamp (by omega)
      refine ⟨hi, br_f (by rw [cp, eT]; exact nI_nlt h (by omega)) ⟨hi, (by rw [e]; exact vp_in_nI (by omega) (by decide)), ?_⟩⟩
      by_cases z : hx (bs p + i - 1) = 0
      · refine br_t (by rw [e, ce]; exact z) (nm_r (nI_1 i) (ih (i + 1) (by omega) (by omega) (by omega) (fun v v1 v2 => ?_)))
        by_cases ev : v = i
        · subst ev; exact z
        · exact h0 v v1 (by omega)
      · exact br_f (by rw [e, ce]; exact z) (H i (Or.inr ⟨i1, h, z, h0⟩))
theorem cy_sml {post : Int32 → Prop} {p : Nat} (hp : p < 12) (H : ∀ m, cr_mn (fun v => hy (p * 225 + v)) 224 m → post (nI m)) : ∀ i n m, i < n → i ≤ 224 →
    ((m = 0 ∧ ∀ v, i < v → v ≤ 224 → hy (p * 225 + v) = 0) ∨ (i < m ∧ m ≤ 224 ∧ ¬ hy (p * 225 + m) = 0 ∧ ∀ v, i < v → v < m → hy (p * 225 + v) = 0)) →
    wY_smallest_20 post (nI p) yM yC yP yT yL yN yR yG yH yX ma lea mo lno sk ki lf rg hy nx be dn n (nI m) (nI i) := by
  intro i
  induction i with
  | zero =>
    intro n m hn hit hm
    obtain ⟨n, rfl⟩ : ∃ n', n = n' + 1 := ⟨n - 1, by omega⟩
    refine br_t (by decide) (H m ?_)
    rcases hm with ⟨a, b⟩ | ⟨a, b, c, d⟩
    · exact Or.inl ⟨a, fun v v1 v2 => b v (by omega) v2⟩
    · exact Or.inr ⟨a, b, c, fun v v1 v2 => d v (by omega) v2⟩
  | succ i ih =>
    intro n m hn hit hm
    obtain ⟨n, rfl⟩ : ∃ n', n = n' + 1 := ⟨n - 1, by omega⟩
    have e := cr_ix p (i + 1)
    have ce : (nI (p * 225 + (i + 1))).toNatClampNeg = p * 225 + (i + 1) := nI_clamp (by omega)
    refine br_f (nI_nlt (b := 1) (by omega) (by omega)) ⟨(by rw [e]; exact vp_in_nI (by omega) (by decide)), ?_⟩
    by_cases z : hy (p * 225 + (i + 1)) = 0
    · refine br_t (by rw [e, ce]; exact z) (nm_r (pk_m1 i) (ih n m (by omega) (by omega) ?_))
      rcases hm with ⟨a, b⟩ | ⟨a, b, c, d⟩
      · refine Or.inl ⟨a, fun v v1 v2 => ?_⟩
        by_cases ev : v = i + 1
        · subst ev; exact z
        · exact b v (by omega) v2
      · refine Or.inr ⟨by omega, b, c, fun v v1 v2 => ?_⟩
        by_cases ev : v = i + 1
        · subst ev; exact z
        · exact d v (by omega) v2
    · exact br_f (by rw [e, ce]; exact z) (nm_r (pk_m1 i) (ih n (i + 1) (by omega) (by omega) (Or.inr ⟨by omega, hit, z, fun v v1 v2 => by omega⟩)))
/-! allowed -/
theorem cx_all {post : Int32 → Prop} {x : Nat} {en : Int32} (hx8 : x < 8) (G : cr_lf lv ls tp bs aL aT aE aB)
    (h1 : (∃ p, p < lv ∧ bt (aC p) x = true ∧ (bt en p = true ∨ ∃ v, 1 ≤ v ∧ v ≤ tp p ∧ (v < tp p ∨ ¬ aE p = 0) ∧ ¬ hx (bs p + v - 1) = 0)) → post 1)
    (h0 : ¬ (∃ p, p < lv ∧ bt (aC p) x = true ∧ (bt en p = true ∨ ∃ v, 1 ≤ v ∧ v ≤ tp p ∧ (v < tp p ∨ ¬ aE p = 0) ∧ ¬ hx (bs p + v - 1) = 0)) → post 0) :
    ∀ n i, lv - i < n → i ≤ lv → (∀ p, p < i → ¬ (bt (aC p) x = true ∧ (bt en p = true ∨ ∃ v, 1 ≤ v ∧ v ≤ tp p ∧ (v < tp p ∨ ¬ aE p = 0) ∧ ¬ hx (bs p + v - 1) = 0))) →
    wX_allowed_56 post (nI x) en xL xW xP xT (nI lv) xR xN xH aC aL aT aE aB aF iE iF iL hx n (nI i) := by
  have g1 := G.1
  intro n
  induction n with
  | zero => intro i h; omega
  | succ n ih =>
    intro i hn hi hq
    rcases Nat.lt_or_ge i lv with h | h
    · have cp : (nI i).toNatClampNeg = i := nI_clamp (by omega)
      have next : ¬ (bt (aC i) x = true ∧ (bt en i = true ∨ ∃ v, 1 ≤ v ∧ v ≤ tp i ∧ (v < tp i ∨ ¬ aE i = 0) ∧ ¬ hx (bs i + v - 1) = 0)) → wX_allowed_56 post (nI x) en xL xW xP xT (nI lv) xR xN xH aC aL aT aE aB aF iE iF iL hx n (nI (i + 1)) := by
        intro z
        refine ih (i + 1) (by omega) (by omega) (fun q q1 => ?_)
        by_cases e : q = i
        · subst e; exact z
        · exact hq q (by omega)
      refine br_f (nI_ge h (by omega)) ⟨vp_in_nI (by omega) (by decide), cx_con (by omega) (fun z => br_f cr_10 (cx_con (by omega) (fun w => br_f cr_10 (h1 ⟨i, h, (by rw [cp] at z; exact z), Or.inl w⟩)) (fun w => br_t rfl (cx_go G h (fun k => br_f cr_10 (h1 ⟨i, h, (by rw [cp] at z; exact z), Or.inr k⟩)) (fun k => br_t rfl (nm_r (nI_1 i) (next (fun q => q.2.elim (fun q => by rw [w] at q; exact absurd q (by decide)) k)))))))) (fun z => br_t rfl (nm_r (nI_1 i) (next (fun q => by rw [cp] at z; rw [z] at q; exact absurd q.1 (by decide)))))⟩
    · have e : i = lv := by omega
      subst e
      exact br_t (nI_le (Nat.le_refl i) (by omega)) (h0 (fun ⟨q, q1, q2⟩ => hq q q1 q2))
theorem cy_a56 {post : Int32 → SY → Prop} {J : Int32 → Int32 → Prop} {x p : Nat} {P0 : Prop} (Q : cr_yt lv h N K A B S ln ls lea lno sk ki lf rg) (M : cr_mo lv ls tp lea mo) (hl : lv ≤ 12) (hN : N ≤ 260) (hlN : ∀ p, p < lv → ln p < N) (hp : p < lv) (hx : x < 8)
    (H : ∀ r, (r = 0 ∨ r = 1) → (¬ r = 0 ↔ P0 ∨ ∃ w, 1 ≤ w ∧ w ≤ tp p ∧ cr_V ma mo hy tp (fun p => ¬ be (ln p) = 0) x p w) → J r (nI (p + 1))) :
    ∀ m v r, tp p + 1 - v < m → 1 ≤ v → v ≤ tp p + 1 → (r = 0 ∨ r = 1) → (¬ r = 0 ↔ P0 ∨ ∃ w, 1 ≤ w ∧ w < v ∧ cr_V ma mo hy tp (fun p => ¬ be (ln p) = 0) x p w) →
    wY_allowed_56 post J (nI x) (nI p) (nI (tp p)) yM yC yP yT yL yN yR yG yH yX ma lea mo lno sk ki lf rg hy nx be dn m r (nI v) := by
  obtain ⟨m1, m2, m3, m4, m5⟩ := M p hp
  intro m
  induction m with
  | zero => intro v r h; omega
  | succ m ih =>
    intro v r hm v1 v2 r01 hr
    rcases Nat.lt_or_ge (tp p) v with hlt | hge
    · refine br_t (nI_lt hlt (by omega)) (nm_r (nI_1 p) (H r r01 (hr.trans ⟨fun k => k.elim Or.inl (fun ⟨w, w1, w2, w3⟩ => Or.inr ⟨w, w1, by omega, w3⟩), fun k => k.elim Or.inl (fun ⟨w, w1, w2, w3⟩ => Or.inr ⟨w, w1, by omega, w3⟩)⟩)))
    · refine br_f (nI_nlt hge (by omega)) (cy_fol Q M hl hN hlN hp hx v1 (by omega) (fun z => br_f cr_10 (nm_r (nI_1 v) (ih (v + 1) 1 (by omega) (by omega) (by omega) (Or.inr rfl) ⟨fun _ => Or.inr ⟨v, v1, by omega, z⟩, fun _ => cr_10⟩))) (fun z => br_t rfl (nm_r (nI_1 v) (ih (v + 1) r (by omega) (by omega) (by omega) r01 (hr.trans ?_)))))
      constructor
      · rintro (k | ⟨w, w1, w2, w3⟩)
        · exact Or.inl k
        · exact Or.inr ⟨w, w1, by omega, w3⟩
      · rintro (k | ⟨w, w1, w2, w3⟩)
        · exact Or.inl k
        · by_cases e : w = v
          · subst e; exact absurd w3 z
          · exact Or.inr ⟨w, w1, by omega, w3⟩
theorem cy_a27 {post : Int32 → SY → Prop} {x : Nat} (Q : cr_yt lv h N K A B S ln ls lea lno sk ki lf rg) (M : cr_mo lv ls tp lea mo) (hl : lv ≤ 12) (hN : N ≤ 260) (hlN : ∀ p, p < lv → ln p < N) (hx : x < 8)
    (H : ∀ r, (r = 0 ∨ r = 1) → (¬ r = 0 ↔ ∃ q, q < lv ∧ ∃ w, 1 ≤ w ∧ w ≤ tp q ∧ cr_V ma mo hy tp (fun p => ¬ be (ln p) = 0) x q w) → post r (yM, yC, yP, yT, nI lv, yN, yR, yG, yH, yX, ma, lea, mo, lno, sk, ki, lf, rg, hy, nx, be, dn)) :
    ∀ m p r, lv - p < m → p ≤ lv → (r = 0 ∨ r = 1) → (¬ r = 0 ↔ ∃ q, q < p ∧ ∃ w, 1 ≤ w ∧ w ≤ tp q ∧ cr_V ma mo hy tp (fun p => ¬ be (ln p) = 0) x q w) →
    wY_allowed_27 post (nI x) yM yC yP yT (nI lv) yN yR yG yH yX ma lea mo lno sk ki lf rg hy nx be dn m r (nI p) := by
  intro m
  induction m with
  | zero => intro p r h; omega
  | succ m ih =>
    intro p r hm hp r01 hr
    rcases Nat.lt_or_ge p lv with hlt | hge
    · have hi : vp_in (nI p) 12 := vp_in_nI (by omega) (by decide)
      have cp : (nI p).toNatClampNeg = p := nI_clamp (by omega)
      have o1 : lv - (p + 1) < m := by clear hr; omega
      refine br_f (nI_ge hlt (by omega)) ⟨hi, hi, ?_⟩
      rw [cp]
      refine cy_top M hlt ⟨tp p + 1, cy_a56 (P0 := ∃ q, q < p ∧ ∃ w, 1 ≤ w ∧ w ≤ tp q ∧ cr_V ma mo hy tp (fun p => ¬ be (ln p) = 0) x q w) Q M hl hN hlN hlt hx (fun r' r01' hr' => ih (p + 1) r' o1 hlt r01' (hr'.trans ?_)) (tp p + 1) 1 r (by omega) (by omega) (by omega) r01 (hr.trans ⟨Or.inl, fun k => k.elim id (fun ⟨w, w1, w2, _⟩ => by omega)⟩)⟩
      constructor
      · rintro (⟨q, q1, q2⟩ | k)
        · exact ⟨q, by omega, q2⟩
        · exact ⟨p, by omega, k⟩
      · rintro ⟨q, q1, q2⟩
        by_cases e : q = p
        · subst e; exact Or.inr q2
        · exact Or.inl ⟨q, by omega, q2⟩
    · have e : p = lv := by omega
      subst e
      exact br_t (nI_le hge (by omega)) ⟨cr_nn r01, H r r01 hr⟩
theorem cy_al {post : Int32 → SY → Prop} {x : Nat} (T : cr_tr lv (h + 1) N K A B S ln ls par E F L) (Q : cr_yt lv (h + 1) N K A B S ln ls lea lno sk ki lf rg) (M : cr_mo lv ls tp lea mo) (hN : N ≤ 260) (hl : lv ≤ 12) (hh : h < 16) (b01 : cr_01 be) (d01 : cr_01 dn) (hx : x < 8)
    (H : ∀ be' dn' yX' r, cr_01 be' → cr_01 dn' → (r = 0 ∨ r = 1) → (¬ r = 0 ↔ ∃ q, q < lv ∧ ∃ w, 1 ≤ w ∧ w ≤ tp q ∧ cr_V ma mo hy tp (cr_en (cr_ys yP yG) (S h) N K A B F L (cr_cy lv hy ls)) x q w) → post r (yM, yC, yP, nI (h + 1), nI lv, nI N, yR, yG, yH, yX', ma, lea, mo, lno, sk, ki, lf, rg, hy, nx, be', dn')) :
    wpY_allowed post (yM, yC, yP, nI (h + 1), nI lv, nI N, yR, yG, yH, yX, ma, lea, mo, lno, sk, ki, lf, rg, hy, nx, be, dn) (nI x) := by
  have hs : ∀ p, p < lv → ls p ≤ 224 := fun p hp => by have := M p hp; omega
  refine br_f (nI_pos (by omega)) (br_f (nI_nlt (a := 7) (by omega) (by omega)) (br_f (nI_ne0 (by omega) (by omega)) (cy_sp T Q hN hl hh hs b01 d01 (fun be' dn' yX' b' d' r1 r2 => ?_))))
  refine ⟨lv + 1, cy_a27 (yT := nI (h + 1)) (yN := nI N) (be := be') Q M hl hN (fun p hp => (T.2.2 p hp).1) hx (fun r r01 hr => H be' dn' yX' r b' d' r01 (hr.trans ?_)) (lv + 1) 0 0 (by omega) (by omega) (Or.inl rfl) ⟨fun k => absurd rfl k, fun ⟨q, q1, _⟩ => by omega⟩⟩
  constructor
  · rintro ⟨q, q1, w, w1, w2, w3⟩
    exact ⟨q, q1, w, w1, w2, (cr_Vc r2 q1).mp w3⟩
  · rintro ⟨q, q1, w, w1, w2, w3⟩
    exact ⟨q, q1, w, w1, w2, (cr_Vc r2 q1).mpr w3⟩
/-! Y drops all -/
theorem cy_drl {post : SY → Prop} (H : ∀ g, cr_01 g → (∀ j, j < 2700 → g j = 0) → post (yM, yC, yP, yT, yL, yN, yR, yG, yH, yX, ma, lea, mo, lno, sk, ki, lf, rg, g, nx, be, dn)) : ∀ m i g, 2700 - i < m → i ≤ 2700 → cr_01 g → (∀ j, j < i → g j = 0) → wY_dropAll_2 post yM yC yP yT yL yN yR yG yH yX m (nI i) ma lea mo lno sk ki lf rg g nx be dn := by
  intro m
  induction m with
  | zero => intro i g h; omega
  | succ m ih =>
    intro i g hm hi h01 hj
    rcases Nat.lt_or_ge i 2700 with hlt | hge
    · refine br_f (nI_ge (b := 2700) hlt (by decide)) ⟨vp_in_nI hlt (by decide), nm_r (cr_ub0 (by omega)) (nm_r (nI_1 i) (ih (i + 1) _ (by omega) (by omega) (cr_01u h01 (Or.inl rfl)) (fun j hj' => ?_)))⟩
      by_cases e : j = i
      · subst e; exact pk_us
      · rw [pk_un e]; exact hj j (by omega)
    · exact br_t (nI_le (a := 2700) hge (by omega)) (H g h01 (fun j hj' => hj j (by omega)))
theorem cy_dr {post : SY → Prop} (h01 : cr_01 hy) (H : ∀ g, cr_01 g → (∀ j, j < 2700 → g j = 0) → post (yM, yC, yP, yT, yL, yN, yR, yG, yH, yX, ma, lea, mo, lno, sk, ki, lf, rg, g, nx, be, dn)) : wpY_dropAll post (yM, yC, yP, yT, yL, yN, yR, yG, yH, yX, ma, lea, mo, lno, sk, ki, lf, rg, hy, nx, be, dn) :=
  ⟨2701, cy_drl H 2701 0 hy (by omega) (by omega) h01 (fun j hj => by omega)⟩
end CRQ
end
section
section CRR
/-! the relation -/
def cr_dy (lv : Nat) (tp bs : Nat → Nat) (hx hy : Nat → Int32) : Prop := ∀ p v, p < lv → 1 ≤ v → v < 225 → (v ≤ tp p → hx (bs p + v - 1) = hy (p * 225 + v)) ∧ (tp p < v → hy (p * 225 + v) = 0)
def cr_S (li ce rm lv h N : Nat) (K A B S ln ls tp bs par : Nat → Nat) (E : Nat → Prop) (F L : Nat → Nat → Prop) (aL aT aE aB aF iE iF iL mo lno sk ki lf rg : Nat → Int32) : Prop :=
  (2 ≤ li ∧ li ≤ 12 ∧ 8 ≤ ce ∧ ce ≤ 224 ∧ rm ≤ ce ∧ lv ≤ li ∧ h ≤ lv ∧ N + h ≤ (ce - rm) + lv) ∧
  cr_lf lv ls tp bs aL aT aE aB ∧ (∀ p, p < lv → bs p + tp p ≤ ce - rm) ∧ cr_mo lv ls tp aL mo ∧ (∀ p, p < lv → (¬ aE p = 0 ↔ mo p = -1)) ∧
  cr_tr lv h N K A B S ln ls par E F L ∧ cr_yt lv h N K A B S ln ls aL lno sk ki lf rg ∧
  (∀ i, i < h → (¬ iE i = 0 ↔ E (S i)) ∧ (∀ p, p < 12 → (bt (iF i) p = true ↔ F (S i) p)) ∧ (∀ p, p < 12 → (bt (iL i) p = true ↔ L (S i) p))) ∧
  (∀ q, q < lv → ∀ p, p < 12 → (bt (aF q) p = true ↔ cr_fo N K A B F L q p))
def cr_D (ph : Int32) (h len lv : Nat) (tp bs : Nat → Nat) (hx hy be dn : Nat → Int32) : Prop :=
  cr_dy lv tp bs hx hy ∧ cr_01 hx ∧ cr_01 hy ∧ cr_01 be ∧ cr_01 dn ∧ len ≤ 4000 ∧ (ph = 0 ∨ ph = 1 ∨ ph = 2) ∧ (¬ ph = 0 → h = 1) ∧ (ph = 0 → (∀ j, j < 224 → hx j = 0) ∧ ∀ j, j < 2700 → hy j = 0)
def i_Rel (_ : Nat) (u : SX) (v : SY) : Prop :=
  ∃ (li ce rm lv h N len : Nat) (K A B S ln ls tp bs par : Nat → Nat) (E : Nat → Prop) (F L : Nat → Nat → Prop) (ph hit yX : Int32) (aC aL aT aE aB aF iE iF iL hx mo lno sk ki lf rg hy nx be dn : Nat → Int32),
    u = (nI li, nI ce, ph, nI h, nI lv, nI rm, nI len, hit, aC, aL, aT, aE, aB, aF, iE, iF, iL, hx) ∧
    v = (nI li, nI ce, ph, nI h, nI lv, nI N, nI rm, nI len, hit, yX, aC, aL, mo, lno, sk, ki, lf, rg, hy, nx, be, dn) ∧
    cr_S li ce rm lv h N K A B S ln ls tp bs par E F L aL aT aE aB aF iE iF iL mo lno sk ki lf rg ∧ cr_D ph h len lv tp bs hx hy be dn
variable {k li ce rm lv h N len : Nat} {K A B S ln ls tp bs par : Nat → Nat} {E : Nat → Prop} {F L : Nat → Nat → Prop} {ph hit yX : Int32} {aC aL aT aE aB aF iE iF iL hx mo lno sk ki lf rg hy nx be dn : Nat → Int32}
theorem cr_mk (HS : cr_S li ce rm lv h N K A B S ln ls tp bs par E F L aL aT aE aB aF iE iF iL mo lno sk ki lf rg) (HD : cr_D ph h len lv tp bs hx hy be dn) : i_Rel k (nI li, nI ce, ph, nI h, nI lv, nI rm, nI len, hit, aC, aL, aT, aE, aB, aF, iE, iF, iL, hx) (nI li, nI ce, ph, nI h, nI lv, nI N, nI rm, nI len, hit, yX, aC, aL, mo, lno, sk, ki, lf, rg, hy, nx, be, dn) :=
  ⟨li, ce, rm, lv, h, N, len, K, A, B, S, ln, ls, tp, bs, par, E, F, L, ph, hit, yX, aC, aL, aT, aE, aB, aF, iE, iF, iL, hx, mo, lno, sk, ki, lf, rg, hy, nx, be, dn, rfl, rfl, HS, HD⟩
/-- nothing is built -/
theorem cr_S0 (h1 : 2 ≤ li) (h2 : li ≤ 12) (h3 : 8 ≤ ce) (h4 : ce ≤ 224) : cr_S li ce ce 0 0 0 K A B S ln ls tp bs par E F L aL aT aE aB aF iE iF iL mo lno sk ki lf rg :=
  ⟨⟨h1, h2, h3, h4, Nat.le_refl _, by omega, Nat.le_refl _, by omega⟩, ⟨by omega, fun p hp => by omega, fun p q _ hq => by omega⟩, fun p hp => by omega, fun p hp => by omega, fun p hp => by omega,
   ⟨fun n hn => by omega, fun i hi => by omega, fun p hp => by omega⟩, ⟨fun n hn => by omega, fun i hi => by omega, fun p hp => by omega⟩, fun i hi => by omega, fun q hq => by omega⟩
theorem cr_D0 (x01 : cr_01 hx) (y01 : cr_01 hy) (b01 : cr_01 be) (d01 : cr_01 dn) (x0 : ∀ j, j < 224 → hx j = 0) (y0 : ∀ j, j < 2700 → hy j = 0) : cr_D 0 0 0 0 tp bs hx hy be dn :=
  ⟨fun p v hp => by omega, x01, y01, b01, d01, by omega, Or.inl rfl, fun z => absurd rfl z, fun _ => ⟨x0, y0⟩⟩
/-! what X and Y reckon alike -/
theorem cr_CC (HS : cr_S li ce rm lv h N K A B S ln ls tp bs par E F L aL aT aE aB aF iE iF iL mo lno sk ki lf rg) (dy : cr_dy lv tp bs hx hy) {q : Nat} (hq : q < lv) : cr_C hx ls tp bs q ↔ cr_cy lv hy ls q := by
  have hm := HS.2.2.2.1 q hq
  constructor
  · rintro ⟨v, v1, v2, v3, v4⟩
    rw [(dy q v hq v1 (by omega)).1 v3] at v4
    exact ⟨hq, v, v1, by omega, v2, v4⟩
  · rintro ⟨_, v, v1, v2, v3, v4⟩
    rcases Nat.lt_or_ge (tp q) v with z | z
    · exact absurd ((dy q v hq v1 v2).2 z) v4
    · rw [← (dy q v hq v1 v2).1 z] at v4
      exact ⟨v, v1, v3, z, v4⟩
theorem cr_ss {g : Int32} (h12 : ph = 1 ∨ ph = 2) : (ph = 2 ∨ g = 0) ↔ cr_ys ph g := by
  unfold cr_ys
  rcases h12 with z | z
  · subst z
    exact ⟨fun k => k.elim (fun k => absurd k (by decide)) Or.inr, fun k => k.elim (fun k => absurd rfl k) Or.inr⟩
  · subst z
    exact ⟨fun _ => Or.inl (by decide), fun _ => Or.inl rfl⟩
theorem cr_AA {g : Int32} (HS : cr_S li ce rm lv 1 N K A B S ln ls tp bs par E F L aL aT aE aB aF iE iF iL mo lno sk ki lf rg) (dy : cr_dy lv tp bs hx hy) (h12 : ph = 1 ∨ ph = 2) : cr_xa ph g lv (cr_C hx ls tp bs) iE iL ↔ cr_ya ph g (S 0) lv E L hy ls := by
  obtain ⟨i1, i2, i3⟩ := HS.2.2.2.2.2.2.2.1 0 (by omega)
  have hl := HS.2.1.1
  unfold cr_xa cr_ya
  rw [cr_ss h12, i1]
  constructor
  · rintro (k | ⟨q, q1, q2, q3⟩)
    · exact Or.inl k
    · exact Or.inr ⟨q, (i3 q (by omega)).mp q2, (cr_CC HS dy q1).mp q3⟩
  · rintro (k | ⟨q, q1, q2⟩)
    · exact Or.inl k
    · have hq := q2.1
      exact Or.inr ⟨q, hq, (i3 q (by omega)).mpr q1, (cr_CC HS dy hq).mpr q2⟩
theorem cr_EE {g : Int32} (HS : cr_S li ce rm lv 1 N K A B S ln ls tp bs par E F L aL aT aE aB aF iE iF iL mo lno sk ki lf rg) (dy : cr_dy lv tp bs hx hy) (h12 : ph = 1 ∨ ph = 2) {p : Nat} (hp : p < lv) :
    cr_xn ph g lv (cr_C hx ls tp bs) aF iF p ↔ cr_en (cr_ys ph g) (S 0) N K A B F L (cr_cy lv hy ls) p := by
  obtain ⟨i1, i2, i3⟩ := HS.2.2.2.2.2.2.2.1 0 (by omega)
  have hf := HS.2.2.2.2.2.2.2.2
  have hl := HS.2.1.1
  unfold cr_xn cr_en
  rw [cr_ss h12, i2 p (by omega)]
  constructor
  · rintro (k | ⟨q, q1, q2, q3⟩)
    · exact Or.inl k
    · exact Or.inr ⟨q, (cr_CC HS dy q1).mp q2, (hf q q1 p (by omega)).mp q3⟩
  · rintro (k | ⟨q, q2, q3⟩)
    · exact Or.inl k
    · have hq := q2.1
      exact Or.inr ⟨q, hq, (cr_CC HS dy hq).mpr q2, (hf q hq p (by omega)).mpr q3⟩
theorem cr_WV {en en' : Nat → Prop} {x p v : Nat} (HS : cr_S li ce rm lv h N K A B S ln ls tp bs par E F L aL aT aE aB aF iE iF iL mo lno sk ki lf rg) (dy : cr_dy lv tp bs hx hy) (hp : p < lv) (he : en p ↔ en' p) (v1 : 1 ≤ v) (v2 : v ≤ tp p) :
    cr_W aC aE hx tp bs en x p v ↔ cr_V aC mo hy tp en' x p v := by
  have hm := HS.2.2.2.1 p hp
  have he2 := HS.2.2.2.2.1 p hp
  have e1 : hx (bs p + v - 1) = hy (p * 225 + v) := (dy p v hp v1 (by omega)).1 v2
  have e2 : 1 < v → hx (bs p + v - 2) = hy (p * 225 + v - 1) := by
    intro z
    have := (dy p (v - 1) hp (by omega) (by omega)).1 (by omega)
    rw [show bs p + (v - 1) - 1 = bs p + v - 2 by omega, show p * 225 + (v - 1) = p * 225 + v - 1 by omega] at this
    exact this
  unfold cr_W cr_V
  rw [he, he2, e1]
  constructor
  · rintro ⟨a, k | ⟨k1, k2⟩ | k⟩
    · exact ⟨a, Or.inl k⟩
    · rw [e2 k1] at k2; exact ⟨a, Or.inr (Or.inl ⟨k1, k2⟩)⟩
    · exact ⟨a, Or.inr (Or.inr k)⟩
  · rintro ⟨a, k | ⟨k1, k2⟩ | k⟩
    · exact ⟨a, Or.inl k⟩
    · rw [← e2 k1] at k2; exact ⟨a, Or.inr (Or.inl ⟨k1, k2⟩)⟩
    · exact ⟨a, Or.inr (Or.inr k)⟩
theorem cr_e01 {a b : Int32} (ha : a = 0 ∨ a = 1) (hb : b = 0 ∨ b = 1) (e : ¬ a = 0 ↔ ¬ b = 0) : a = b := by
  rcases ha with rfl | rfl
  · rcases hb with rfl | rfl
    · rfl
    · exact absurd rfl (e.mpr cr_10)
  · rcases hb with rfl | rfl
    · exact absurd rfl (e.mp cr_10)
    · rfl
end CRR
end
section
section CRO
/-! owed: the start, clear, leaf, op -/
theorem i_up {k : Nat} {u : SX} {v : SY} (h : i_Rel k u v) : i_Rel (k + 4) u v := h
theorem cr_clamp (x : Int32) {a b : Nat} (hab : a ≤ b) (hb : b < 2 ^ 31) : ∃ j, a ≤ j ∧ j ≤ b ∧ ∀ P : Int32 → Prop, P (nI j) → ((nI a ≤ x → ((x ≤ nI b → P x) ∧ (¬ x ≤ nI b → P (nI b)))) ∧ (¬ nI a ≤ x → P (nI a))) := by
  by_cases h : nI a ≤ x
  · by_cases h2 : x ≤ nI b
    · have h0 : ¬ x < 0 := Int32.not_lt.mpr (Int32.le_trans (nI_pos' (by omega)) h)
      obtain ⟨j, hj, rfl⟩ := nI_of h0
      rw [nI_leI (by omega) hj] at h
      rw [nI_leI hj hb] at h2
      exact ⟨j, h, h2, fun P p => br_t (nI_le h hj) (br_t (nI_le h2 hb) p)⟩
    · exact ⟨b, hab, Nat.le_refl b, fun P p => br_t h (br_f h2 p)⟩
  · exact ⟨a, Nat.le_refl a, hab, fun P p => br_f h p⟩
variable {k li ce rm lv h N len : Nat} {K A B S ln ls tp bs par : Nat → Nat} {E : Nat → Prop} {F L : Nat → Nat → Prop} {ph hit yX : Int32} {aC aL aT aE aB aF iE iF iL hx mo lno sk ki lf rg hy nx be dn : Nat → Int32}
variable {xP xT xC xR xN xH yM yC yP yT yL yN yR yG yH : Int32} {ma lea : Nat → Int32}
theorem cx_so {post : SX → Prop} (h01 : cr_01 hx) (H : ∀ g, cr_01 g → (∀ j, j < 224 → g j = 0) → post (nI li, nI ce, 0, 0, 0, nI ce, 0, -1, aC, aL, aT, aE, aB, aF, iE, iF, iL, g)) : wpX_startOver post (nI li, nI ce, xP, xT, xC, xR, xN, xH, aC, aL, aT, aE, aB, aF, iE, iF, iL, hx) :=
  cx_dr (xN := xN) (xH := xH) h01 H
theorem cy_cl {post : SY → Prop} (h01 : cr_01 hy) (H : ∀ g, cr_01 g → (∀ j, j < 2700 → g j = 0) → post (nI li, nI ce, 0, 0, 0, 0, nI ce, 0, -1, yX, ma, lea, mo, lno, sk, ki, lf, rg, g, nx, be, dn)) : wpY_clear post (nI li, nI ce, yP, yT, yL, yN, yR, yG, yH, yX, ma, lea, mo, lno, sk, ki, lf, rg, hy, nx, be, dn) :=
  cy_dr h01 H
theorem cr_z01 : cr_01 (fun _ => 0) := fun _ => Or.inl rfl
theorem i_vc0 (k0 : Int32) (k1 : Int32) : wpX_init (fun u => wpY_init (fun v => i_Rel 2 u v) k0 k1) k0 k1 := by
  obtain ⟨li, l1, l2, hl⟩ := cr_clamp k0 (a := 2) (b := 12) (by decide) (by decide)
  obtain ⟨ce, c1, c2, hc⟩ := cr_clamp k1 (a := 8) (b := 224) (by decide) (by decide)
  refine hl (fun r => wpX_clamped (fun r_2 => wpX_startOver (fun u => match u with | (xL, xW, xP, xT, xC, xR, xN, xH, aC, aL, aT, aE, aB, aF, iE, iF, iL, hx) => (fun u => wpY_init (fun v => i_Rel 2 u v) k0 k1) (xL, xW, xP, xT, xC, xR, xN, xH, aC, aL, aT, aE, aB, aF, iE, iF, iL, hx)) (r, r_2, 0, 0, 0, 0, 0, 0, (fun _ => 0), (fun _ => 0), (fun _ => 0), (fun _ => 0), (fun _ => 0), (fun _ => 0), (fun _ => 0), (fun _ => 0), (fun _ => 0), (fun _ => 0))) k1 8 224) ?_
  refine hc (fun r => wpX_startOver (fun u => match u with | (xL, xW, xP, xT, xC, xR, xN, xH, aC, aL, aT, aE, aB, aF, iE, iF, iL, hx) => (fun u => wpY_init (fun v => i_Rel 2 u v) k0 k1) (xL, xW, xP, xT, xC, xR, xN, xH, aC, aL, aT, aE, aB, aF, iE, iF, iL, hx)) (nI li, r, 0, 0, 0, 0, 0, 0, (fun _ => 0), (fun _ => 0), (fun _ => 0), (fun _ => 0), (fun _ => 0), (fun _ => 0), (fun _ => 0), (fun _ => 0), (fun _ => 0), (fun _ => 0))) ?_
  refine cx_so cr_z01 (fun g x01 x0 => ?_)
  refine hl (fun r => wY_init_129 _ k1 r _ _ _ _ _ _ _ _ _ _ _ _ _ _ _ _ _ _ _ _ _ _) ?_
  refine hc (fun r => wY_init_158 _ r _ _ _ _ _ _ _ _ _ _ _ _ _ _ _ _ _ _ _ _ _ _) ?_
  refine cy_cl cr_z01 (fun g' y01 y0 => ?_)
  exact cr_mk (rm := ce) (lv := 0) (h := 0) (N := 0) (len := 0) (K := fun _ => 0) (A := fun _ => 0) (B := fun _ => 0) (S := fun _ => 0) (ln := fun _ => 0) (ls := fun _ => 0) (tp := fun _ => 0) (bs := fun _ => 0) (par := fun _ => 0) (E := fun _ => True) (F := fun _ _ => True) (L := fun _ _ => True)
    (cr_S0 l1 l2 c1 c2) (cr_D0 x01 y01 cr_z01 cr_z01 x0 y0)
theorem i_vc_clear {k : Nat} {u : SX} {v : SY} (I : i_Rel k u v) (hk : k + 4 ≤ 2050) : wpX_clear (fun u' => wpY_clear (fun v' => i_Rel (k + 4) u' v') v) u := by
  obtain ⟨li, ce, rm, lv, h, N, len, K, A, B, S, ln, ls, tp, bs, par, E, F, L, ph, hit, yX, aC, aL, aT, aE, aB, aF, iE, iF, iL, hx, mo, lno, sk, ki, lf, rg, hy, nx, be, dn, rfl, rfl, HS, HD⟩ := I
  obtain ⟨⟨n1, n2, n3, n4, n5, n6, n7, n8⟩, _⟩ := HS
  unfold wpX_clear
  refine cx_so HD.2.1 (fun g x01 x0 => ?_)
  refine cy_cl HD.2.2.1 (fun g' y01 y0 => ?_)
  exact cr_mk (rm := ce) (lv := 0) (h := 0) (N := 0) (len := 0) (K := fun _ => 0) (A := fun _ => 0) (B := fun _ => 0) (S := fun _ => 0) (ln := fun _ => 0) (ls := fun _ => 0) (tp := fun _ => 0) (bs := fun _ => 0) (par := fun _ => 0) (E := fun _ => True) (F := fun _ _ => True) (L := fun _ _ => True)
    (cr_S0 n1 n2 n3 n4) (cr_D0 x01 y01 HD.2.2.2.1 HD.2.2.2.2.1 x0 y0)
/-! leaf -/
theorem cx_bf {post : Int32 → Prop} {w : Int32} {l t : Nat} (hl2 : l < 2 ^ 31) (ht2 : t < 2 ^ 31) (t1 : 1 ≤ t) (hl : l ≤ t) (hw : w = -1 ∨ (¬ w = -1 ∧ w = nI t)) (H : post 1) : wpX_boundsFit post (nI l) w := by
  refine br_t (nI_pos' hl2) ?_
  rcases hw with z | ⟨z, z2⟩
  · exact br_t z H
  · exact br_f z (br_f (by rw [z2]; exact nI_nlt (b := 1) t1 ht2) (br_f (by rw [z2]; exact nI_nlt hl ht2) H))
def cr_w (w : Int32) (l t : Nat) : Prop := (w = -1 ∧ ((l ≤ 1 ∧ t = 1) ∨ (1 < l ∧ t = l))) ∨ (¬ w = -1 ∧ w = nI t)
theorem cr_wt {w : Int32} {l t : Nat} (h : cr_w w l t) : w = -1 ∨ (¬ w = -1 ∧ w = nI t) := h.elim (fun k => Or.inl k.1) Or.inr
theorem cx_to {post : Int32 → Prop} {w : Int32} {l t : Nat} (hl2 : l < 2 ^ 31) (hw : cr_w w l t) (H : post (nI t)) : wpX_topOf post (nI l) w := by
  rcases hw with ⟨z, z2⟩ | ⟨z, z2⟩
  · refine br_t z (pk_le l 1 (fun q => ?_) (fun q => ?_))
    · rw [show t = 1 by omega] at H; exact H
    · rw [show t = l by omega] at H; exact H
  · rw [← z2] at H
    exact br_f z H
theorem cx_leafF {post : Int32 → SX → Prop} {m w : Int32} {l t : Nat} (hl2 : l < 2 ^ 31) (ht2 : t < 2 ^ 31) (t1 : 1 ≤ t) (hl : l ≤ t) (m1 : ¬ m < 1) (m2 : ¬ 255 < m) (hw : cr_w w l t) (hlv : lv < 2 ^ 31) (hli : li < 2 ^ 31) (hrm : rm < 2 ^ 31)
    (hf : li ≤ lv ∨ rm < t) (H : post (-3) (nI li, nI ce, 0, nI h, nI lv, nI rm, xN, xH, aC, aL, aT, aE, aB, aF, iE, iF, iL, hx)) : wpX_leaf post (nI li, nI ce, 0, nI h, nI lv, nI rm, xN, xH, aC, aL, aT, aE, aB, aF, iE, iF, iL, hx) m (nI l) w := by
  refine br_t rfl (br_f m1 (br_f m2 (cx_bf hl2 ht2 t1 hl (cr_wt hw) (br_f cr_10 (cx_to hl2 hw (pk_le li lv (fun _ => H) (fun z => ?_)))))))
  exact pk_le t rm (fun q => by omega) (fun _ => H)
theorem cx_leaf {post : Int32 → SX → Prop} {m w : Int32} {l t : Nat} (h12 : lv < li) (li12 : li ≤ 12) (hh : h ≤ lv) (hc : rm ≤ ce) (hc2 : ce ≤ 224) (t1 : 1 ≤ t) (ht : t ≤ rm) (hl : l ≤ t) (m1 : ¬ m < 1) (m2 : ¬ 255 < m) (hw : cr_w w l t)
    (H : ∀ e z : Int32, (e = 0 ∨ e = 1) → (¬ e = 0 ↔ w = -1) → (¬ z = 0 ↔ l = 0) → post (nI lv) (nI li, nI ce, 0, nI (h + 1), nI (lv + 1), nI (rm - t), xN, xH, upd aC lv m, upd aL lv (nI l), upd aT lv (nI t), upd aE lv e, upd aB lv (nI (ce - rm)), upd aF lv 0, upd iE h z, upd iF h ((1 : Int32) <<< (nI lv &&& 31)), upd iL h ((1 : Int32) <<< (nI lv &&& 31)), hx)) :
    wpX_leaf post (nI li, nI ce, 0, nI h, nI lv, nI rm, xN, xH, aC, aL, aT, aE, aB, aF, iE, iF, iL, hx) m (nI l) w := by
  have il : vp_in (nI lv) 12 := vp_in_nI (by omega) (by decide)
  have ih : vp_in (nI h) 12 := vp_in_nI (by omega) (by decide)
  have l151 : ∀ e z : Int32, (e = 0 ∨ e = 1) → (¬ e = 0 ↔ w = -1) → (z = 0 ∨ z = 1) → (¬ z = 0 ↔ l = 0) → wX_leaf_151 post (nI t) (nI lv) z (nI h) (nI li) (nI ce) 0 (nI h) (nI lv) (nI rm) xN xH (upd aC lv m) (upd aL lv (nI l)) (upd aT lv (nI t)) (upd aE lv e) (upd aB lv (nI (ce - rm))) (upd aF lv 0) iE iF iL hx := by
    intro e z he hee hz hzz
    exact ⟨ih, nm_r (cr_ub (by omega) hz) ⟨ih, nm_r (cr_ui (by omega)) ⟨ih, nm_r (cr_ui (by omega)) (nm_r (nI_1 h) (nm_r (nI_1 lv) (nm_r (pk_sub ht) (H e z he hee hzz))))⟩⟩⟩
  have l109 : ∀ e : Int32, (e = 0 ∨ e = 1) → (¬ e = 0 ↔ w = -1) → wX_leaf_109 post (nI l) (nI t) (nI lv) e (nI lv) (nI li) (nI ce) 0 (nI h) (nI lv) (nI rm) xN xH (upd aC lv m) (upd aL lv (nI l)) (upd aT lv (nI t)) aE aB aF iE iF iL hx := by
    intro e he hee
    refine ⟨il, nm_r (cr_ub (by omega) he) ⟨il, nm_r (e' := upd aB lv (nI (ce - rm))) (by rw [nI_clamp (by omega), pk_sub hc]) ⟨il, nm_r (cr_ui (by omega)) (pk_eq l 0 (fun z => ?_) (fun z => ?_))⟩⟩⟩
    · exact l151 e 1 he hee (Or.inr rfl) ⟨fun _ => z, fun _ => cr_10⟩
    · exact l151 e 0 he hee (Or.inl rfl) ⟨fun q => absurd rfl q, fun q => absurd q z⟩
  refine br_t rfl (br_f m1 (br_f m2 (cx_bf (by omega) (by omega) t1 hl (cr_wt hw) (br_f cr_10 (cx_to (by omega) hw (br_f (nI_ge h12 (by omega)) (br_t (nI_le ht (by omega)) ⟨il, nm_r (cr_ui (by omega)) ⟨il, nm_r (cr_ui (by omega)) ⟨il, nm_r (cr_ui (by omega)) ?_⟩⟩⟩)))))))
  by_cases z : w = -1
  · exact br_t z (l109 1 (Or.inr rfl) ⟨fun _ => z, fun _ => cr_10⟩)
  · exact br_f z (l109 0 (Or.inl rfl) ⟨fun q => absurd rfl q, fun q => absurd q z⟩)
theorem cy_push {post : SY → Prop} {kd a b : Int32} (hN : N < 260) (hh : h < 16) (H : post (yM, yC, yP, nI (h + 1), yL, nI (N + 1), yR, yG, yH, yX, ma, lea, mo, lno, upd sk h (nI N), upd ki N kd, upd lf N a, upd rg N b, hy, nx, be, dn)) : wpY_push post (yM, yC, yP, nI h, yL, nI N, yR, yG, yH, yX, ma, lea, mo, lno, sk, ki, lf, rg, hy, nx, be, dn) kd a b := by
  have iN : vp_in (nI N) 260 := vp_in_nI hN (by decide)
  exact ⟨iN, nm_r (cr_ui (by omega)) ⟨iN, nm_r (cr_ui (by omega)) ⟨iN, nm_r (cr_ui (by omega)) ⟨vp_in_nI hh (by decide), nm_r (cr_ui (by omega)) (nm_r (nI_1 h) (nm_r (nI_1 N) H))⟩⟩⟩⟩
theorem cy_to {post : Int32 → Prop} {w : Int32} {l t : Nat} (hl2 : l < 2 ^ 31) (hw : cr_w w l t) (H : post (nI t)) : wpY_top post (yM, yC, yP, yT, yL, yN, yR, yG, yH, yX, ma, lea, mo, lno, sk, ki, lf, rg, hy, nx, be, dn) (nI l) w := by
  rcases hw with ⟨z, z2⟩ | ⟨z, z2⟩
  · refine br_t z (pk_le l 1 (fun q => ?_) (fun q => ?_))
    · rw [show t = 1 by omega] at H; exact H
    · rw [show t = l by omega] at H; exact H
  · rw [← z2] at H
    exact br_f z H
theorem cy_l46 {post : Int32 → SY → Prop} {m w : Int32} {l t : Nat} (hl2 : l < 2 ^ 31) (ht2 : t < 2 ^ 31) (t1 : 1 ≤ t) (hl : l ≤ t) (m1 : ¬ m < 1) (m2 : ¬ 255 < m) (hw : cr_w w l t) (H : wY_leaf_46 post m (nI l) w yM yC 0 yT yL yN yR yG yH yX ma lea mo lno sk ki lf rg hy nx be dn) : wpY_leaf post (yM, yC, 0, yT, yL, yN, yR, yG, yH, yX, ma, lea, mo, lno, sk, ki, lf, rg, hy, nx, be, dn) m (nI l) w := by
  refine br_t rfl (br_f m1 (br_f m2 (br_t (nI_pos' hl2) ?_)))
  rcases cr_wt hw with z | ⟨z, z2⟩
  · exact br_t z H
  · exact br_f z (br_f (by rw [z2]; exact nI_nlt (b := 1) t1 ht2) (br_t (by rw [z2]; exact nI_le hl ht2) H))
theorem cy_leafF {post : Int32 → SY → Prop} {m w : Int32} {l t : Nat} (hl2 : l < 2 ^ 31) (ht2 : t < 2 ^ 31) (t1 : 1 ≤ t) (hl : l ≤ t) (m1 : ¬ m < 1) (m2 : ¬ 255 < m) (hw : cr_w w l t) (hlv : lv < 2 ^ 31) (hli : li < 2 ^ 31) (hrm : rm < 2 ^ 31)
    (hf : li ≤ lv ∨ rm < t) (H : post (-3) (nI li, nI ce, 0, yT, nI lv, yN, nI rm, yG, yH, yX, ma, lea, mo, lno, sk, ki, lf, rg, hy, nx, be, dn)) : wpY_leaf post (nI li, nI ce, 0, yT, nI lv, yN, nI rm, yG, yH, yX, ma, lea, mo, lno, sk, ki, lf, rg, hy, nx, be, dn) m (nI l) w := by
  refine cy_l46 hl2 ht2 t1 hl m1 m2 hw ?_
  unfold wY_leaf_46
  refine cy_to hl2 hw (pk_le li lv (fun _ => H) (fun z => pk_le t rm (fun q => by omega) (fun _ => H)))
theorem cy_leaf {post : Int32 → SY → Prop} {m w : Int32} {l t : Nat} (h12 : lv < li) (li12 : li ≤ 12) (hh : h < 16) (hN : N < 260) (hc : rm ≤ ce) (hc2 : ce ≤ 224) (t1 : 1 ≤ t) (ht : t ≤ rm) (hl : l ≤ t) (m1 : ¬ m < 1) (m2 : ¬ 255 < m) (hw : cr_w w l t)
    (H : post (nI (lv + 1) - 1) (nI li, nI ce, 0, nI (h + 1), nI (lv + 1), nI (N + 1), nI (rm - t), yG, yH, yX, upd ma lv m, upd lea lv (nI l), upd mo lv w, upd lno lv (nI N), upd sk h (nI N), upd ki N 0, upd lf N (nI lv), upd rg N 0, hy, nx, be, dn)) :
    wpY_leaf post (nI li, nI ce, 0, nI h, nI lv, nI N, nI rm, yG, yH, yX, ma, lea, mo, lno, sk, ki, lf, rg, hy, nx, be, dn) m (nI l) w := by
  have il : vp_in (nI lv) 12 := vp_in_nI (by omega) (by decide)
  refine cy_l46 (by omega) (by omega) t1 hl m1 m2 hw ?_
  unfold wY_leaf_46
  refine cy_to (by omega) hw (br_f (nI_ge h12 (by omega)) (br_t (nI_le ht (by omega)) ⟨il, nm_r (cr_ui (by omega)) ⟨il, nm_r (cr_ui (by omega)) ⟨il, nm_r (cr_ui (by omega)) ⟨il, nm_r (cr_ui (by omega)) ?_⟩⟩⟩⟩))
  exact cy_push hN hh (nm_r (pk_sub ht) (nm_r (nI_1 lv) H))
theorem cr_dy0 {lv : Nat} {ls tp bs : Nat → Nat} (G : cr_lf lv ls tp bs aL aT aE aB) (x0 : ∀ j, j < 224 → hx j = 0) (y0 : ∀ j, j < 2700 → hy j = 0) : cr_dy lv tp bs hx hy := by
  intro p v hp v1 v2
  have := G.1
  have t3 := (G.2.1 p hp).2.2.2.2.2.2
  refine ⟨fun h => ?_, fun _ => y0 _ (by omega)⟩
  rw [x0 _ (by omega), y0 _ (by omega)]
theorem cr_Slf {w e z : Int32} {l t : Nat} (HS : cr_S li ce rm lv h N K A B S ln ls tp bs par E F L aL aT aE aB aF iE iF iL mo lno sk ki lf rg) (h12 : lv < li) (t1 : 1 ≤ t) (ht : t ≤ rm) (hl : l ≤ t) (hw : cr_w w l t) (he : e = 0 ∨ e = 1) (hee : ¬ e = 0 ↔ w = -1) (hz : ¬ z = 0 ↔ l = 0) :
    cr_S li ce (rm - t) (lv + 1) (h + 1) (N + 1) (cr_u K N 0) (cr_u A N lv) (cr_u B N 0) (cr_u S h N) (cr_u ln lv N) (cr_u ls lv l) (cr_u tp lv t) (cr_u bs lv (ce - rm)) (cr_u par N (1000 + h)) (cr_u E N (l = 0)) (cr_u F N (fun p => p = lv)) (cr_u L N (fun p => p = lv)) (upd aL lv (nI l)) (upd aT lv (nI t)) (upd aE lv e) (upd aB lv (nI (ce - rm))) (upd aF lv 0) (upd iE h z) (upd iF h ((1 : Int32) <<< (nI lv &&& 31))) (upd iL h ((1 : Int32) <<< (nI lv &&& 31))) (upd mo lv w) (upd lno lv (nI N)) (upd sk h (nI N)) (upd ki N 0) (upd lf N (nI lv)) (upd rg N 0) := by
  obtain ⟨⟨n1, n2, n3, n4, n5, n6, n7, n8⟩, ⟨g1, g2, g3⟩, HB, HM, HE, HT, HQ, HI, HF⟩ := HS
  refine ⟨⟨n1, n2, n3, n4, by omega, by omega, by omega, by omega⟩, ⟨by omega, fun p hp => ?_, fun p q hpq hq => ?_⟩, fun p hp => ?_, fun p hp => ?_, fun p hp => ?_, cr_push0 HT (by omega), ⟨fun n hn => ?_, fun i hi => ?_, fun p hp => ?_⟩, fun i hi => ?_, fun q hq p hp => ?_⟩
  · by_cases e' : p = lv
    · subst e'
      rw [pk_us, pk_us, pk_us, pk_us, cr_us, cr_us, cr_us]
      exact ⟨rfl, rfl, rfl, he, t1, hl, by omega⟩
    · rw [pk_un e', pk_un e', pk_un e', pk_un e', cr_un e', cr_un e', cr_un e']
      exact g2 p (by omega)
  · have e' : p ≠ lv := by omega
    rw [cr_un e', cr_un e']
    by_cases e2 : q = lv
    · subst e2
      rw [cr_us]
      exact HB p hpq
    · rw [cr_un e2]
      exact g3 p q hpq (by omega)
  · by_cases e' : p = lv
    · subst e'
      rw [cr_us, cr_us]
      omega
    · rw [cr_un e', cr_un e']
      have := HB p (by omega)
      omega
  · by_cases e' : p = lv
    · subst e'
      rw [pk_us, pk_us, cr_us, cr_us]
      exact ⟨rfl, hl, t1, by omega, hw⟩
    · rw [pk_un e', pk_un e', cr_un e', cr_un e']
      exact HM p (by omega)
  · by_cases e' : p = lv
    · subst e'
      rw [pk_us, pk_us]
      exact hee
    · rw [pk_un e', pk_un e']
      exact HE p (by omega)
  · by_cases e' : n = N
    · subst e'
      rw [pk_us, pk_us, pk_us, cr_us, cr_us, cr_us]
      exact ⟨rfl, rfl, rfl⟩
    · rw [pk_un e', pk_un e', pk_un e', cr_un e', cr_un e', cr_un e']
      exact HQ.1 n (by omega)
  · by_cases e' : i = h
    · subst e'
      rw [pk_us, cr_us]
    · rw [pk_un e', cr_un e']
      exact HQ.2.1 i (by omega)
  · by_cases e' : p = lv
    · subst e'
      rw [pk_us, pk_us, cr_us, cr_us]
      exact ⟨rfl, rfl⟩
    · rw [pk_un e', pk_un e', cr_un e', cr_un e']
      exact HQ.2.2 p (by omega)
  · by_cases e' : i = h
    · subst e'
      rw [pk_us, pk_us, pk_us, cr_us, cr_us, cr_us, cr_us]
      refine ⟨hz, fun p hp => ?_, fun p hp => ?_⟩
      · rw [cr_sl (by omega) (by omega), decide_eq_true_iff]
      · rw [cr_sl (by omega) (by omega), decide_eq_true_iff]
    · have hS := (HT.2.1 i (by omega)).1
      have e2 : S i ≠ N := by omega
      rw [pk_un e', pk_un e', pk_un e', cr_un e', cr_un e2, cr_un e2, cr_un e2]
      exact HI i (by omega)
  · rw [cr_foS HT (fun z => absurd rfl z)]
    have nk : ¬ (((0 : Nat) = 1 ∧ L lv q ∧ F 0 p) ∨ (((0 : Nat) = 3 ∨ (0 : Nat) = 4) ∧ L lv q ∧ F lv p)) := by
      rintro (⟨z, _⟩ | ⟨z, _⟩)
      · exact absurd z (by decide)
      · exact absurd z (by decide)
    by_cases e' : q = lv
    · subst e'
      rw [pk_us, b_0]
      exact ⟨fun z => absurd z (by decide), fun z => z.elim (fun z => absurd (cr_foL HT z).1 (by omega)) (fun z => absurd z nk)⟩
    · rw [pk_un e', HF q (by omega) p hp]
      exact ⟨Or.inl, fun z => z.elim id (fun z => absurd z nk)⟩
theorem i_vc_leaf {k : Nat} {u : SX} {v : SY} (I : i_Rel k u v) (hk : k + 4 ≤ 2050) (v1 : Int32) (v2 : Int32) (v3 : Int32) : wpX_leaf (fun r u' => wpY_leaf (fun r' v' => r' = r ∧ i_Rel (k + 4) u' v') v v1 v2 v3) u v1 v2 v3 := by
  obtain ⟨li, ce, rm, lv, h, N, len, K, A, B, S, ln, ls, tp, bs, par, E, F, L, ph, hit, yX, aC, aL, aT, aE, aB, aF, iE, iF, iL, hx, mo, lno, sk, ki, lf, rg, hy, nx, be, dn, rfl, rfl, HS, HD⟩ := I
  obtain ⟨⟨n1, n2, n3, n4, n5, n6, n7, n8⟩, R⟩ := id HS
  by_cases p0 : ph = 0
  · subst p0
    by_cases a1 : v1 < 1
    · exact br_t rfl (br_t a1 (br_t rfl (br_t a1 ⟨rfl, cr_mk HS HD⟩)))
    · by_cases a2 : 255 < v1
      · exact br_t rfl (br_f a1 (br_t a2 (br_t rfl (br_f a1 (br_t a2 ⟨rfl, cr_mk HS HD⟩)))))
      · by_cases a3 : 0 ≤ v2
        · obtain ⟨l, hl2, rfl⟩ := nI_of (Int32.not_lt.mpr a3)
          have good : ∀ t : Nat, t < 2 ^ 31 → 1 ≤ t → l ≤ t → cr_w v3 l t → wpX_leaf (fun r u' => wpY_leaf (fun r' v' => r' = r ∧ i_Rel (k + 4) u' v') (nI li, nI ce, 0, nI h, nI lv, nI N, nI rm, nI len, hit, yX, aC, aL, mo, lno, sk, ki, lf, rg, hy, nx, be, dn) v1 (nI l) v3) (nI li, nI ce, 0, nI h, nI lv, nI rm, nI len, hit, aC, aL, aT, aE, aB, aF, iE, iF, iL, hx) v1 (nI l) v3 := by
            intro t ht2 t1 hl hw
            by_cases hf : li ≤ lv ∨ rm < t
            · exact cx_leafF hl2 ht2 t1 hl a1 a2 hw (by omega) (by omega) (by omega) hf (cy_leafF hl2 ht2 t1 hl a1 a2 hw (by omega) (by omega) (by omega) hf ⟨rfl, cr_mk HS HD⟩)
            · refine cx_leaf (by omega) n2 n7 n5 n4 t1 (by omega) hl a1 a2 hw (fun e z he hee hz => ?_)
              refine cy_leaf (by omega) n2 (by omega) (by omega) n5 n4 t1 (by omega) hl a1 a2 hw ⟨nI_pred lv, ?_⟩
              have HS' := cr_Slf HS (by omega) t1 (by omega) hl hw he hee hz
              obtain ⟨_, x01, y01, b01, d01, l4, q1, q2, q3⟩ := HD
              obtain ⟨x0, y0⟩ := q3 rfl
              exact cr_mk HS' ⟨cr_dy0 HS'.2.1 x0 y0, x01, y01, b01, d01, l4, q1, fun z => absurd rfl z, q3⟩
          by_cases a4 : v3 = -1
          · by_cases a5 : l ≤ 1
            · exact good 1 (by decide) (by omega) a5 (Or.inl ⟨a4, Or.inl ⟨a5, rfl⟩⟩)
            · exact good l hl2 (by omega) (Nat.le_refl l) (Or.inl ⟨a4, Or.inr ⟨by omega, rfl⟩⟩)
          · by_cases a5 : v3 < 1
            · exact br_t rfl (br_f a1 (br_f a2 (br_t a3 (br_f a4 (br_t a5 (br_t rfl (br_t rfl (br_f a1 (br_f a2 (br_t a3 (br_f a4 (br_t a5 ⟨rfl, cr_mk HS HD⟩))))))))))))
            · by_cases a6 : v3 < nI l
              · exact br_t rfl (br_f a1 (br_f a2 (br_t a3 (br_f a4 (br_f a5 (br_t a6 (br_t rfl (br_t rfl (br_f a1 (br_f a2 (br_t a3 (br_f a4 (br_f a5 (br_f (Int32.not_le.mpr a6) ⟨rfl, cr_mk HS HD⟩))))))))))))))
              · have h0 : ¬ v3 < 0 := fun z => a5 (Int32.lt_trans z (by decide))
                obtain ⟨t, ht, rfl⟩ := nI_of h0
                have t1 : 1 ≤ t := by
                  rcases Nat.lt_or_ge t 1 with z | z
                  · exact absurd (nI_lt (b := 1) z (by decide)) a5
                  · exact z
                have t2 : l ≤ t := by
                  rcases Nat.lt_or_ge t l with z | z
                  · exact absurd (nI_lt z hl2) a6
                  · exact z
                exact good t ht t1 t2 (Or.inr ⟨a4, rfl⟩)
        · exact br_t rfl (br_f a1 (br_f a2 (br_f a3 (br_t rfl (br_t rfl (br_f a1 (br_f a2 (br_f a3 ⟨rfl, cr_mk HS HD⟩))))))))
  · exact br_f p0 (br_f p0 ⟨rfl, cr_mk HS HD⟩)
end CRO
end
section
section CRV
/-! owed: op -/
variable {k li ce rm lv h N len : Nat} {K A B S ln ls tp bs par : Nat → Nat} {E : Nat → Prop} {F L : Nat → Nat → Prop} {ph hit yX : Int32} {aC aL aT aE aB aF iE iF iL hx mo lno sk ki lf rg hy nx be dn : Nat → Int32}
variable {xP xT xC xR xN xH yM yC yP yT yL yN yR yG yH : Int32} {ma lea : Nat → Int32}
theorem cr_Sop {hh rm' kd a c : Nat} {e pe : Prop} {f l pf pl : Nat → Prop} {par' : Nat → Nat} {f' e1 f1 l1 : Nat → Int32} (HS : cr_S li ce rm lv hh N K A B S ln ls tp bs par E F L aL aT aE aB aF iE iF iL mo lno sk ki lf rg) (h1 : h + 1 ≤ hh)
    (T' : cr_tr lv (h + 1) (N + 1) (cr_u K N kd) (cr_u A N a) (cr_u B N c) (cr_u S h N) ln ls par' (cr_u E N e) (cr_u F N f) (cr_u L N l)) (ha : a < N) (hc : c < N)
    (r1 : rm' ≤ rm) (r2 : N + 1 + (h + 1) ≤ (ce - rm') + lv)
    (it : cr_it h iE iF iL e1 f1 l1 pe pf pl) (he : pe ↔ e) (hf : ∀ p, p < 12 → (pf p ↔ f p)) (hl : ∀ p, p < 12 → (pl p ↔ l p))
    (fo : ∀ q, q < lv → ∀ p, p < 12 → (bt (f' q) p = true ↔ bt (aF q) p = true ∨ (kd = 1 ∧ L a q ∧ F c p) ∨ ((kd = 3 ∨ kd = 4) ∧ L a q ∧ F a p))) :
    cr_S li ce rm' lv (h + 1) (N + 1) (cr_u K N kd) (cr_u A N a) (cr_u B N c) (cr_u S h N) ln ls tp bs par' (cr_u E N e) (cr_u F N f) (cr_u L N l) aL aT aE aB f' e1 f1 l1 mo lno (upd sk h (nI N)) (upd ki N (nI kd)) (upd lf N (nI a)) (upd rg N (nI c)) := by
  obtain ⟨⟨n1, n2, n3, n4, n5, n6, n7, n8⟩, G, HB, HM, HE, HT, HQ, HI, HF⟩ := HS
  refine ⟨⟨n1, n2, n3, n4, by omega, n6, by omega, r2⟩, G, fun p hp => ?_, HM, HE, T', ⟨fun n hn => ?_, fun i hi => ?_, HQ.2.2⟩, fun i hi => ?_, fun q hq p hp => ?_⟩
  · have := HB p hp
    omega
  · by_cases e' : n = N
    · subst e'
      rw [pk_us, pk_us, pk_us, cr_us, cr_us, cr_us]
      exact ⟨rfl, rfl, rfl⟩
    · rw [pk_un e', pk_un e', pk_un e', cr_un e', cr_un e', cr_un e']
      exact HQ.1 n (by omega)
  · by_cases e' : i = h
    · subst e'
      rw [pk_us, cr_us]
    · rw [pk_un e', cr_un e']
      exact HQ.2.1 i (by omega)
  · by_cases e' : i = h
    · subst e'
      rw [cr_us, cr_us, cr_us, cr_us]
      exact ⟨it.2.1.trans he, fun p hp => (it.2.2.1 p).trans (hf p hp), fun p hp => (it.2.2.2 p).trans (hl p hp)⟩
    · have hS := (HT.2.1 i (by omega)).1
      have e2 : S i ≠ N := by omega
      obtain ⟨o1, o2, o3⟩ := it.1 i e'
      rw [cr_un e', cr_un e2, cr_un e2, cr_un e2, o1, o2, o3]
      exact HI i (by omega)
  · rw [cr_foS HT (fun _ => ⟨ha, hc⟩), fo q hq p hp, HF q hq p hp]
theorem cr_Dop (HD : cr_D 0 h len lv tp bs hx hy be dn) {h' : Nat} : cr_D 0 h' len lv tp bs hx hy be dn := by
  obtain ⟨d1, x01, y01, b01, d01, l4, q1, q2, q3⟩ := HD
  exact ⟨d1, x01, y01, b01, d01, l4, q1, fun z => absurd rfl z, q3⟩
theorem cy_op2 {post : Int32 → SY → Prop} {kd a c : Nat} (hk : kd = 1 ∨ kd = 2) (hN : N < 260) (hh : h + 2 ≤ 12) (ea : sk h = nI a) (ec : sk (h + 1) = nI c)
    (H : post (nI (h + 1)) (yM, yC, 0, nI (h + 1), yL, nI (N + 1), yR, yG, yH, yX, ma, lea, mo, lno, upd sk h (nI N), upd ki N (nI kd), upd lf N (nI a), upd rg N (nI c), hy, nx, be, dn)) : wpY_op post (yM, yC, 0, nI (h + 2), yL, nI N, yR, yG, yH, yX, ma, lea, mo, lno, sk, ki, lf, rg, hy, nx, be, dn) (nI kd) := by
  have o37 : wY_op_37 post (nI kd) 2 yM yC 0 (nI (h + 2)) yL (nI N) yR yG yH yX ma lea mo lno sk ki lf rg hy nx be dn := by
    refine br_t (nI_le (a := 2) (by omega) (by omega)) (br_f (by decide) (br_f (by decide) (nm_r (e' := nI h) (pk_sub (a := h + 2) (b := 2) (by omega)) ⟨vp_in_nI (by omega) (by decide), ?_⟩)))
    have e1 : nI h + 2 - 1 = nI (h + 1) := (congrArg (· - 1) (nI_add h 2)).trans (nI_pred (h + 1))
    rw [e1, nI_clamp (by omega), nI_clamp (by omega), ea, ec]
    exact ⟨vp_in_nI (by omega) (by decide), cy_push hN (by omega) H⟩
  refine br_t rfl (br_f (nI_nlt (b := 1) (by omega) (by omega)) (br_t (nI_le (b := 5) (by omega) (by decide)) (pk_eq kd 1 (fun _ => o37) (fun _ => pk_eq kd 2 (fun _ => o37) (fun z => by omega)))))
theorem cy_op1 {post : Int32 → SY → Prop} {kd a : Nat} (k3 : 3 ≤ kd) (k5 : kd ≤ 5) (hN : N < 260) (hh : h + 1 ≤ 12) (hr : rm < 1000) (ea : sk h = nI a)
    (H : post (nI (h + 1)) (yM, yC, 0, nI (h + 1), yL, nI (N + 1), nI rm, yG, yH, yX, ma, lea, mo, lno, upd sk h (nI N), upd ki N (nI kd), upd lf N (nI a), upd rg N (nI a), hy, nx, be, dn)) : wpY_op post (yM, yC, 0, nI (h + 1), yL, nI N, nI (rm + 1), yG, yH, yX, ma, lea, mo, lno, sk, ki, lf, rg, hy, nx, be, dn) (nI kd) := by
  have o37 : wY_op_37 post (nI kd) 1 yM yC 0 (nI (h + 1)) yL (nI N) (nI (rm + 1)) yG yH yX ma lea mo lno sk ki lf rg hy nx be dn := by
    refine br_t (nI_le (a := 1) (by omega) (by omega)) (br_t rfl (br_t (nI_le (a := 1) (by omega) (by omega)) (br_t rfl (nm_r (nI_pred rm) (nm_r (e' := nI h) (nI_pred h) ⟨vp_in_nI (by omega) (by decide), ?_⟩)))))
    have e1 : nI h + 1 - 1 = nI h := (congrArg (· - 1) (nI_1 h)).trans (nI_pred h)
    rw [e1, nI_clamp (by omega), ea]
    exact ⟨vp_in_nI (by omega) (by decide), cy_push hN (by omega) H⟩
  refine br_t rfl (br_f (nI_nlt (b := 1) (by omega) (by omega)) (br_t (nI_le (b := 5) (by omega) (by decide)) (pk_eq kd 1 (fun z => by omega) (fun _ => pk_eq kd 2 (fun z => by omega) (fun _ => o37)))))
theorem i_vc_op {k : Nat} {u : SX} {v : SY} (I : i_Rel k u v) (hk : k + 4 ≤ 2050) (v1 : Int32) : wpX_op (fun r u' => wpY_op (fun r' v' => r' = r ∧ i_Rel (k + 4) u' v') v v1) u v1 := by
  obtain ⟨li, ce, rm, lv, h, N, len, K, A, B, S, ln, ls, tp, bs, par, E, F, L, ph, hit, yX, aC, aL, aT, aE, aB, aF, iE, iF, iL, hx, mo, lno, sk, ki, lf, rg, hy, nx, be, dn, rfl, rfl, HS, HD⟩ := I
  obtain ⟨⟨n1, n2, n3, n4, n5, n6, n7, n8⟩, G, HB, HM, HE, HT, HQ, HI, HF⟩ := id HS
  by_cases p0 : ph = 0
  · subst p0
    by_cases a1 : v1 < 1
    · exact br_t rfl (br_t a1 (br_t rfl (br_t a1 ⟨rfl, cr_mk HS HD⟩)))
    · by_cases a2 : v1 ≤ 5
      · have h0 : ¬ v1 < 0 := fun z => a1 (Int32.lt_trans z (by decide))
        obtain ⟨kd, hkd, rfl⟩ := nI_of h0
        have k1 : 1 ≤ kd := by
          rcases Nat.lt_or_ge kd 1 with z | z
          · exact absurd (nI_lt (b := 1) z (by decide)) a1
          · exact z
        have k5 : kd ≤ 5 := (nI_leI (b := 5) hkd (by decide)).mp a2
        by_cases b12 : kd = 1 ∨ kd = 2
        · by_cases hh2 : h < 2
          · have few : ¬ (2 : Int32) ≤ nI h := nI_ge (b := 2) hh2 (by decide)
            have x37 : ∀ {post : Int32 → SX → Prop}, post (-4) (nI li, nI ce, 0, nI h, nI lv, nI rm, nI len, hit, aC, aL, aT, aE, aB, aF, iE, iF, iL, hx) → wX_op_37 post (nI kd) 1 (nI li) (nI ce) 0 (nI h) (nI lv) (nI rm) (nI len) hit aC aL aT aE aB aF iE iF iL hx := fun q => br_f cr_10 (br_f few q)
            have y37 : ∀ {post : Int32 → SY → Prop}, post (-4) (nI li, nI ce, 0, nI h, nI lv, nI N, nI rm, nI len, hit, yX, aC, aL, mo, lno, sk, ki, lf, rg, hy, nx, be, dn) → wY_op_37 post (nI kd) 2 (nI li) (nI ce) 0 (nI h) (nI lv) (nI N) (nI rm) (nI len) hit yX aC aL mo lno sk ki lf rg hy nx be dn := fun q => br_f few q
            refine br_t rfl (br_f a1 (br_t a2 ?_))
            rcases b12 with rfl | rfl
            · exact br_t rfl (x37 (br_t rfl (br_f a1 (br_t a2 (br_t rfl (y37 ⟨rfl, cr_mk HS HD⟩))))))
            · exact br_f (by decide) (br_t rfl (x37 (br_t rfl (br_f a1 (br_t a2 (br_f (by decide) (br_t rfl (y37 ⟨rfl, cr_mk HS HD⟩))))))))
          · obtain ⟨h, rfl⟩ : ∃ h', h = h' + 2 := ⟨h - 2, by omega⟩
            obtain ⟨sa, sa'⟩ := HT.2.1 h (by omega)
            obtain ⟨sc, sc'⟩ := HT.2.1 (h + 1) (by omega)
            obtain ⟨ja, fa, la⟩ := HI h (by omega)
            obtain ⟨jc, fc, lc⟩ := HI (h + 1) (by omega)
            have ea := HQ.2.1 h (by omega)
            have ec := HQ.2.1 (h + 1) (by omega)
            rcases b12 with rfl | rfl
            · refine cx_op1 (by omega) (by omega) (fun f' e1 f1 l1 hf it => ?_)
              refine cy_op2 (kd := 1) (Or.inl rfl) (by omega) (by omega) ea ec ⟨rfl, cr_mk (cr_Sop HS (by omega) (cr_push2 (k := 1) (e := E (S h) ∧ E (S (h + 1))) (f := fun p => F (S h) p ∨ (E (S h) ∧ F (S (h + 1)) p)) (l := fun p => L (S (h + 1)) p ∨ (E (S (h + 1)) ∧ L (S h) p)) HT (by omega) rfl rfl (Or.inl ⟨rfl, Iff.rfl, fun p => Iff.rfl, fun p => Iff.rfl⟩)) sa sc (Nat.le_refl _) (by omega) it ?_ (fun p hp => ?_) (fun p hp => ?_) (fun q hq p hp => ?_)) (cr_Dop HD)⟩
              · rw [ja, jc]
              · rw [fa p hp, ja, fc p hp]
              · rw [lc p hp, jc, la p hp]
              · rw [hf q hq p, la q (by omega), fc p hp]
                exact ⟨fun z => z.elim Or.inl (fun z => Or.inr (Or.inl ⟨rfl, z⟩)), fun z => z.elim Or.inl (fun z => z.elim (fun z => Or.inr z.2) (fun z => absurd z.1 (by decide)))⟩
            · refine cx_op2 (by omega) (fun e1 f1 l1 it => ?_)
              refine cy_op2 (kd := 2) (Or.inr rfl) (by omega) (by omega) ea ec ⟨rfl, cr_mk (cr_Sop HS (by omega) (cr_push2 (k := 2) (e := E (S h) ∨ E (S (h + 1))) (f := fun p => F (S h) p ∨ F (S (h + 1)) p) (l := fun p => L (S h) p ∨ L (S (h + 1)) p) HT (by omega) rfl rfl (Or.inr ⟨rfl, Iff.rfl, fun p => Iff.rfl, fun p => Iff.rfl⟩)) sa sc (Nat.le_refl _) (by omega) it ?_ (fun p hp => ?_) (fun p hp => ?_) (fun q hq p hp => ?_)) (cr_Dop HD)⟩
              · rw [ja, jc]
              · rw [fa p hp, fc p hp]
              · rw [la p hp, lc p hp]
              · exact ⟨Or.inl, fun z => z.elim id (fun z => z.elim (fun z => absurd z.1 (by decide)) (fun z => absurd z.1 (by decide)))⟩
        · have nb1 : kd ≠ 1 := fun z => b12 (Or.inl z)
          have nb2 : kd ≠ 2 := fun z => b12 (Or.inr z)
          have i1 : ¬ nI kd = 1 := fun z => nb1 ((nI_eq (b := 1) hkd (by decide)).mp z)
          have i2 : ¬ nI kd = 2 := fun z => nb2 ((nI_eq (b := 2) hkd (by decide)).mp z)
          by_cases hh1 : h < 1
          · have few : ¬ (1 : Int32) ≤ nI h := nI_ge (b := 1) hh1 (by decide)
            exact br_t rfl (br_f a1 (br_t a2 (br_f i1 (br_f i2 (br_t rfl (br_f few (br_t rfl (br_f a1 (br_t a2 (br_f i1 (br_f i2 (br_f few ⟨rfl, cr_mk HS HD⟩))))))))))))
          · obtain ⟨h, rfl⟩ : ∃ h', h = h' + 1 := ⟨h - 1, by omega⟩
            have hge : (1 : Int32) ≤ nI (h + 1) := nI_le (a := 1) (by omega) (by omega)
            by_cases hr1 : rm < 1
            · have few : ¬ (1 : Int32) ≤ nI rm := nI_ge (b := 1) hr1 (by decide)
              exact br_t rfl (br_f a1 (br_t a2 (br_f i1 (br_f i2 (br_t rfl (br_t hge (br_t rfl (br_f few (br_t rfl (br_f a1 (br_t a2 (br_f i1 (br_f i2 (br_t hge (br_t rfl (br_f few ⟨rfl, cr_mk HS HD⟩))))))))))))))))
            · obtain ⟨rm, rfl⟩ : ∃ r', rm = r' + 1 := ⟨rm - 1, by omega⟩
              obtain ⟨sa, sa'⟩ := HT.2.1 h (by omega)
              obtain ⟨ja, fa, la⟩ := HI h (by omega)
              have ea := HQ.2.1 h (by omega)
              refine cx_op3 (by omega) (by omega) (by omega) k5 (by omega) (fun f' e1 hf it => ?_)
              refine cy_op1 (by omega) k5 (by omega) (by omega) (by omega) ea ⟨rfl, cr_mk (cr_Sop HS (by omega) (cr_push1 (k := kd) (c := S h) (e := kd ≠ 4 ∨ E (S h)) HT (by omega) rfl (by omega) k5 Iff.rfl) sa sa (by omega) (by omega) it ?_ (fun p hp => ?_) (fun p hp => ?_) (fun q hq p hp => ?_)) (cr_Dop HD)⟩
              · rw [ja]
              · rw [fa p hp]
              · rw [la p hp]
              · rw [hf q hq p, la q (by omega), fa p hp]
                exact ⟨fun z => z.elim Or.inl (fun z => Or.inr (Or.inr z)), fun z => z.elim Or.inl (fun z => z.elim (fun z => absurd z.1 nb1) Or.inr)⟩
      · exact br_t rfl (br_f a1 (br_f a2 (br_t rfl (br_f a1 (br_f a2 ⟨rfl, cr_mk HS HD⟩)))))
  · exact br_f p0 (br_f p0 ⟨rfl, cr_mk HS HD⟩)
end CRV
end
section
section CRK
/-! owed: begin, accepts, allowed -/
variable {k li ce rm lv h N len : Nat} {K A B S ln ls tp bs par : Nat → Nat} {E : Nat → Prop} {F L : Nat → Nat → Prop} {ph hit yX : Int32} {aC aL aT aE aB aF iE iF iL hx mo lno sk ki lf rg hy nx be dn : Nat → Int32}
theorem cr_cy0 {q : Nat} (hl : lv ≤ 12) (y0 : ∀ j, j < 2700 → hy j = 0) : ¬ cr_cy lv hy ls q := by
  rintro ⟨hq, v, v1, v2, v3, v4⟩
  exact v4 (y0 _ (by omega))
theorem cr_ya0 {yP yG : Int32} {top : Nat} (hl : lv ≤ 12) (y0 : ∀ j, j < 2700 → hy j = 0) (hs : cr_ys yP yG) : cr_ya yP yG top lv E L hy ls ↔ E top :=
  ⟨fun z => z.elim (fun z => z.2) (fun ⟨q, _, q2⟩ => absurd q2 (cr_cy0 hl y0)), fun z => Or.inl ⟨hs, z⟩⟩
theorem i_vc_begin {k : Nat} {u : SX} {v : SY} (I : i_Rel k u v) (hk : k + 4 ≤ 2050) (v1 : Int32) : wpX_begin (fun r u' => wpY_begin (fun r' v' => r' = r ∧ i_Rel (k + 4) u' v') v v1) u v1 := by
  obtain ⟨li, ce, rm, lv, h, N, len, K, A, B, S, ln, ls, tp, bs, par, E, F, L, ph, hit, yX, aC, aL, aT, aE, aB, aF, iE, iF, iL, hx, mo, lno, sk, ki, lf, rg, hy, nx, be, dn, rfl, rfl, HS, HD⟩ := I
  obtain ⟨⟨n1, n2, n3, n4, n5, n6, n7, n8⟩, G, HB, HM, HE, HT, HQ, HI, HF⟩ := id HS
  obtain ⟨_, x01, y01, b01, d01, l4, q1, q2, q3⟩ := id HD
  have hs : ∀ p, p < lv → ls p ≤ 224 := fun p hp => by have := HM p hp; omega
  have main : ∀ v1 : Int32, (v1 = 1 ∨ v1 = 2) → (∀ Q : Int32 → SY → Prop, wY_begin_13 Q v1 (nI li) (nI ce) ph (nI h) (nI lv) (nI N) (nI rm) (nI len) hit yX aC aL mo lno sk ki lf rg hy nx be dn → wpY_begin Q (nI li, nI ce, ph, nI h, nI lv, nI N, nI rm, nI len, hit, yX, aC, aL, mo, lno, sk, ki, lf, rg, hy, nx, be, dn) v1) →
      wX_begin_13 (fun r u' => wpY_begin (fun r' v' => r' = r ∧ i_Rel (k + 4) u' v') (nI li, nI ce, ph, nI h, nI lv, nI N, nI rm, nI len, hit, yX, aC, aL, mo, lno, sk, ki, lf, rg, hy, nx, be, dn) v1) v1 (nI li) (nI ce) ph (nI h) (nI lv) (nI rm) (nI len) hit aC aL aT aE aB aF iE iF iL hx := by
    intro v1 hv W
    by_cases h1 : h = 1
    · subst h1
      refine br_t rfl (cx_dr x01 (fun gx gx01 gx0 => ?_))
      obtain ⟨ja, fa, la⟩ := HI 0 (by omega)
      have HD' : ∀ hy be dn : Nat → Int32, cr_01 hy → cr_01 be → cr_01 dn → (∀ j, j < 2700 → hy j = 0) → cr_D v1 1 0 lv tp bs gx hy be dn := fun hy be dn y01 b01 d01 y0 =>
        ⟨cr_dy0 G gx0 y0, gx01, y01, b01, d01, by omega, Or.inr hv, fun _ => rfl, fun z => by subst z; exact absurd hv (by decide)⟩
      have Y : ∀ (Q : Int32 → SY → Prop) (hit' : Int32), (∀ r : Int32, (¬ r = 0 ↔ E (S 0)) → (r = 0 → hit' = -1) ∧ (¬ r = 0 → hit' = 0)) → (∀ hy be dn yX, cr_D v1 1 0 lv tp bs gx hy be dn → Q 0 (nI li, nI ce, v1, nI 1, nI lv, nI N, nI rm, 0, hit', yX, aC, aL, mo, lno, sk, ki, lf, rg, hy, nx, be, dn)) →
          wpY_begin Q (nI li, nI ce, ph, nI 1, nI lv, nI N, nI rm, nI len, hit, yX, aC, aL, mo, lno, sk, ki, lf, rg, hy, nx, be, dn) v1 := by
        intro Q hit' hh HQ'
        refine W Q (br_t rfl (cy_dr y01 (fun gy gy01 gy0 => ?_)))
        refine cy_acc HT HQ (by omega) (by omega) (by omega) hs b01 d01 (fun be' dn' yX' r b' d' r01 hr => ?_)
        obtain ⟨e1, e2⟩ := hh r (hr.trans (cr_ya0 (by omega) gy0 (Or.inr rfl)))
        have fin := HQ' gy be' dn' yX' (HD' gy be' dn' gy01 b' d' gy0)
        by_cases z : r = 0
        · rw [e1 z] at fin; exact br_t z fin
        · rw [e2 z] at fin; exact br_f z fin
      by_cases z : iE 0 = 0
      · exact br_t z (Y _ (-1) (fun r hr => ⟨fun _ => rfl, fun k => absurd z (ja.mpr (hr.mp k))⟩) (fun hy be dn yX D' => ⟨rfl, cr_mk HS D'⟩))
      · exact br_f z (Y _ 0 (fun r hr => ⟨fun k => absurd k (hr.mpr (ja.mp z)), fun _ => rfl⟩) (fun hy be dn yX D' => ⟨rfl, cr_mk HS D'⟩))
    · have nh : ¬ nI h = 1 := fun z => h1 ((nI_eq (b := 1) (by omega) (by decide)).mp z)
      exact br_f nh (W _ (br_f nh ⟨rfl, cr_mk HS HD⟩))
  by_cases a1 : v1 = 1
  · exact br_t a1 (main v1 (Or.inl a1) (fun Q z => br_t a1 z))
  · by_cases a2 : v1 = 2
    · exact br_f a1 (br_t a2 (main v1 (Or.inr a2) (fun Q z => br_f a1 (br_t a2 z))))
    · exact br_f a1 (br_f a2 (br_f a1 (br_f a2 ⟨rfl, cr_mk HS HD⟩)))
theorem cr_Dbd {be' dn' : Nat → Int32} (HD : cr_D ph h len lv tp bs hx hy be dn) (b : cr_01 be') (d : cr_01 dn') : cr_D ph h len lv tp bs hx hy be' dn' := by
  obtain ⟨dy, x01, y01, b01, d01, l4, q1, q2, q3⟩ := HD
  exact ⟨dy, x01, y01, b, d, l4, q1, q2, q3⟩
theorem i_vc_accepts {k : Nat} {u : SX} {v : SY} (I : i_Rel k u v) (hk : k + 4 ≤ 2050) : wpX_accepts (fun r => wpY_accepts (fun r' v' => r' = r ∧ i_Rel (k + 4) u v') v) u := by
  obtain ⟨li, ce, rm, lv, h, N, len, K, A, B, S, ln, ls, tp, bs, par, E, F, L, ph, hit, yX, aC, aL, aT, aE, aB, aF, iE, iF, iL, hx, mo, lno, sk, ki, lf, rg, hy, nx, be, dn, rfl, rfl, HS, HD⟩ := I
  obtain ⟨⟨n1, n2, n3, n4, n5, n6, n7, n8⟩, G, HB, HM, HE, HT, HQ, HI, HF⟩ := id HS
  obtain ⟨dy, x01, y01, b01, d01, l4, q1, q2, q3⟩ := id HD
  have hs : ∀ p, p < lv → ls p ≤ 224 := fun p hp => by have := HM p hp; omega
  by_cases p0 : ph = 0
  · subst p0
    obtain ⟨x0, y0⟩ := q3 rfl
    refine br_t rfl ?_
    by_cases h0 : h = 0
    · subst h0
      exact br_t (by decide) (br_t rfl ⟨rfl, cr_mk HS HD⟩)
    · obtain ⟨h, rfl⟩ : ∃ h', h = h' + 1 := ⟨h - 1, by omega⟩
      have eh : nI (h + 1) - 1 = nI h := nI_pred h
      have ch : (nI h).toNatClampNeg = h := nI_clamp (by omega)
      obtain ⟨ja, fa, la⟩ := HI h (by omega)
      have Y : ∀ r : Int32, (r = 0 ∨ r = 1) → (¬ r = 0 ↔ E (S h)) → wpY_accepts (fun r' v' => r' = r ∧ i_Rel (k + 4) (nI li, nI ce, 0, nI (h + 1), nI lv, nI rm, nI len, hit, aC, aL, aT, aE, aB, aF, iE, iF, iL, hx) v') (nI li, nI ce, 0, nI (h + 1), nI lv, nI N, nI rm, nI len, hit, yX, aC, aL, mo, lno, sk, ki, lf, rg, hy, nx, be, dn) := by
        intro r r01 hr
        exact cy_acc HT HQ (by omega) (by omega) (by omega) hs b01 d01 (fun be' dn' yX' r' b' d' r01' hr' => ⟨cr_e01 r01' r01 ((hr'.trans (cr_ya0 (by omega) y0 (Or.inl (by decide)))).trans hr.symm), cr_mk HS (cr_Dbd HD b' d')⟩)
      refine br_f (nI_nle (by omega) (by omega)) ⟨(by rw [eh]; exact vp_in_nI (by omega) (by decide)), ?_⟩
      by_cases z : iE h = 0
      · exact br_t (by rw [eh, ch]; exact z) (Y 0 (Or.inl rfl) ⟨fun q => absurd rfl q, fun q => absurd z (ja.mpr q)⟩)
      · exact br_f (by rw [eh, ch]; exact z) (Y 1 (Or.inr rfl) ⟨fun _ => ja.mp z, fun _ => cr_10⟩)
  · have h1 := q2 p0
    subst h1
    have h12 : ph = 1 ∨ ph = 2 := q1.elim (fun z => absurd z p0) id
    have Y : ∀ r : Int32, (r = 0 ∨ r = 1) → (¬ r = 0 ↔ cr_ya ph (nI len) (S 0) lv E L hy ls) → wpY_accepts (fun r' v' => r' = r ∧ i_Rel (k + 4) (nI li, nI ce, ph, nI 1, nI lv, nI rm, nI len, hit, aC, aL, aT, aE, aB, aF, iE, iF, iL, hx) v') (nI li, nI ce, ph, nI 1, nI lv, nI N, nI rm, nI len, hit, yX, aC, aL, mo, lno, sk, ki, lf, rg, hy, nx, be, dn) := by
      intro r r01 hr
      exact cy_acc HT HQ (by omega) (by omega) (by omega) hs b01 d01 (fun be' dn' yX' r' b' d' r01' hr' => ⟨cr_e01 r01' r01 (hr'.trans hr.symm), cr_mk HS (cr_Dbd HD b' d')⟩)
    have aa := cr_AA (g := nI len) HS dy h12
    exact br_f p0 (cx_acc G (fun z => ⟨rfl, Y 1 (Or.inr rfl) ⟨fun _ => aa.mp z, fun _ => cr_10⟩⟩) (fun z => ⟨rfl, Y 0 (Or.inl rfl) ⟨fun q => absurd rfl q, fun q => absurd (aa.mpr q) z⟩⟩))
/-- some pair is held after one letter more: as X asks it, as Y asks it -/
theorem cr_al {x : Nat} {en en' : Nat → Prop} (HS : cr_S li ce rm lv h N K A B S ln ls tp bs par E F L aL aT aE aB aF iE iF iL mo lno sk ki lf rg) (dy : cr_dy lv tp bs hx hy) (he : ∀ p, p < lv → (en p ↔ en' p)) :
    (∃ p, p < lv ∧ bt (aC p) x = true ∧ (en p ∨ ∃ v, 1 ≤ v ∧ v ≤ tp p ∧ (v < tp p ∨ ¬ aE p = 0) ∧ ¬ hx (bs p + v - 1) = 0)) ↔ ∃ q, q < lv ∧ ∃ w, 1 ≤ w ∧ w ≤ tp q ∧ cr_V aC mo hy tp en' x q w := by
  have HM := HS.2.2.2.1
  constructor
  · rintro ⟨p, hp, a, b⟩
    have hm := HM p hp
    have conv : ∀ w, 1 ≤ w → w ≤ tp p → cr_W aC aE hx tp bs en x p w → ∃ q, q < lv ∧ ∃ w, 1 ≤ w ∧ w ≤ tp q ∧ cr_V aC mo hy tp en' x q w := fun w w1 w2 w3 => ⟨p, hp, w, w1, w2, (cr_WV HS dy hp (he p hp) w1 w2).mp w3⟩
    rcases b with b | ⟨v, v1, v2, v3, v4⟩
    · exact conv 1 (by omega) (by omega) ⟨a, Or.inl ⟨rfl, b⟩⟩
    · by_cases z : v < tp p
      · refine conv (v + 1) (by omega) (by omega) ⟨a, Or.inr (Or.inl ⟨by omega, ?_⟩)⟩
        rw [show bs p + (v + 1) - 2 = bs p + v - 1 by omega]; exact v4
      · exact conv v v1 v2 ⟨a, Or.inr (Or.inr ⟨v3.elim (fun q => absurd q z) id, by omega, v4⟩)⟩
  · rintro ⟨p, hp, w, w1, w2, w3⟩
    obtain ⟨a, b⟩ := (cr_WV (en := en) HS dy hp (he p hp) w1 w2).mpr w3
    refine ⟨p, hp, a, ?_⟩
    rcases b with ⟨_, b⟩ | ⟨b1, b2⟩ | ⟨b1, b2, b3⟩
    · exact Or.inl b
    · refine Or.inr ⟨w - 1, by omega, by omega, Or.inl (by omega), ?_⟩
      rw [show bs p + (w - 1) - 1 = bs p + w - 2 by omega]; exact b2
    · exact Or.inr ⟨w, w1, w2, Or.inr b1, b3⟩
theorem i_vc_allowed {k : Nat} {u : SX} {v : SY} (I : i_Rel k u v) (hk : k + 4 ≤ 2050) (v1 : Int32) : wpX_allowed (fun r => wpY_allowed (fun r' v' => r' = r ∧ i_Rel (k + 4) u v') v v1) u v1 := by
  obtain ⟨li, ce, rm, lv, h, N, len, K, A, B, S, ln, ls, tp, bs, par, E, F, L, ph, hit, yX, aC, aL, aT, aE, aB, aF, iE, iF, iL, hx, mo, lno, sk, ki, lf, rg, hy, nx, be, dn, rfl, rfl, HS, HD⟩ := I
  obtain ⟨⟨n1, n2, n3, n4, n5, n6, n7, n8⟩, G, HB, HM, HE, HT, HQ, HI, HF⟩ := id HS
  obtain ⟨dy, x01, y01, b01, d01, l4, q1, q2, q3⟩ := id HD
  by_cases a1 : v1 < 0
  · exact br_t a1 (br_t rfl (br_t a1 ⟨rfl, cr_mk HS HD⟩))
  · by_cases a2 : 7 < v1
    · exact br_f a1 (br_t a2 (br_t rfl (br_f a1 (br_t a2 ⟨rfl, cr_mk HS HD⟩))))
    · refine br_f a1 (br_f a2 (br_f cr_10 ?_))
      obtain ⟨x, hx2, rfl⟩ := nI_of a1
      have hx8 : x < 8 := by
        rcases Nat.lt_or_ge 7 x with z | z
        · exact absurd (nI_lt (a := 7) z hx2) a2
        · omega
      by_cases h0 : h = 0
      · subst h0
        exact br_f (by decide) (br_f a1 (br_f a2 (br_t rfl ⟨rfl, cr_mk HS HD⟩)))
      · obtain ⟨h, rfl⟩ : ∃ h', h = h' + 1 := ⟨h - 1, by omega⟩
        have Y : ∀ r : Int32, (r = 0 ∨ r = 1) → (¬ r = 0 ↔ ∃ q, q < lv ∧ ∃ w, 1 ≤ w ∧ w ≤ tp q ∧ cr_V aC mo hy tp (cr_en (cr_ys ph (nI len)) (S h) N K A B F L (cr_cy lv hy ls)) x q w) →
            wpY_allowed (fun r' v' => r' = r ∧ i_Rel (k + 4) (nI li, nI ce, ph, nI (h + 1), nI lv, nI rm, nI len, hit, aC, aL, aT, aE, aB, aF, iE, iF, iL, hx) v') (nI li, nI ce, ph, nI (h + 1), nI lv, nI N, nI rm, nI len, hit, yX, aC, aL, mo, lno, sk, ki, lf, rg, hy, nx, be, dn) (nI x) := by
          intro r r01 hr
          exact cy_al HT HQ HM (by omega) (by omega) (by omega) b01 d01 hx8 (fun be' dn' yX' r' b' d' r01' hr' => ⟨cr_e01 r01' r01 (hr'.trans hr.symm), cr_mk HS (cr_Dbd HD b' d')⟩)
        have fin : ∀ en : Int32, (∀ p, p < lv → (bt en p = true ↔ cr_en (cr_ys ph (nI len)) (S h) N K A B F L (cr_cy lv hy ls) p)) →
            ∃ n56 : Nat, wX_allowed_56 (fun r => wpY_allowed (fun r' v' => r' = r ∧ i_Rel (k + 4) (nI li, nI ce, ph, nI (h + 1), nI lv, nI rm, nI len, hit, aC, aL, aT, aE, aB, aF, iE, iF, iL, hx) v') (nI li, nI ce, ph, nI (h + 1), nI lv, nI N, nI rm, nI len, hit, yX, aC, aL, mo, lno, sk, ki, lf, rg, hy, nx, be, dn) (nI x)) (nI x) en (nI li) (nI ce) ph (nI (h + 1)) (nI lv) (nI rm) (nI len) hit aC aL aT aE aB aF iE iF iL hx n56 0 := by
          intro en he
          have ea := cr_al (aC := aC) (x := x) (en := fun p => bt en p = true) HS dy he
          exact ⟨lv + 1, cx_all hx8 G (fun z => Y 1 (Or.inr rfl) ⟨fun _ => ea.mp z, fun _ => cr_10⟩) (fun z => Y 0 (Or.inl rfl) ⟨fun q => absurd rfl q, fun q => absurd (ea.mpr q) z⟩) (lv + 1) 0 (by omega) (by omega) (fun p hp => by omega)⟩
        refine br_t (nI_le (a := 1) (by omega) (by omega)) ?_
        have eh : nI (h + 1) - 1 = nI h := nI_pred h
        have ch : (nI h).toNatClampNeg = h := nI_clamp (by omega)
        by_cases p0 : ph = 0
        · obtain ⟨x0, y0⟩ := q3 p0
          obtain ⟨ja, fa, la⟩ := HI h (by omega)
          refine br_t p0 (br_f cr_10 ⟨(by rw [eh]; exact vp_in_nI (by omega) (by decide)), nm_r (e' := iF h) (by rw [eh, ch]) (fin (iF h) (fun p hp => ?_))⟩)
          rw [fa p (by omega)]
          refine ⟨fun z => Or.inl ⟨Or.inl (by rw [p0]; decide), z⟩, fun z => z.elim (fun z => z.2) (fun ⟨q, q1, q2⟩ => absurd q1 (cr_cy0 (by omega) y0))⟩
        · have h1 := q2 p0
          have h1' : h = 0 := by omega
          subst h1'
          have h12 : ph = 1 ∨ ph = 2 := q1.elim (fun z => absurd z p0) id
          refine br_f p0 (br_t rfl ?_)
          refine cx_en G (fun en he => fin en (fun p hp => (he p (by omega)).trans (cr_EE HS dy h12 hp)))
end CRK
end
section
section CRG
/-! owed: feed, in lockstep -/
variable {k li ce rm lv h N len : Nat} {K A B S ln ls tp bs par : Nat → Nat} {E : Nat → Prop} {F L : Nat → Nat → Prop} {ph hit yX : Int32} {aC aL aT aE aB aF iE iF iL hx mo lno sk ki lf rg hy nx be dn : Nat → Int32}
/-- one letter more on both sides -/
theorem cr_Dst {x : Nat} {hx' hy' be' dn' : Nat → Int32} (HS : cr_S li ce rm lv 1 N K A B S ln ls tp bs par E F L aL aT aE aB aF iE iF iL mo lno sk ki lf rg) (HD : cr_D ph 1 len lv tp bs hx hy be dn) (h12 : ph = 1 ∨ ph = 2) (hl : len + 1 ≤ 4000) (x01 : cr_01 hx') (y01 : cr_01 hy') (b01 : cr_01 be') (d01 : cr_01 dn')
    (HX : ∀ q, q < lv → ∀ v, 1 ≤ v → v ≤ tp q → (¬ hx' (bs q + v - 1) = 0 ↔ cr_W aC aE hx tp bs (cr_xn ph (nI len) lv (cr_C hx ls tp bs) aF iF) x q v))
    (HY : cr_nx (fun q v => q < lv ∧ 1 ≤ v ∧ v ≤ tp q) (cr_V aC mo hy tp (cr_en (cr_ys ph (nI len)) (S 0) N K A B F L (cr_cy lv hy ls)) x) hy') :
    cr_D ph 1 (len + 1) lv tp bs hx' hy' be' dn' := by
  obtain ⟨dy, _, _, _, _, l4, q1, q2, q3⟩ := HD
  have hl12 := HS.2.1.1
  refine ⟨fun p v hp v1 v2 => ⟨fun z => ?_, fun z => ?_⟩, x01, y01, b01, d01, hl, q1, q2, fun z => ?_⟩
  · refine cr_e01 (x01 _) (y01 _) ?_
    rw [HX p hp v v1 z, (HY p v (by omega) v2).1 ⟨hp, v1, z⟩]
    exact cr_WV HS dy hp (cr_EE HS dy h12 hp) v1 z
  · exact (HY p v (by omega) v2).2 (fun q => by omega)
  · rw [z] at h12; exact absurd h12 (by decide)
theorem cr_fdl {x t : Nat} {Y0 : (Int32 → SY → Prop) → Prop} (HS : cr_S li ce rm lv 1 N K A B S ln ls tp bs par E F L aL aT aE aB aF iE iF iL mo lno sk ki lf rg) (h12 : ph = 1 ∨ ph = 2) (hx8 : x < 8) (ht : t ≤ 16) : ∀ d i len hit c hx, i + d = t → len + d ≤ 4000 → cr_01 hx →
    (∀ Q : Int32 → SY → Prop, (∀ hy nx be dn yX, cr_D ph 1 len lv tp bs hx hy be dn → wY_feed_53 Q (nI x) (nI t) (d + 1) c (nI i) (nI li) (nI ce) ph (nI 1) (nI lv) (nI N) (nI rm) (nI len) hit yX aC aL mo lno sk ki lf rg hy nx be dn) → Y0 Q) →
    wX_feed_50 (fun r u' => Y0 (fun r' v' => r' = r ∧ i_Rel k u' v')) (nI x) (nI t) (d + 1) c (nI i) (nI li) (nI ce) ph (nI 1) (nI lv) (nI rm) (nI len) hit aC aL aT aE aB aF iE iF iL hx := by
  obtain ⟨⟨n1, n2, n3, n4, n5, n6, n7, n8⟩, G, HB, HM, HE, HT, HQ, HI, HF⟩ := id HS
  have hs : ∀ p, p < lv → ls p ≤ 224 := fun p hp => by have := HM p hp; omega
  intro d
  induction d with
  | zero =>
    intro i len hit c hx hi hl x01 car
    have e : i = t := by omega
    subst e
    exact br_t (nI_le (Nat.le_refl i) (by omega)) (car _ (fun hy nx be dn yX HD => br_t (nI_le (Nat.le_refl i) (by omega)) ⟨rfl, cr_mk HS HD⟩))
  | succ d ih =>
    intro i len hit c hx hi hl x01 car
    refine br_f (nI_ge (by omega) (by omega)) (cx_ap hx8 G x01 (fun hx' x01' HX => ?_))
    rw [nI_1 len]
    -- what Y does with this letter
    have Y : ∀ (acc : Prop) (hit' c' : Int32), (∀ hy', cr_dy lv tp bs hx' hy' → (acc ↔ cr_ya ph (nI (len + 1)) (S 0) lv E L hy' ls)) → (acc → hit' = nI (len + 1) ∧ c' = c + 1) → (¬ acc → hit' = hit ∧ c' = c) →
        ∀ Q : Int32 → SY → Prop, (∀ hy nx be dn yX, cr_D ph 1 (len + 1) lv tp bs hx' hy be dn → wY_feed_53 Q (nI x) (nI t) (d + 1) c' (nI (i + 1)) (nI li) (nI ce) ph (nI 1) (nI lv) (nI N) (nI rm) (nI (len + 1)) hit' yX aC aL mo lno sk ki lf rg hy nx be dn) → Y0 Q := by
      intro acc hit' c' hacc ha hna Q HQ'
      refine car Q (fun hy nx be dn yX HD => ?_)
      obtain ⟨dy, _, y01, b01, d01, _⟩ := id HD
      refine br_f (nI_ge (by omega) (by omega)) (cy_step HT HQ HM (by omega) (by omega) (by omega) b01 d01 hx8 y01 (fun hy' nx' be' dn' yX' y01' b01' d01' I => nm_r (nI_1 len) ?_))
      refine cy_acc HT HQ (by omega) (by omega) (by omega) hs b01' d01' (fun be2 dn2 yX2 r b2 d2 r01 hr => ?_)
      have HD' := cr_Dst HS HD h12 (by omega) x01' y01' b2 d2 HX I
      have hr' := hr.trans (hacc hy' HD'.1).symm
      have go := HQ' hy' nx' be2 dn2 yX2 HD'
      by_cases z : r = 0
      · obtain ⟨e1, e2⟩ := hna (fun q => hr'.mpr q z)
        rw [e1, e2] at go
        exact br_t z (nm_r (nI_1 i) go)
      · obtain ⟨e1, e2⟩ := ha (hr'.mp z)
        rw [e1, e2] at go
        exact br_f z (nm_e (nm_r (nI_1 i) go))
    refine cx_acc G (fun z => br_f cr_10 (nm_e (nm_r (nI_1 i) (ih (i + 1) (len + 1) (nI (len + 1)) (c + 1) hx' (by omega) (by omega) x01' ?_)))) (fun z => br_t rfl (nm_r (nI_1 i) (ih (i + 1) (len + 1) hit c hx' (by omega) (by omega) x01' ?_)))
    · exact Y True _ _ (fun hy' dy' => ⟨fun _ => (cr_AA HS dy' h12).mp z, fun _ => trivial⟩) (fun _ => ⟨rfl, rfl⟩) (fun q => absurd trivial q)
    · exact Y False _ _ (fun hy' dy' => ⟨fun q => absurd q id, fun q => z ((cr_AA HS dy' h12).mpr q)⟩) (fun q => absurd q id) (fun _ => ⟨rfl, rfl⟩)
theorem i_vc_feed {k : Nat} {u : SX} {v : SY} (I : i_Rel k u v) (hk : k + 4 ≤ 2050) (v1 : Int32) (v2 : Int32) : wpX_feed (fun r u' => wpY_feed (fun r' v' => r' = r ∧ i_Rel (k + 4) u' v') v v1 v2) u v1 v2 := by
  obtain ⟨li, ce, rm, lv, h, N, len, K, A, B, S, ln, ls, tp, bs, par, E, F, L, ph, hit, yX, aC, aL, aT, aE, aB, aF, iE, iF, iL, hx, mo, lno, sk, ki, lf, rg, hy, nx, be, dn, rfl, rfl, HS, HD⟩ := I
  obtain ⟨dy, x01, y01, b01, d01, l4, q1, q2, q3⟩ := id HD
  by_cases p0 : ph = 0
  · exact br_t p0 (br_t p0 ⟨rfl, cr_mk HS HD⟩)
  · refine br_f p0 ?_
    by_cases a1 : v1 < 0
    · exact br_t a1 (br_t rfl (br_f p0 (br_t a1 ⟨rfl, cr_mk HS HD⟩)))
    · by_cases a2 : 7 < v1
      · exact br_f a1 (br_t a2 (br_t rfl (br_f p0 (br_f a1 (br_t a2 ⟨rfl, cr_mk HS HD⟩)))))
      · refine br_f a1 (br_f a2 (br_f cr_10 ?_))
        by_cases a3 : v2 < 1
        · exact br_t a3 (br_f p0 (br_f a1 (br_f a2 (br_t a3 ⟨rfl, cr_mk HS HD⟩))))
        · by_cases a4 : v2 ≤ 16
          · obtain ⟨x, hx2, rfl⟩ := nI_of a1
            have hx8 : x < 8 := by
              rcases Nat.lt_or_ge 7 x with z | z
              · exact absurd (nI_lt (a := 7) z hx2) a2
              · omega
            obtain ⟨t, ht2, rfl⟩ := nI_of (x := v2) (fun z => a3 (Int32.lt_trans z (by decide)))
            have ht : t ≤ 16 := (nI_leI (b := 16) ht2 (by decide)).mp a4
            have ea : nI len + nI t = nI (len + t) := nI_add len t
            refine br_f a3 (br_t a4 ?_)
            by_cases a5 : len + t ≤ 4000
            · have h5 : nI len + nI t ≤ 4000 := by rw [ea]; exact nI_le (b := 4000) a5 (by decide)
              have h1 := q2 p0
              subst h1
              have h12 : ph = 1 ∨ ph = 2 := q1.elim (fun z => absurd z p0) id
              refine br_t h5 ⟨t + 1, ?_⟩
              refine cr_fdl (Y0 := fun Q => wpY_feed Q (nI li, nI ce, ph, nI 1, nI lv, nI N, nI rm, nI len, hit, yX, aC, aL, mo, lno, sk, ki, lf, rg, hy, nx, be, dn) (nI x) (nI t)) HS h12 hx8 ht t 0 len hit 0 hx (by omega) a5 x01 (fun Q HQ' => ?_)
              exact br_f p0 (br_f a1 (br_f a2 (br_f a3 (br_t a4 (br_t h5 ⟨t + 1, HQ' hy nx be dn yX HD⟩)))))
            · have h5 : ¬ nI len + nI t ≤ 4000 := by rw [ea]; exact nI_ge (a := 4000) (by omega) (by omega)
              exact br_f h5 (br_f p0 (br_f a1 (br_f a2 (br_f a3 (br_t a4 (br_f h5 ⟨rfl, cr_mk HS HD⟩))))))
          · exact br_f a3 (br_f a4 (br_f p0 (br_f a1 (br_f a2 (br_f a3 (br_f a4 ⟨rfl, cr_mk HS HD⟩))))))
end CRG
end
section
section CRZ
/-! owed: the questions that change nothing -/
theorem i_vc_phase {k : Nat} {u : SX} {v : SY} (I : i_Rel k u v) (hk : k + 4 ≤ 2050) : wpX_phase (fun r => wpY_phase (fun r' => r' = r ∧ i_Rel (k + 4) u v) v) u := by
  obtain ⟨li, ce, rm, lv, h, N, len, K, A, B, S, ln, ls, tp, bs, par, E, F, L, ph, hit, yX, aC, aL, aT, aE, aB, aF, iE, iF, iL, hx, mo, lno, sk, ki, lf, rg, hy, nx, be, dn, rfl, rfl, HS, HD⟩ := I
  exact ⟨rfl, cr_mk HS HD⟩
theorem i_vc_height {k : Nat} {u : SX} {v : SY} (I : i_Rel k u v) (hk : k + 4 ≤ 2050) : wpX_height (fun r => wpY_height (fun r' => r' = r ∧ i_Rel (k + 4) u v) v) u := by
  obtain ⟨li, ce, rm, lv, h, N, len, K, A, B, S, ln, ls, tp, bs, par, E, F, L, ph, hit, yX, aC, aL, aT, aE, aB, aF, iE, iF, iL, hx, mo, lno, sk, ki, lf, rg, hy, nx, be, dn, rfl, rfl, HS, HD⟩ := I
  exact ⟨rfl, cr_mk HS HD⟩
theorem i_vc_room {k : Nat} {u : SX} {v : SY} (I : i_Rel k u v) (hk : k + 4 ≤ 2050) : wpX_room (fun r => wpY_room (fun r' => r' = r ∧ i_Rel (k + 4) u v) v) u := by
  obtain ⟨li, ce, rm, lv, h, N, len, K, A, B, S, ln, ls, tp, bs, par, E, F, L, ph, hit, yX, aC, aL, aT, aE, aB, aF, iE, iF, iL, hx, mo, lno, sk, ki, lf, rg, hy, nx, be, dn, rfl, rfl, HS, HD⟩ := I
  exact ⟨rfl, cr_mk HS HD⟩
theorem i_vc_length {k : Nat} {u : SX} {v : SY} (I : i_Rel k u v) (hk : k + 4 ≤ 2050) : wpX_length (fun r => wpY_length (fun r' => r' = r ∧ i_Rel (k + 4) u v) v) u := by
  obtain ⟨li, ce, rm, lv, h, N, len, K, A, B, S, ln, ls, tp, bs, par, E, F, L, ph, hit, yX, aC, aL, aT, aE, aB, aF, iE, iF, iL, hx, mo, lno, sk, ki, lf, rg, hy, nx, be, dn, rfl, rfl, HS, HD⟩ := I
  exact ⟨rfl, cr_mk HS HD⟩
theorem i_vc_lastHit {k : Nat} {u : SX} {v : SY} (I : i_Rel k u v) (hk : k + 4 ≤ 2050) : wpX_lastHit (fun r => wpY_lastHit (fun r' => r' = r ∧ i_Rel (k + 4) u v) v) u := by
  obtain ⟨li, ce, rm, lv, h, N, len, K, A, B, S, ln, ls, tp, bs, par, E, F, L, ph, hit, yX, aC, aL, aT, aE, aB, aF, iE, iF, iL, hx, mo, lno, sk, ki, lf, rg, hy, nx, be, dn, rfl, rfl, HS, HD⟩ := I
  exact ⟨rfl, cr_mk HS HD⟩
theorem i_vc_size {k : Nat} {u : SX} {v : SY} (I : i_Rel k u v) (hk : k + 4 ≤ 2050) (v1 : Int32) : wpX_size (fun r => wpY_size (fun r' => r' = r ∧ i_Rel (k + 4) u v) v v1) u v1 := by
  obtain ⟨li, ce, rm, lv, h, N, len, K, A, B, S, ln, ls, tp, bs, par, E, F, L, ph, hit, yX, aC, aL, aT, aE, aB, aF, iE, iF, iL, hx, mo, lno, sk, ki, lf, rg, hy, nx, be, dn, rfl, rfl, HS, HD⟩ := I
  have hl := HS.2.1.1
  by_cases a1 : v1 < 0
  · exact br_t a1 (br_t rfl (br_t a1 ⟨rfl, cr_mk HS HD⟩))
  · by_cases a2 : nI lv ≤ v1
    · exact br_f a1 (br_t a2 (br_t rfl (br_f a1 (br_f (Int32.not_lt.mpr a2) ⟨rfl, cr_mk HS HD⟩))))
    · obtain ⟨p, hp2, rfl⟩ := nI_of a1
      have hp : p < lv := by
        rcases Nat.lt_or_ge p lv with z | z
        · exact z
        · exact absurd (nI_le z hp2) a2
      have hm := HS.2.2.2.1 p hp
      refine br_f a1 (br_f a2 (br_f cr_10 ⟨tp p + 1, cx_szl HS.2.1 hp ?_ (tp p + 1) 0 (by omega) (by omega)⟩))
      refine br_f a1 (br_t (nI_lt hp (by omega)) ⟨225, cy_szl (by omega) ⟨?_, cr_mk HS HD⟩ 225 0 (by omega) (by omega)⟩)
      have e1 : cr_ct (fun j => hy (p * 225 + (j + 1))) 224 = cr_ct (fun j => hy (p * 225 + (j + 1))) (tp p) := by
        have := cr_ctz (f := fun j => hy (p * 225 + (j + 1))) (n := tp p) (224 - tp p) (fun j j1 j2 => (HD.1 p (j + 1) hp (by omega) (by omega)).2 (by omega))
        rw [show tp p + (224 - tp p) = 224 by omega] at this
        exact this
      rw [e1]
      refine congrArg nI (cr_ctc (tp p) (fun j hj => ?_))
      have := (HD.1 p (j + 1) hp (by omega) (by omega)).1 (by omega)
      exact this.symm
theorem i_vc_largest {k : Nat} {u : SX} {v : SY} (I : i_Rel k u v) (hk : k + 4 ≤ 2050) (v1 : Int32) : wpX_largest (fun r => wpY_largest (fun r' => r' = r ∧ i_Rel (k + 4) u v) v v1) u v1 := by
  obtain ⟨li, ce, rm, lv, h, N, len, K, A, B, S, ln, ls, tp, bs, par, E, F, L, ph, hit, yX, aC, aL, aT, aE, aB, aF, iE, iF, iL, hx, mo, lno, sk, ki, lf, rg, hy, nx, be, dn, rfl, rfl, HS, HD⟩ := I
  have hl := HS.2.1.1
  by_cases a1 : v1 < 0
  · exact br_t a1 (br_t rfl (br_t a1 ⟨rfl, cr_mk HS HD⟩))
  · by_cases a2 : nI lv ≤ v1
    · exact br_f a1 (br_t a2 (br_t rfl (br_f a1 (br_f (Int32.not_lt.mpr a2) ⟨rfl, cr_mk HS HD⟩))))
    · obtain ⟨p, hp2, rfl⟩ := nI_of a1
      have hp : p < lv := by
        rcases Nat.lt_or_ge p lv with z | z
        · exact z
        · exact absurd (nI_le z hp2) a2
      have hm := HS.2.2.2.1 p hp
      have eT := (HS.2.1.2.1 p hp).2.1
      refine br_f a1 (br_f a2 (br_f cr_10 ⟨vp_in_nI (by omega) (by decide), nm_r (e' := nI (tp p)) (by rw [nI_clamp (by omega), eT]) ⟨tp p + 1, cx_lgl HS.2.1 hp (fun m hmx => ?_) (tp p) (tp p + 1) (by omega) (Nat.le_refl _) (fun v v1 v2 => by omega)⟩⟩))
      refine br_f a1 (br_t (nI_lt hp (by omega)) ⟨225, cy_lgl (by omega) (fun m' hmy => ⟨congrArg nI ?_, cr_mk HS HD⟩) 225 1 0 (by omega) (by omega) (by omega) ⟨by omega, Or.inl rfl, fun v v1 v2 => by omega⟩⟩)
      exact cr_mxu (show tp p ≤ 224 by omega) (fun v v1 v2 => (HD.1 p v hp v1 (by omega)).1 v2) (fun v v1 v2 => (HD.1 p v hp (by omega) (by omega)).2 v1) hmx hmy
theorem i_vc_smallest {k : Nat} {u : SX} {v : SY} (I : i_Rel k u v) (hk : k + 4 ≤ 2050) (v1 : Int32) : wpX_smallest (fun r => wpY_smallest (fun r' => r' = r ∧ i_Rel (k + 4) u v) v v1) u v1 := by
  obtain ⟨li, ce, rm, lv, h, N, len, K, A, B, S, ln, ls, tp, bs, par, E, F, L, ph, hit, yX, aC, aL, aT, aE, aB, aF, iE, iF, iL, hx, mo, lno, sk, ki, lf, rg, hy, nx, be, dn, rfl, rfl, HS, HD⟩ := I
  have hl := HS.2.1.1
  by_cases a1 : v1 < 0
  · exact br_t a1 (br_t rfl (br_t a1 ⟨rfl, cr_mk HS HD⟩))
  · by_cases a2 : nI lv ≤ v1
    · exact br_f a1 (br_t a2 (br_t rfl (br_f a1 (br_f (Int32.not_lt.mpr a2) ⟨rfl, cr_mk HS HD⟩))))
    · obtain ⟨p, hp2, rfl⟩ := nI_of a1
      have hp : p < lv := by
        rcases Nat.lt_or_ge p lv with z | z
        · exact z
        · exact absurd (nI_le z hp2) a2
      have hm := HS.2.2.2.1 p hp
      refine br_f a1 (br_f a2 (br_f cr_10 ⟨tp p + 1, cx_sml HS.2.1 hp (fun m hmx => ?_) (tp p + 1) 1 (by omega) (by omega) (by omega) (fun v v1 v2 => by omega)⟩))
      refine br_f a1 (br_t (nI_lt hp (by omega)) ⟨225, cy_sml (by omega) (fun m' hmy => ⟨congrArg nI ?_, cr_mk HS HD⟩) 224 225 0 (by omega) (by omega) (Or.inl ⟨rfl, fun v v1 v2 => by omega⟩)⟩)
      exact cr_mnu (show tp p ≤ 224 by omega) (fun v v1 v2 => (HD.1 p v hp v1 (by omega)).1 v2) (fun v v1 v2 => (HD.1 p v hp (by omega) (by omega)).2 v1) hmx hmy
theorem i_vc_holds {k : Nat} {u : SX} {v : SY} (I : i_Rel k u v) (hk : k + 4 ≤ 2050) (v1 : Int32) (v2 : Int32) : wpX_holds (fun r => wpY_holds (fun r' => r' = r ∧ i_Rel (k + 4) u v) v v1 v2) u v1 v2 := by
  obtain ⟨li, ce, rm, lv, h, N, len, K, A, B, S, ln, ls, tp, bs, par, E, F, L, ph, hit, yX, aC, aL, aT, aE, aB, aF, iE, iF, iL, hx, mo, lno, sk, ki, lf, rg, hy, nx, be, dn, rfl, rfl, HS, HD⟩ := I
  have hl := HS.2.1.1
  by_cases a1 : v1 < 0
  · exact br_t a1 (br_t rfl (br_t a1 ⟨rfl, cr_mk HS HD⟩))
  · by_cases a2 : nI lv ≤ v1
    · exact br_f a1 (br_t a2 (br_t rfl (br_f a1 (br_t a2 ⟨rfl, cr_mk HS HD⟩))))
    · by_cases a3 : v2 < 1
      · exact br_f a1 (br_f a2 (br_f cr_10 (br_t a3 (br_f a1 (br_f a2 (br_t a3 ⟨rfl, cr_mk HS HD⟩))))))
      · obtain ⟨p, hp2, rfl⟩ := nI_of a1
        have hp : p < lv := by
          rcases Nat.lt_or_ge p lv with z | z
          · exact z
          · exact absurd (nI_le z hp2) a2
        obtain ⟨w, hw2, rfl⟩ := nI_of (x := v2) (fun z => a3 (Int32.lt_trans z (by decide)))
        have w1 : 1 ≤ w := by
          rcases Nat.lt_or_ge w 1 with z | z
          · exact absurd (nI_lt (b := 1) z (by decide)) a3
          · exact z
        have hm := HS.2.2.2.1 p hp
        obtain ⟨eL, eT, eB, eE, t1, t2, t3⟩ := HS.2.1.2.1 p hp
        have cp : (nI p).toNatClampNeg = p := nI_clamp hp2
        have hi : vp_in (nI p) 12 := vp_in_nI (by omega) (by decide)
        have Y : ∀ r : Int32, (r = 0 ∨ r = 1) → (¬ r = 0 ↔ w < 225 ∧ ¬ hy (p * 225 + w) = 0) → wpY_holds (fun r' => r' = r ∧ i_Rel (k + 4) (nI li, nI ce, ph, nI h, nI lv, nI rm, nI len, hit, aC, aL, aT, aE, aB, aF, iE, iF, iL, hx) (nI li, nI ce, ph, nI h, nI lv, nI N, nI rm, nI len, hit, yX, aC, aL, mo, lno, sk, ki, lf, rg, hy, nx, be, dn)) (nI li, nI ce, ph, nI h, nI lv, nI N, nI rm, nI len, hit, yX, aC, aL, mo, lno, sk, ki, lf, rg, hy, nx, be, dn) (nI p) (nI w) := by
          intro r r01 hr
          refine br_f a1 (br_f a2 (br_f a3 ?_))
          by_cases b : 225 ≤ w
          · exact br_t (nI_le (a := 225) b hw2) ⟨cr_e01 (Or.inl rfl) r01 ⟨fun q => absurd rfl q, fun q => by have := (hr.mp q).1; omega⟩, cr_mk HS HD⟩
          · have e := cr_ix p w
            have ce : (nI (p * 225 + w)).toNatClampNeg = p * 225 + w := nI_clamp (by omega)
            refine br_f (nI_ge (b := 225) (by omega) (by decide)) ⟨(by rw [e]; exact vp_in_nI (by omega) (by decide)), ?_⟩
            by_cases z : hy (p * 225 + w) = 0
            · exact br_t (by rw [e, ce]; exact z) ⟨cr_e01 (Or.inl rfl) r01 ⟨fun q => absurd rfl q, fun q => absurd z (hr.mp q).2⟩, cr_mk HS HD⟩
            · exact br_f (by rw [e, ce]; exact z) ⟨cr_e01 (Or.inr rfl) r01 ⟨fun _ => hr.mpr ⟨by omega, z⟩, fun _ => cr_10⟩, cr_mk HS HD⟩
        refine br_f a1 (br_f a2 (br_f cr_10 (br_f a3 ⟨hi, ?_⟩)))
        by_cases b : w ≤ tp p
        · have e := cr_cell (aB := aB) (show p < 12 by omega) eB w1
          have ce : (nI (bs p + w - 1)).toNatClampNeg = bs p + w - 1 := nI_clamp (by omega)
          refine br_t (by rw [cp, eT]; exact nI_le b (by omega)) ⟨hi, (by rw [e]; exact vp_in_nI (by omega) (by decide)), (by rw [e, ce]; exact cr_nn (HD.2.1 _)), ?_⟩
          rw [e, ce]
          refine Y _ (HD.2.1 _) ?_
          rw [(HD.1 p w hp w1 (by omega)).1 b]
          exact ⟨fun q => ⟨by omega, q⟩, fun q => q.2⟩
        · refine br_f (by rw [cp, eT]; exact nI_ge (by omega) hw2) (Y 0 (Or.inl rfl) ⟨fun q => absurd rfl q, fun q => absurd ((HD.1 p w hp w1 q.1).2 (by omega)) q.2⟩)
end CRZ
end
