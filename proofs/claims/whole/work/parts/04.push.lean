section CRP
/-! a new node -/
variable {lv lv' h N : Nat} {K A B S ln ls par K' A' B' ln' ls' par' : Nat → Nat} {E E' : Nat → Prop} {F L F' L' : Nat → Nat → Prop}
theorem cr_ndk {n : Nat} (nd : cr_nd lv K A B ln ls par E F L n) (hl : lv ≤ lv') (ag : ∀ j, j ≤ n → K' j = K j ∧ A' j = A j ∧ B' j = B j ∧ E' j = E j ∧ F' j = F j ∧ L' j = L j)
    (hp : ∀ p, p < lv → ln' p = ln p ∧ ls' p = ls p) (hc : ∀ c, c < n → par c = n → par' c = n) : cr_nd lv' K' A' B' ln' ls' par' E' F' L' n := by
  obtain ⟨eK, eA, eB, eE, eF, eL⟩ := ag n (Nat.le_refl n)
  unfold cr_nd at nd ⊢
  rw [eK, eA, eB, eE, eF, eL]
  rcases nd with H | H | H | H
  · obtain ⟨h0, h1, h2, h3, h4, h5⟩ := H
    refine Or.inl ⟨h0, by omega, ?_, ?_, h4, h5⟩
    · rw [(hp _ h1).1]; exact h2
    · rw [(hp _ h1).2]; exact h3
  · obtain ⟨h0, h1, h2, h3, h4, h5, h6, h7, h8⟩ := H
    obtain ⟨_, _, _, aE, aF, aL⟩ := ag (A n) (by omega)
    obtain ⟨_, _, _, bE, bF, bL⟩ := ag (B n) (by omega)
    rw [aE, aF, aL, bE, bF, bL]
    exact Or.inr (Or.inl ⟨h0, h1, h2, h3, hc _ h1 h4, hc _ h2 h5, h6, h7, h8⟩)
  · obtain ⟨h0, h1, h2, h4, h5, h6, h7, h8⟩ := H
    obtain ⟨_, _, _, aE, aF, aL⟩ := ag (A n) (by omega)
    obtain ⟨_, _, _, bE, bF, bL⟩ := ag (B n) (by omega)
    rw [aE, aF, aL, bE, bF, bL]
    exact Or.inr (Or.inr (Or.inl ⟨h0, h1, h2, hc _ h1 h4, hc _ h2 h5, h6, h7, h8⟩))
  · obtain ⟨h0, h1, h2, h4, h6, h7, h8⟩ := H
    obtain ⟨_, _, _, aE, aF, aL⟩ := ag (A n) (by omega)
    rw [aE, aF, aL]
    exact Or.inr (Or.inr (Or.inr ⟨h0, h1, h2, hc _ h2 h4, h6, h7, h8⟩))
theorem cr_ag {k a c : Nat} {e : Prop} {f l : Nat → Prop} {n : Nat} (hn : n < N) : ∀ j, j ≤ n → cr_u K N k j = K j ∧ cr_u A N a j = A j ∧ cr_u B N c j = B j ∧ cr_u E N e j = E j ∧ cr_u F N f j = F j ∧ cr_u L N l j = L j := by
  intro j hj
  have e : j ≠ N := by omega
  exact ⟨cr_un e, cr_un e, cr_un e, cr_un e, cr_un e, cr_un e⟩
/-- a leaf's node is pushed -/
theorem cr_push0 {l : Nat} (T : cr_tr lv h N K A B S ln ls par E F L) (hN : N < 1000) :
    cr_tr (lv + 1) (h + 1) (N + 1) (cr_u K N 0) (cr_u A N lv) (cr_u B N 0) (cr_u S h N) (cr_u ln lv N) (cr_u ls lv l) (cr_u par N (1000 + h)) (cr_u E N (l = 0)) (cr_u F N (fun p => p = lv)) (cr_u L N (fun p => p = lv)) := by
  refine ⟨fun n hn => ?_, fun i hi => ?_, fun p hp => ?_⟩
  · by_cases e : n = N
    · subst e
      unfold cr_nd
      rw [cr_us, cr_us, cr_us, cr_us, cr_us, cr_us, cr_us]
      exact Or.inl ⟨rfl, by omega, rfl, Iff.rfl, fun p => Iff.rfl, fun p => Iff.rfl⟩
    · have hn' : n < N := by omega
      refine cr_ndk (T.1 n hn') (by omega) (cr_ag hn') (fun p hp => ?_) (fun c hc hp => ?_)
      · have e : p ≠ lv := by omega
        exact ⟨cr_un e, cr_un e⟩
      · have e : c ≠ N := by omega
        rw [cr_un e]; exact hp
  · by_cases e : i = h
    · subst e
      rw [cr_us, cr_us]
      exact ⟨by omega, rfl⟩
    · rw [cr_un e]
      obtain ⟨h1, h2⟩ := T.2.1 i (by omega)
      have e2 : S i ≠ N := by omega
      rw [cr_un e2]
      exact ⟨by omega, h2⟩
  · by_cases e : p = lv
    · subst e
      rw [cr_us, cr_us, cr_us]
      exact ⟨by omega, rfl, rfl⟩
    · rw [cr_un e]
      obtain ⟨h1, h2, h3⟩ := T.2.2 p (by omega)
      have e2 : ln p ≠ N := by omega
      rw [cr_un e2, cr_un e2]
      exact ⟨by omega, h2, h3⟩
/-- the node of CAT or ALT -/
theorem cr_push2 {k a c : Nat} {e : Prop} {f l : Nat → Prop} (T : cr_tr lv (h + 2) N K A B S ln ls par E F L) (hN : N < 1000) (ha : S h = a) (hc : S (h + 1) = c)
    (H : (k = 1 ∧ (e ↔ E a ∧ E c) ∧ (∀ p, f p ↔ F a p ∨ (E a ∧ F c p)) ∧ (∀ p, l p ↔ L c p ∨ (E c ∧ L a p))) ∨ (k = 2 ∧ (e ↔ E a ∨ E c) ∧ (∀ p, f p ↔ F a p ∨ F c p) ∧ (∀ p, l p ↔ L a p ∨ L c p))) :
    cr_tr lv (h + 1) (N + 1) (cr_u K N k) (cr_u A N a) (cr_u B N c) (cr_u S h N) ln ls (cr_u (cr_u (cr_u par a N) c N) N (1000 + h)) (cr_u E N e) (cr_u F N f) (cr_u L N l) := by
  obtain ⟨sa1, sa2⟩ := T.2.1 h (by omega)
  obtain ⟨sc1, sc2⟩ := T.2.1 (h + 1) (by omega)
  rw [ha] at sa1 sa2
  rw [hc] at sc1 sc2
  have aN : a ≠ N := by omega
  have cN : c ≠ N := by omega
  have ac : a ≠ c := by intro z; rw [z] at sa2; omega
  refine ⟨fun n hn => ?_, fun i hi => ?_, fun p hp => ?_⟩
  · by_cases e' : n = N
    · subst e'
      unfold cr_nd
      rw [cr_us, cr_us, cr_us, cr_us, cr_us, cr_us, cr_un aN, cr_un aN, cr_un aN, cr_un aN, cr_un cN, cr_un cN, cr_un cN, cr_un cN, cr_us, cr_un ac, cr_us]
      rcases H with ⟨z0, z1, z2, z3⟩ | ⟨z0, z1, z2, z3⟩
      · exact Or.inr (Or.inl ⟨z0, sa1, sc1, ac, rfl, rfl, z1, z2, z3⟩)
      · exact Or.inr (Or.inr (Or.inl ⟨z0, sa1, sc1, rfl, rfl, z1, z2, z3⟩))
    · have hn' : n < N := by omega
      refine cr_ndk (T.1 n hn') (Nat.le_refl _) (cr_ag hn') (fun p hp => ⟨rfl, rfl⟩) (fun j hj hp => ?_)
      have e1 : j ≠ N := by omega
      have e2 : j ≠ c := by intro z; rw [z] at hp; omega
      have e3 : j ≠ a := by intro z; rw [z] at hp; omega
      rw [cr_un e1, cr_un e2, cr_un e3]; exact hp
  · by_cases e' : i = h
    · subst e'
      rw [cr_us, cr_us]
      exact ⟨by omega, rfl⟩
    · rw [cr_un e']
      obtain ⟨h1, h2⟩ := T.2.1 i (by omega)
      have e1 : S i ≠ N := by omega
      have e2 : S i ≠ c := by intro z; rw [z] at h2; omega
      have e3 : S i ≠ a := by intro z; rw [z] at h2; omega
      rw [cr_un e1, cr_un e2, cr_un e3]
      exact ⟨by omega, h2⟩
  · obtain ⟨h1, h2, h3⟩ := T.2.2 p hp
    have e2 : ln p ≠ N := by omega
    rw [cr_un e2, cr_un e2]
    exact ⟨by omega, h2, h3⟩
/-- the node of STAR, PLUS or OPT -/
theorem cr_push1 {k a c : Nat} {e : Prop} (T : cr_tr lv (h + 1) N K A B S ln ls par E F L) (hN : N < 1000) (ha : S h = a)
    (hk : 3 ≤ k) (hk5 : k ≤ 5) (he : e ↔ k ≠ 4 ∨ E a) :
    cr_tr lv (h + 1) (N + 1) (cr_u K N k) (cr_u A N a) (cr_u B N c) (cr_u S h N) ln ls (cr_u (cr_u par a N) N (1000 + h)) (cr_u E N e) (cr_u F N (F a)) (cr_u L N (L a)) := by
  obtain ⟨sa1, sa2⟩ := T.2.1 h (by omega)
  rw [ha] at sa1 sa2
  have aN : a ≠ N := by omega
  refine ⟨fun n hn => ?_, fun i hi => ?_, fun p hp => ?_⟩
  · by_cases e' : n = N
    · subst e'
      unfold cr_nd
      rw [cr_us, cr_us, cr_us, cr_us, cr_us, cr_us, cr_un aN, cr_un aN, cr_un aN, cr_un aN, cr_us]
      exact Or.inr (Or.inr (Or.inr ⟨hk, hk5, sa1, rfl, he, fun p => Iff.rfl, fun p => Iff.rfl⟩))
    · have hn' : n < N := by omega
      refine cr_ndk (T.1 n hn') (Nat.le_refl _) (cr_ag hn') (fun p hp => ⟨rfl, rfl⟩) (fun j hj hp => ?_)
      have e1 : j ≠ N := by omega
      have e3 : j ≠ a := by intro z; rw [z] at hp; omega
      rw [cr_un e1, cr_un e3]; exact hp
  · by_cases e' : i = h
    · subst e'
      rw [cr_us, cr_us]
      exact ⟨by omega, rfl⟩
    · rw [cr_un e']
      obtain ⟨h1, h2⟩ := T.2.1 i (by omega)
      have e1 : S i ≠ N := by omega
      have e3 : S i ≠ a := by intro z; rw [z] at h2; omega
      rw [cr_un e1, cr_un e3]
      exact ⟨by omega, h2⟩
  · obtain ⟨h1, h2, h3⟩ := T.2.2 p hp
    have e2 : ln p ≠ N := by omega
    rw [cr_un e2, cr_un e2]
    exact ⟨by omega, h2, h3⟩
/-- what follows what, with a node more -/
theorem cr_foS {k a c q p : Nat} {f l : Nat → Prop} (T : cr_tr lv h N K A B S ln ls par E F L) (hk : k ≠ 0 → a < N ∧ c < N) :
    cr_fo (N + 1) (cr_u K N k) (cr_u A N a) (cr_u B N c) (cr_u F N f) (cr_u L N l) q p ↔ cr_fo N K A B F L q p ∨ (k = 1 ∧ L a q ∧ F c p) ∨ ((k = 3 ∨ k = 4) ∧ L a q ∧ F a p) := by
  have old : ∀ m, m < N → (((cr_u K N k m = 1 ∧ cr_u L N l (cr_u A N a m) q ∧ cr_u F N f (cr_u B N c m) p) ∨ ((cr_u K N k m = 3 ∨ cr_u K N k m = 4) ∧ cr_u L N l (cr_u A N a m) q ∧ cr_u F N f (cr_u A N a m) p)) ↔
      ((K m = 1 ∧ L (A m) q ∧ F (B m) p) ∨ ((K m = 3 ∨ K m = 4) ∧ L (A m) q ∧ F (A m) p))) := by
    intro m hm
    have nd := T.1 m hm
    have e : m ≠ N := by omega
    rw [cr_un e, cr_un e, cr_un e]
    by_cases k0 : K m = 0
    · rw [k0]; simp
    · have hA := (cr_ndA nd k0).1
      have eA : A m ≠ N := by omega
      rw [cr_un eA, cr_un eA]
      by_cases k1 : K m = 1
      · have hB := (cr_ndB nd (Or.inl k1)).1
        have eB : B m ≠ N := by omega
        rw [cr_un eB]
      · simp [k1]
  constructor
  · rintro ⟨m, hm, z⟩
    by_cases e : m = N
    · subst e
      rw [cr_us, cr_us, cr_us] at z
      have k0 : k ≠ 0 := by
        rcases z with z | z
        · omega
        · omega
      obtain ⟨ha, hc⟩ := hk k0
      have aN : a ≠ m := by omega
      have cN : c ≠ m := by omega
      rw [cr_un aN, cr_un aN, cr_un cN] at z
      exact Or.inr z
    · exact Or.inl ⟨m, by omega, (old m (by omega)).mp z⟩
  · rintro (⟨m, hm, z⟩ | z)
    · exact ⟨m, by omega, (old m hm).mpr z⟩
    · have k0 : k ≠ 0 := by
        rcases z with z | z
        · omega
        · omega
      obtain ⟨ha, hc⟩ := hk k0
      have aN : a ≠ N := by omega
      have cN : c ≠ N := by omega
      refine ⟨N, by omega, ?_⟩
      rw [cr_us, cr_us, cr_us, cr_un aN, cr_un aN, cr_un cN]
      exact z
end CRP
