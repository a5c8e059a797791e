section CRB
/-! X while building: what follows what, joins, wraps, a leaf -/
variable {xL xW xP xT xC xR xN xH : Int32} {aC aL aT aE aB aF iE iF iL hx : Nat → Int32} {lv h rm : Nat}
theorem cx_lfl {post : St2 → Prop} {s t : Int32} (hl : lv ≤ 12) : ∀ n i f, lv - i < n → i ≤ lv → (∀ q, q < i → ∀ p, (bt (f q) p = true ↔ bt (aF q) p = true ∨ (bt s q = true ∧ bt t p = true))) → (∀ q, i ≤ q → f q = aF q) →
    (∀ f', (∀ q, q < lv → ∀ p, (bt (f' q) p = true ↔ bt (aF q) p = true ∨ (bt s q = true ∧ bt t p = true))) → post (xL, xW, xP, xT, nI lv, xR, xN, xH, aC, aL, aT, aE, aB, f', iE, iF, iL, hx)) → wX_letFollow_2 post s t xL xW xP xT (nI lv) xR xN xH n (nI i) aC aL aT aE aB f iE iF iL hx := by
  intro n
  induction n with
  | zero => intro i f h; omega
  | succ n ih =>
    intro i f hn hi o1 o2 H
    rcases Nat.lt_or_ge i lv with h | h
    · have cp : (nI i).toNatClampNeg = i := nI_clamp (by omega)
      have hin : vp_in (nI i) 12 := vp_in_nI (by omega) (by decide)
      refine br_f (nI_ge h (by omega)) (cx_con (by omega) (fun z => br_f cr_10 ⟨hin, hin, nm_r (e' := upd f i (f i ||| t)) (by rw [cp]) (nm_r (nI_1 i) (ih (i + 1) _ (by omega) (by omega) (fun q hq p => ?_) (fun q hq => ?_) H))⟩) (fun z => br_t rfl (nm_r (nI_1 i) (ih (i + 1) _ (by omega) (by omega) (fun q hq p => ?_) (fun q hq => ?_) H))))
      · by_cases e : q = i
        · subst e
          rw [pk_us, b_or, Bool.or_eq_true, o2 q (Nat.le_refl q)]
          exact ⟨fun k => k.elim Or.inl (fun k => Or.inr ⟨z, k⟩), fun k => k.elim Or.inl (fun k => Or.inr k.2)⟩
        · rw [pk_un e]; exact o1 q (by omega) p
      · rw [pk_un (by omega)]; exact o2 q (by omega)
      · by_cases e : q = i
        · subst e
          rw [o2 q (Nat.le_refl q)]
          exact ⟨Or.inl, fun k => k.elim id (fun k => by rw [z] at k; exact absurd k.1 (by decide))⟩
        · exact o1 q (by omega) p
      · exact o2 q (by omega)
    · exact br_t (nI_le h (by omega)) (H f (fun q hq p => o1 q (by omega) p))
theorem cx_lf {post : St2 → Prop} {s t : Int32} (hl : lv ≤ 12) (H : ∀ f', (∀ q, q < lv → ∀ p, (bt (f' q) p = true ↔ bt (aF q) p = true ∨ (bt s q = true ∧ bt t p = true))) → post (xL, xW, xP, xT, nI lv, xR, xN, xH, aC, aL, aT, aE, aB, f', iE, iF, iL, hx)) :
    wpX_letFollow post (xL, xW, xP, xT, nI lv, xR, xN, xH, aC, aL, aT, aE, aB, aF, iE, iF, iL, hx) s t :=
  ⟨lv + 1, cx_lfl hl (lv + 1) 0 aF (by omega) (by omega) (fun q hq => by omega) (fun q _ => rfl) H⟩
/-- item l of the stack is a new one -/
def cr_it (l : Nat) (iE iF iL e' f' l' : Nat → Int32) (e : Prop) (f la : Nat → Prop) : Prop :=
  (∀ i, i ≠ l → e' i = iE i ∧ f' i = iF i ∧ l' i = iL i) ∧ (¬ e' l = 0 ↔ e) ∧ (∀ p, bt (f' l) p = true ↔ f p) ∧ (∀ p, bt (l' l) p = true ↔ la p)
theorem cr_bo {x y : Int32} {p : Nat} : bt (x ||| y) p = true ↔ bt x p = true ∨ bt y p = true := by rw [b_or, Bool.or_eq_true]
theorem cx_cat {post : St2 → Prop} {l r : Nat} (hl : lv ≤ 12) (l12 : l < 12) (r12 : r < 12) (hn : l ≠ r)
    (H : ∀ f' e1 f1 l1, (∀ q, q < lv → ∀ p, (bt (f' q) p = true ↔ bt (aF q) p = true ∨ (bt (iL l) q = true ∧ bt (iF r) p = true))) →
      cr_it l iE iF iL e1 f1 l1 (¬ iE l = 0 ∧ ¬ iE r = 0) (fun p => bt (iF l) p = true ∨ (¬ iE l = 0 ∧ bt (iF r) p = true)) (fun p => bt (iL r) p = true ∨ (¬ iE r = 0 ∧ bt (iL l) p = true)) →
      post (xL, xW, xP, xT, nI lv, xR, xN, xH, aC, aL, aT, aE, aB, f', e1, f1, l1, hx)) : wpX_concatenate post (xL, xW, xP, xT, nI lv, xR, xN, xH, aC, aL, aT, aE, aB, aF, iE, iF, iL, hx) (nI l) (nI r) := by
  have cl : (nI l).toNatClampNeg = l := nI_clamp (by omega)
  have cr : (nI r).toNatClampNeg = r := nI_clamp (by omega)
  have il : vp_in (nI l) 12 := vp_in_nI l12 (by decide)
  have ir : vp_in (nI r) 12 := vp_in_nI r12 (by decide)
  refine ⟨il, ir, ?_⟩
  rw [cl, cr]
  refine cx_lf hl (fun f' hf => ?_)
  -- the end: empty
  have c79 : ∀ f1 l1, (∀ i, i ≠ l → f1 i = iF i ∧ l1 i = iL i) → (∀ p, bt (f1 l) p = true ↔ bt (iF l) p = true ∨ (¬ iE l = 0 ∧ bt (iF r) p = true)) → (∀ p, bt (l1 l) p = true ↔ bt (iL r) p = true ∨ (¬ iE r = 0 ∧ bt (iL l) p = true)) →
      wX_concatenate_79 post (nI l) (nI r) xL xW xP xT (nI lv) xR xN xH aC aL aT aE aB f' iE f1 l1 hx := by
    intro f1 l1 o1 o2 o3
    have fin : ∀ e : Int32, (¬ e = 0 ↔ ¬ iE l = 0 ∧ ¬ iE r = 0) → post (xL, xW, xP, xT, nI lv, xR, xN, xH, aC, aL, aT, aE, aB, f', upd iE l e, f1, l1, hx) := by
      intro e he
      refine H f' _ f1 l1 hf ⟨fun i hi => ⟨pk_un hi, o1 i hi⟩, ?_, o2, o3⟩
      rw [pk_us]; exact he
    refine ⟨il, ?_⟩
    by_cases z : iE l = 0
    · exact br_t (by rw [cl]; exact z) ⟨il, nm_r (cr_ub0 (by omega)) (fin 0 ⟨fun k => absurd rfl k, fun k => absurd z k.1⟩)⟩
    · refine br_f (by rw [cl]; exact z) ⟨ir, ?_⟩
      by_cases w : iE r = 0
      · exact br_t (by rw [cr]; exact w) ⟨il, nm_r (cr_ub0 (by omega)) (fin 0 ⟨fun k => absurd rfl k, fun k => absurd w k.2⟩)⟩
      · exact br_f (by rw [cr]; exact w) ⟨il, nm_r (cr_ub1 (by omega)) (fin 1 ⟨fun _ => ⟨z, w⟩, fun _ => cr_10⟩)⟩
  have c40 : ∀ f1, (∀ i, i ≠ l → f1 i = iF i) → (∀ p, bt (f1 l) p = true ↔ bt (iF l) p = true ∨ (¬ iE l = 0 ∧ bt (iF r) p = true)) → wX_concatenate_40 post (nI l) (nI r) xL xW xP xT (nI lv) xR xN xH aC aL aT aE aB f' iE f1 iL hx := by
    intro f1 o1 o2
    refine ⟨ir, ?_⟩
    by_cases w : iE r = 0
    · refine br_t (by rw [cr]; exact w) ⟨ir, il, nm_r (e' := upd iL l (iL r)) (by rw [cl, cr]) (c79 f1 _ (fun i hi => ⟨o1 i hi, pk_un hi⟩) o2 (fun p => ?_))⟩
      rw [pk_us]
      exact ⟨Or.inl, fun k => k.elim id (fun k => absurd w k.1)⟩
    · refine br_f (by rw [cr]; exact w) ⟨il, ir, il, nm_r (e' := upd iL l (iL l ||| iL r)) (by rw [cl, cr]) (c79 f1 _ (fun i hi => ⟨o1 i hi, pk_un hi⟩) o2 (fun p => ?_))⟩
      rw [pk_us, cr_bo]
      exact ⟨fun k => k.elim (fun k => Or.inr ⟨w, k⟩) Or.inl, fun k => k.elim Or.inr (fun k => Or.inl k.2)⟩
  refine ⟨il, ?_⟩
  by_cases z : iE l = 0
  · exact br_t z (c40 iF (fun i _ => rfl) (fun p => ⟨Or.inl, fun k => k.elim id (fun k => absurd z k.1)⟩))
  · refine br_f z ⟨il, ir, il, nm_r (e' := upd iF l (iF l ||| iF r)) rfl (c40 _ (fun i hi => pk_un hi) (fun p => ?_))⟩
    rw [pk_us, cr_bo]
    exact ⟨fun k => k.elim Or.inl (fun k => Or.inr ⟨z, k⟩), fun k => k.elim Or.inl (fun k => Or.inr k.2)⟩
theorem cx_alt {post : St2 → Prop} (h12 : h + 2 ≤ 12)
    (H : ∀ e1 f1 l1, cr_it h iE iF iL e1 f1 l1 (¬ iE h = 0 ∨ ¬ iE (h + 1) = 0) (fun p => bt (iF h) p = true ∨ bt (iF (h + 1)) p = true) (fun p => bt (iL h) p = true ∨ bt (iL (h + 1)) p = true) →
      post (xL, xW, xP, nI (h + 1), xC, xR, xN, xH, aC, aL, aT, aE, aB, aF, e1, f1, l1, hx)) : wpX_joinUppermost post (xL, xW, xP, nI (h + 2), xC, xR, xN, xH, aC, aL, aT, aE, aB, aF, iE, iF, iL, hx) 2 := by
  have cl : (nI h).toNatClampNeg = h := nI_clamp (by omega)
  have cr : (nI (h + 1)).toNatClampNeg = h + 1 := nI_clamp (by omega)
  have il : vp_in (nI h) 12 := vp_in_nI (by omega) (by decide)
  have ir : vp_in (nI (h + 1)) 12 := vp_in_nI (by omega) (by decide)
  have c56 : ∀ e : Int32, (e = 0 ∨ e = 1) → (¬ e = 0 ↔ ¬ iE h = 0 ∨ ¬ iE (h + 1) = 0) → wX_joinUppermost_56 post (nI h) (nI (h + 1)) e (nI h) xL xW xP (nI (h + 2)) xC xR xN xH aC aL aT aE aB aF iE iF iL hx := by
    intro e he hee
    refine ⟨il, nm_r (cr_ub (by omega) he) ⟨il, ir, il, nm_r (e' := upd iF h (iF h ||| iF (h + 1))) (by rw [cl, cr]) ⟨il, ir, il, nm_r (e' := upd iL h (iL h ||| iL (h + 1))) (by rw [cl, cr]) (nm_r (e' := nI (h + 1)) (cr_s1' (by omega)) (H _ _ _ ⟨fun i hi => ⟨pk_un hi, pk_un hi, pk_un hi⟩, ?_, fun p => ?_, fun p => ?_⟩))⟩⟩⟩
    · rw [pk_us]; exact hee
    · rw [pk_us, cr_bo]
    · rw [pk_us, cr_bo]
  refine nm_r (e' := nI h) (pk_sub (a := h + 2) (b := 2) (by omega)) (nm_r (e' := nI (h + 1)) (cr_s1' (by omega)) (br_f (by decide) ⟨il, ?_⟩))
  by_cases z : iE h = 0
  · refine br_t (by rw [cl]; exact z) ⟨ir, ?_⟩
    by_cases w : iE (h + 1) = 0
    · exact br_t (by rw [cr]; exact w) (c56 0 (Or.inl rfl) ⟨fun k => absurd rfl k, fun k => k.elim (fun k => absurd z k) (fun k => absurd w k)⟩)
    · exact br_f (by rw [cr]; exact w) (c56 1 (Or.inr rfl) ⟨fun _ => Or.inr w, fun _ => cr_10⟩)
  · exact br_f (by rw [cl]; exact z) (c56 1 (Or.inr rfl) ⟨fun _ => Or.inl z, fun _ => cr_10⟩)
theorem cx_join1 {post : St2 → Prop} (hl : lv ≤ 12) (h12 : h + 2 ≤ 12)
    (H : ∀ f' e1 f1 l1, (∀ q, q < lv → ∀ p, (bt (f' q) p = true ↔ bt (aF q) p = true ∨ (bt (iL h) q = true ∧ bt (iF (h + 1)) p = true))) →
      cr_it h iE iF iL e1 f1 l1 (¬ iE h = 0 ∧ ¬ iE (h + 1) = 0) (fun p => bt (iF h) p = true ∨ (¬ iE h = 0 ∧ bt (iF (h + 1)) p = true)) (fun p => bt (iL (h + 1)) p = true ∨ (¬ iE (h + 1) = 0 ∧ bt (iL h) p = true)) →
      post (xL, xW, xP, nI (h + 1), nI lv, xR, xN, xH, aC, aL, aT, aE, aB, f', e1, f1, l1, hx)) : wpX_joinUppermost post (xL, xW, xP, nI (h + 2), nI lv, xR, xN, xH, aC, aL, aT, aE, aB, aF, iE, iF, iL, hx) 1 :=
  nm_r (e' := nI h) (pk_sub (a := h + 2) (b := 2) (by omega)) (nm_r (e' := nI (h + 1)) (cr_s1' (by omega)) (br_t rfl
    (cx_cat hl (by omega) (by omega) (by omega) (fun f' e1 f1 l1 a b => nm_r (e' := nI (h + 1)) (cr_s1' (by omega)) (H f' e1 f1 l1 a b)))))
theorem cx_wrap {post : St2 → Prop} {k : Nat} (hl : lv ≤ 12) (h12 : h + 1 ≤ 12) (k3 : 3 ≤ k) (k5 : k ≤ 5)
    (H : ∀ f' e1, (∀ q, q < lv → ∀ p, (bt (f' q) p = true ↔ bt (aF q) p = true ∨ ((k = 3 ∨ k = 4) ∧ bt (iL h) q = true ∧ bt (iF h) p = true))) →
      cr_it h iE iF iL e1 iF iL (k ≠ 4 ∨ ¬ iE h = 0) (fun p => bt (iF h) p = true) (fun p => bt (iL h) p = true) →
      post (xL, xW, xP, nI (h + 1), nI lv, nI rm, xN, xH, aC, aL, aT, aE, aB, f', e1, iF, iL, hx)) : wpX_wrapUppermost post (xL, xW, xP, nI (h + 1), nI lv, nI (rm + 1), xN, xH, aC, aL, aT, aE, aB, aF, iE, iF, iL, hx) (nI k) := by
  have cl : (nI h).toNatClampNeg = h := nI_clamp (by omega)
  have il : vp_in (nI h) 12 := vp_in_nI (by omega) (by decide)
  have c28 : ∀ f', (∀ q, q < lv → ∀ p, (bt (f' q) p = true ↔ bt (aF q) p = true ∨ ((k = 3 ∨ k = 4) ∧ bt (iL h) q = true ∧ bt (iF h) p = true))) → wX_wrapUppermost_28 post (nI k) (nI h) xL xW xP (nI (h + 1)) (nI lv) (nI (rm + 1)) xN xH aC aL aT aE aB f' iE iF iL hx := by
    intro f' hf
    refine pk_eq k 4 (fun z => nm_r (nI_pred rm) (H f' iE hf ⟨fun i _ => ⟨rfl, rfl, rfl⟩, ?_, fun p => Iff.rfl, fun p => Iff.rfl⟩)) (fun z => ⟨il, nm_r (cr_ub1 (by omega)) (nm_r (nI_pred rm) (H f' _ hf ⟨fun i hi => ⟨pk_un hi, rfl, rfl⟩, ?_, fun p => Iff.rfl, fun p => Iff.rfl⟩))⟩)
    · exact ⟨fun w => Or.inr w, fun w => w.elim (fun w => absurd z w) id⟩
    · rw [pk_us]
      exact ⟨fun _ => Or.inl z, fun _ => cr_10⟩
  refine nm_r (e' := nI h) (cr_s1' (by omega)) (pk_eq k 5 (fun z => c28 aF (fun q hq p => ?_)) (fun z => ⟨il, il, ?_⟩))
  · exact ⟨Or.inl, fun w => w.elim id (fun w => by omega)⟩
  · rw [cl]
    refine cx_lf hl (fun f' hf => c28 f' (fun q hq p => (hf q hq p).trans ?_))
    exact ⟨fun w => w.elim Or.inl (fun w => Or.inr ⟨by omega, w⟩), fun w => w.elim Or.inl (fun w => Or.inr w.2)⟩
/-! op -/
theorem cx_op1 {post : Int32 → St2 → Prop} (hl : lv ≤ 12) (h12 : h + 2 ≤ 12)
    (H : ∀ f' e1 f1 l1, (∀ q, q < lv → ∀ p, (bt (f' q) p = true ↔ bt (aF q) p = true ∨ (bt (iL h) q = true ∧ bt (iF (h + 1)) p = true))) →
      cr_it h iE iF iL e1 f1 l1 (¬ iE h = 0 ∧ ¬ iE (h + 1) = 0) (fun p => bt (iF h) p = true ∨ (¬ iE h = 0 ∧ bt (iF (h + 1)) p = true)) (fun p => bt (iL (h + 1)) p = true ∨ (¬ iE (h + 1) = 0 ∧ bt (iL h) p = true)) →
      post (nI (h + 1)) (xL, xW, 0, nI (h + 1), nI lv, xR, xN, xH, aC, aL, aT, aE, aB, f', e1, f1, l1, hx)) : wpX_op post (xL, xW, 0, nI (h + 2), nI lv, xR, xN, xH, aC, aL, aT, aE, aB, aF, iE, iF, iL, hx) 1 :=
  br_t rfl (br_f (by decide) (br_t (by decide) (br_t rfl (br_f cr_10 (br_t (nI_le (a := 2) (by omega) (by omega)) (br_f cr_10 (br_f cr_10 (cx_join1 hl h12 H))))))))
theorem cx_op2 {post : Int32 → St2 → Prop} (h12 : h + 2 ≤ 12)
    (H : ∀ e1 f1 l1, cr_it h iE iF iL e1 f1 l1 (¬ iE h = 0 ∨ ¬ iE (h + 1) = 0) (fun p => bt (iF h) p = true ∨ bt (iF (h + 1)) p = true) (fun p => bt (iL h) p = true ∨ bt (iL (h + 1)) p = true) →
      post (nI (h + 1)) (xL, xW, 0, nI (h + 1), xC, xR, xN, xH, aC, aL, aT, aE, aB, aF, e1, f1, l1, hx)) : wpX_op post (xL, xW, 0, nI (h + 2), xC, xR, xN, xH, aC, aL, aT, aE, aB, aF, iE, iF, iL, hx) 2 :=
  br_t rfl (br_f (by decide) (br_t (by decide) (br_f (by decide) (br_t rfl (br_f cr_10 (br_t (nI_le (a := 2) (by omega) (by omega)) (br_f cr_10 (br_f cr_10 (cx_alt h12 H)))))))))
theorem cx_op3 {post : Int32 → St2 → Prop} {k : Nat} (hl : lv ≤ 12) (h12 : h + 1 ≤ 12) (k3 : 3 ≤ k) (k5 : k ≤ 5) (hr : rm < 1000)
    (H : ∀ f' e1, (∀ q, q < lv → ∀ p, (bt (f' q) p = true ↔ bt (aF q) p = true ∨ ((k = 3 ∨ k = 4) ∧ bt (iL h) q = true ∧ bt (iF h) p = true))) →
      cr_it h iE iF iL e1 iF iL (k ≠ 4 ∨ ¬ iE h = 0) (fun p => bt (iF h) p = true) (fun p => bt (iL h) p = true) →
      post (nI (h + 1)) (xL, xW, 0, nI (h + 1), nI lv, nI rm, xN, xH, aC, aL, aT, aE, aB, f', e1, iF, iL, hx)) : wpX_op post (xL, xW, 0, nI (h + 1), nI lv, nI (rm + 1), xN, xH, aC, aL, aT, aE, aB, aF, iE, iF, iL, hx) (nI k) :=
  br_t rfl (br_f (nI_nlt (b := 1) (by omega) (by omega)) (br_t (nI_le (b := 5) k5 (by decide)) (pk_eq k 1 (fun z => by omega) (fun _ => pk_eq k 2 (fun z => by omega) (fun _ => br_t rfl (br_t (nI_le (a := 1) (by omega) (by omega)) (br_t rfl (br_t (nI_le (a := 1) (by omega) (by omega)) (br_t rfl (cx_wrap hl h12 k3 k5 H))))))))))
end CRB
