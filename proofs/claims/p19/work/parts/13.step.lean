section CDS
/-! the law's own steps -/
abbrev cd_T418 : Type := Int32 → Int32 → Int32 → Int64 → Int64 → Int64 → Int64 → Int32 → Int32 → Int32 → Int32 → Int32 → Int32 → Int32 → Int32 → Int32 → (Nat → Int32) → (Nat → Int32) → (Nat → Int32) → (Nat → Int32) → (Nat → Int32) → (Nat → Int32) → (Nat → Int32) → (Nat → Int32) → (Nat → Int32) → (Nat → Int32) → Prop
variable {L b n rm w len mode x t : Nat} {xs : Nat → Int32} {bs : Nat → Nat} {aC aL aT aE aB aF iE iF iL hx : Nat → Int32} {fol xH : Int32} {st : Prop} {H : Nat → Nat → Prop} {c : Nat → Nat}
variable {post : Int32 → Prop} {kc ks : Nat} {J14 : cb_T14} {J418 : cd_T418} {x2 x21 x25 x33 : Int32}
def cd_4 (a0 a1 a2 a3 : Nat) : Nat → Nat
  | 0 => a0
  | 1 => a1
  | 2 => a2
  | _ => a3
theorem cd_GW {p c' : Nat} {e : Int32} (T : cd_ST L xs b n rm w fol bs aC aL aT aE aB aF iE iF iL) (hp : p < 4) (hc : cd_c c H) (Hr : ∀ p v, H p v → p < n ∧ 1 ≤ v ∧ v ≤ cl_t L xs b p) (he : bt e p = true ↔ cd_en L xs b st w fol H p)
    (hG : ∀ v, c'.testBit v = true ↔ cl_G L xs b p (c p) e x v) : ∀ v, c'.testBit v = true ↔ cd_W L xs b n st w fol x H p v := by
  intro v
  have tb := cl_tb (L := L) (xs := xs) (b := b) (p := p)
  rw [hG v]
  constructor
  · rintro ⟨m, k | ⟨k1, k2, k3⟩ | ⟨k1, k2, k3⟩⟩
    · have hen := he.mp k.2
      exact ⟨cd_enb T hp hen, by omega, by omega, m, Or.inl ⟨k.1, hen⟩⟩
    · have hH := ((hc p hp).2 (v - 1)).mp k3
      have hr := Hr p (v - 1) hH
      exact ⟨hr.1, k1, k2, m, Or.inr (Or.inl ⟨by omega, hH⟩)⟩
    · have hH := ((hc p hp).2 v).mp k3
      have hr := Hr p v hH
      exact ⟨hr.1, hr.2.1, hr.2.2, m, Or.inr (Or.inr ⟨k1, k2, hH⟩)⟩
  · rintro ⟨p1, v1, v2, m, k | ⟨k1, k2⟩ | ⟨k1, k2, k3⟩⟩
    · exact ⟨m, Or.inl ⟨k.1, he.mpr k.2⟩⟩
    · exact ⟨m, Or.inr (Or.inl ⟨v1, v2, ((hc p hp).2 (v - 1)).mpr k2⟩)⟩
    · exact ⟨m, Or.inr (Or.inr ⟨k1, k2, ((hc p hp).2 v).mpr k3⟩)⟩
theorem cd_Qr (Hr : ∀ p v, H p v → p < n ∧ 1 ≤ v ∧ v ≤ cl_t L xs b p) : ∀ j p v, cd_Q L xs b n mode len w fol x H j p v → p < n ∧ 1 ≤ v ∧ v ≤ cl_t L xs b p := by
  intro j
  cases j with
  | zero => exact Hr
  | succ j => exact fun p v h => ⟨h.1, h.2.1, h.2.2.1⟩
theorem cd_Hr : ∀ p v, cd_H L xs b n bs hx p v → p < n ∧ 1 ≤ v ∧ v ≤ cl_t L xs b p := fun p v h => ⟨h.1, h.2.1, h.2.2.1⟩
theorem cd_exC {ex : Int32} (hc : cd_c c H) (hex : ∀ i, i < 32 → (bt ex i = true ↔ i < 4 ∧ ∃ v, cl_l L xs b i ≤ v ∧ (c i).testBit v = true)) {q : Nat} (hq : q < 4) : bt ex q = true ↔ cd_C L xs b H q := by
  rw [hex q (by omega)]
  constructor
  · rintro ⟨_, v, v1, v2⟩
    exact ⟨v, v1, ((hc q hq).2 v).mp v2⟩
  · rintro ⟨v, v1, v2⟩
    exact ⟨hq, v, v1, ((hc q hq).2 v).mpr v2⟩
theorem cd_990 (T : cd_ST L xs b n rm w fol bs aC aL aT aE aB aF iE iF iL) (hL : L ≤ 260) (hb : b < 1000) (hm : mode = 1 ∨ mode = 2) (hx8 : x < 8) (t1 : 1 ≤ t) (t16 : t ≤ 16) (hl : len + t ≤ 4000) (x01 : cr_01 hx)
    (HJ : ∀ c g hit, cr_01 g → cd_c c (cd_H L xs b n bs g) → J418 x2 (nI mode) (nI (len + t)) (lN (c 0)) (lN (c 1)) (lN (c 2)) (lN (c 3)) x21 (nI 4) (nI 224) (nI mode) (nI 1) (nI n) (nI rm) (nI (len + t)) hit aC aL aT aE aB aF iE iF iL g) :
    ∀ d j c, j + d = t → cd_c c (cd_Q L xs b n mode len w fol x (cd_H L xs b n bs hx) j) →
    wL_law_990 post L xs J14 J418 x2 (nI b) (nI n) fol (nI w) (nI mode) x21 (nI x) (nI t) kc ks (nI 4) (nI 224) (nI mode) (nI 1) (nI n) (nI rm) (nI len) xH aC aL aT aE aB aF iE iF iL hx (d + 1) (nI (len + j)) (lN (c 0)) (lN (c 1)) (lN (c 2)) (lN (c 3)) (nI (cd_hit (fun j => cd_a L xs b (mode = 2) w (cd_Q L xs b n mode len w fol x (cd_H L xs b n bs hx) j)) j)) (nI j) := by
  have w512 := T.2.2.2.1
  intro d
  induction d with
  | zero =>
    intro j c hj hc
    have e : j = t := by omega
    subst e
    exact br_t (nI_le (Nat.le_refl j) (by omega)) (cd_feed T hm hx8 t1 t16 hl x01 (fun g hit g01 hg => br_t rfl (HJ c g hit g01 (by rw [hg]; exact hc))))
  | succ d ih =>
    intro j c hj hc
    have Hr : ∀ p v, cd_Q L xs b n mode len w fol x (cd_H L xs b n bs hx) j p v → p < n ∧ 1 ≤ v ∧ v ≤ cl_t L xs b p := cd_Qr cd_Hr j
    refine br_f (nI_ge (by omega) (by omega)) (cl_ex hL hb (fun p hp => (hc p hp).1) (fun ex hex => cl_fol (fun fo hfo => ?_)))
    have hfo' : ∀ p, p < 4 → (bt fo p = true ↔ ∃ q, q < 4 ∧ cd_C L xs b (cd_Q L xs b n mode len w fol x (cd_H L xs b n bs hx) j) q ∧ bt fol (4 * q + p) = true) := by
      intro p hp
      rw [hfo p (by omega)]
      constructor
      · rintro ⟨_, q, q1, q2, q3⟩
        exact ⟨q, q1, (cd_exC hc hex q1).mp q2, q3⟩
      · rintro ⟨q, q1, q2, q3⟩
        exact ⟨hp, q, q1, (cd_exC hc hex q1).mpr q2, q3⟩
    have l1112 : ∀ (c' : Nat → Nat) (o : Int32), cd_c c' (cd_Q L xs b n mode len w fol x (cd_H L xs b n bs hx) (j + 1)) → (¬ o = 0 ↔ mode = 2) →
        wL_law_1112 post L xs J14 J418 (wL_law_990 post L xs J14 J418 x2 (nI b) (nI n) fol (nI w) (nI mode) x21 (nI x) (nI t) kc ks (nI 4) (nI 224) (nI mode) (nI 1) (nI n) (nI rm) (nI len) xH aC aL aT aE aB aF iE iF iL hx (d + 1)) x2 (nI b) (nI n) fol (nI w) (nI mode) (nI (len + j + 1)) (lN (c' 0)) (lN (c' 1)) (lN (c' 2)) (lN (c' 3)) x21 (nI x) (nI t) (nI (cd_hit (fun j => cd_a L xs b (mode = 2) w (cd_Q L xs b n mode len w fol x (cd_H L xs b n bs hx) j)) j)) (nI j) o (nI w) kc ks (nI 4) (nI 224) (nI mode) (nI 1) (nI n) (nI rm) (nI len) xH aC aL aT aE aB aF iE iF iL hx := by
      intro c' o hc' ho
      unfold wL_law_1112
      refine cl_ex hL hb (fun p hp => (hc' p hp).1) (fun ex' hex' => ?_)
      have hacc : ((¬ o = 0 ∧ w.testBit 8 = true) ∨ ∃ q, q < 4 ∧ bt ex' q = true ∧ w.testBit q = true) ↔ cd_a L xs b (mode = 2) w (cd_Q L xs b n mode len w fol x (cd_H L xs b n bs hx) (j + 1)) := by
        unfold cd_a
        rw [ho]
        constructor
        · rintro (k | ⟨q, q1, q2, q3⟩)
          · exact Or.inl k
          · exact Or.inr ⟨q, q1, (cd_exC hc' hex' q1).mp q2, q3⟩
        · rintro (k | ⟨q, q1, q2, q3⟩)
          · exact Or.inl k
          · exact Or.inr ⟨q, q1, (cd_exC hc' hex' q1).mpr q2, q3⟩
      have nxt := ih (j + 1) c' (by omega) hc'
      refine cl_acc w512 (fun z => br_f cr_10 (nm_r (nI_1 _) (nm_r (nI_1 j) ?_))) (fun z => br_t rfl (nm_r (nI_1 j) ?_))
      · rw [cd_h1 (acc := fun j => cd_a L xs b (mode = 2) w (cd_Q L xs b n mode len w fol x (cd_H L xs b n bs hx) j)) (hacc.mp z)] at nxt
        exact nxt
      · rw [cd_h0 (acc := fun j => cd_a L xs b (mode = 2) w (cd_Q L xs b n mode len w fol x (cd_H L xs b n bs hx) j)) (fun q => z (hacc.mpr q))] at nxt
        exact nxt
    have l1040 : ∀ e : Int32, (∀ p, p < 4 → (bt e p = true ↔ cd_en L xs b (mode = 2 ∨ len + j = 0) w fol (cd_Q L xs b n mode len w fol x (cd_H L xs b n bs hx) j) p)) →
        wL_law_1040 post L xs J14 J418 (wL_law_990 post L xs J14 J418 x2 (nI b) (nI n) fol (nI w) (nI mode) x21 (nI x) (nI t) kc ks (nI 4) (nI 224) (nI mode) (nI 1) (nI n) (nI rm) (nI len) xH aC aL aT aE aB aF iE iF iL hx (d + 1)) x2 (nI b) (nI n) fol (nI w) (nI mode) (nI (len + j)) (lN (c 0)) (lN (c 1)) (lN (c 2)) (lN (c 3)) x21 e (nI x) (nI t) (nI (cd_hit (fun j => cd_a L xs b (mode = 2) w (cd_Q L xs b n mode len w fol x (cd_H L xs b n bs hx) j)) j)) (nI j) kc ks (nI 4) (nI 224) (nI mode) (nI 1) (nI n) (nI rm) (nI len) xH aC aL aT aE aB aF iE iF iL hx := by
      intro e he
      unfold wL_law_1040
      refine cl_grow (p := 0) hL hb (by decide) hx8 (hc 0 (by decide)).1 (fun a0 s0 g0 => ?_)
      refine cl_grow (p := 1) hL hb (by decide) hx8 (hc 1 (by decide)).1 (fun a1 s1 g1 => ?_)
      refine cl_grow (p := 2) hL hb (by decide) hx8 (hc 2 (by decide)).1 (fun a2 s2 g2 => ?_)
      refine cl_grow (p := 3) hL hb (by decide) hx8 (hc 3 (by decide)).1 (fun a3 s3 g3 => nm_r (nI_1 (len + j)) ?_)
      have hc' : cd_c (cd_4 a0 a1 a2 a3) (cd_Q L xs b n mode len w fol x (cd_H L xs b n bs hx) (j + 1)) := by
        intro p hp
        have hp' : p = 0 ∨ p = 1 ∨ p = 2 ∨ p = 3 := by omega
        rcases hp' with rfl | rfl | rfl | rfl
        · exact ⟨s0, cd_GW T (by decide) hc Hr (he 0 (by decide)) g0⟩
        · exact ⟨s1, cd_GW T (by decide) hc Hr (he 1 (by decide)) g1⟩
        · exact ⟨s2, cd_GW T (by decide) hc Hr (he 2 (by decide)) g2⟩
        · exact ⟨s3, cd_GW T (by decide) hc Hr (he 3 (by decide)) g3⟩
      by_cases m2 : mode = 2
      · exact br_t ((cd_m2 hm).mpr m2) (l1112 (cd_4 a0 a1 a2 a3) 1 hc' ⟨fun _ => m2, fun _ => cr_10⟩)
      · exact br_f (fun q => m2 ((cd_m2 hm).mp q)) (l1112 (cd_4 a0 a1 a2 a3) 0 hc' ⟨fun q => absurd rfl q, fun q => absurd q m2⟩)
    have l1028 : (mode = 2 ∨ len + j = 0) → wL_law_1028 post L xs J14 J418 (wL_law_990 post L xs J14 J418 x2 (nI b) (nI n) fol (nI w) (nI mode) x21 (nI x) (nI t) kc ks (nI 4) (nI 224) (nI mode) (nI 1) (nI n) (nI rm) (nI len) xH aC aL aT aE aB aF iE iF iL hx (d + 1)) x2 (nI b) (nI n) fol (nI w) (nI mode) (nI (len + j)) (lN (c 0)) (lN (c 1)) (lN (c 2)) (lN (c 3)) x21 fo (nI x) (nI t) (nI (cd_hit (fun j => cd_a L xs b (mode = 2) w (cd_Q L xs b n mode len w fol x (cd_H L xs b n bs hx) j)) j)) (nI j) kc ks (nI 4) (nI 224) (nI mode) (nI 1) (nI n) (nI rm) (nI len) xH aC aL aT aE aB aF iE iF iL hx := by
      intro z
      refine nm_e (l1040 _ (fun p hp => ?_))
      rw [cr_bo, hfo' p hp, cl_hi (by omega)]
      unfold cd_en
      exact ⟨fun k => k.elim Or.inr (fun k => Or.inl ⟨z, k.2⟩), fun k => k.elim (fun k => Or.inr ⟨hp, k.2⟩) Or.inl⟩
    by_cases m2 : mode = 2
    · exact br_t ((cd_m2 hm).mpr m2) (l1028 (Or.inl m2))
    · refine br_f (fun q => m2 ((cd_m2 hm).mp q)) ?_
      by_cases l0 : len + j = 0
      · exact br_t ((cd_l0 (by omega)).mpr l0) (l1028 (Or.inr l0))
      · refine br_f (fun q => l0 ((cd_l0 (by omega)).mp q)) (l1040 _ (fun p hp => ?_))
        rw [hfo' p hp]
        unfold cd_en
        exact ⟨Or.inr, fun k => k.elim (fun k => absurd k.1 (fun q => q.elim m2 l0)) id⟩
/-- a letter is chosen -/
theorem cd_950 (K : ∀ x, x < 8 → ∃ fu990 : Nat, wL_law_990 post L xs J14 J418 x2 (nI b) (nI n) fol (nI w) (nI mode) x21 (nI x) (nI t) kc ks (nI 4) (nI 224) (nI mode) (nI 1) (nI n) (nI rm) (nI len) xH aC aL aT aE aB aF iE iF iL hx fu990 (nI len) (lN (c 0)) (lN (c 1)) (lN (c 2)) (lN (c 3)) 0 0) :
    ∀ m j x, 8 - j < m → j ≤ 8 → x < 8 → wL_law_950 post L xs J14 J418 x2 (nI b) (nI n) fol (nI w) (nI mode) (nI len) (lN (c 0)) (lN (c 1)) (lN (c 2)) (lN (c 3)) x21 x25 (nI t) 0 x33 kc ks (nI 4) (nI 224) (nI mode) (nI 1) (nI n) (nI rm) (nI len) xH aC aL aT aE aB aF iE iF iL hx m (nI x) (nI j) := by
  intro m
  induction m with
  | zero => intro j x h; omega
  | succ m ih =>
    intro j x hm hj hx
    rcases Nat.lt_or_ge j 8 with h | h
    · refine br_f (nI_ge (b := 8) h (by decide)) ?_
      by_cases z : x33 = 0
      · exact br_t z (K x hx)
      · refine br_f z (cl_cb (by omega) (fun _ => nm_r (e' := nI ((x + 1) % 8)) ?_ (nm_r (nI_1 j) (ih (j + 1) ((x + 1) % 8) (by omega) (by omega) (by omega)))) (fun _ => K x hx))
        rw [nI_1]
        exact pk_andN (k := 3) (by omega) (by decide)
    · exact br_t (nI_le (a := 8) h (by omega)) (K x hx)
end CDS
