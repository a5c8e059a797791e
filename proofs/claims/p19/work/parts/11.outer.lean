section CBO
/-! building: leaf by leaf -/
variable {L b n : Nat} {xs : Nat → Int32} {bs : Nat → Nat} {aC aL aT aE aB aF iE iF iL hx : Nat → Int32} {xN xH : Int32} {post : Int32 → Prop} {kc ks : Nat}
variable {J14 : cb_T14}
def cb_u (f : Nat → Nat) (k x : Nat) : Nat → Nat := fun j => if j = k then x else f j
theorem cb_us {f : Nat → Nat} {k x : Nat} : cb_u f k x k = x := if_pos rfl
theorem cb_un {f : Nat → Nat} {k j x : Nat} (h : j ≠ k) : cb_u f k x j = f j := if_neg h
theorem cb_Sl {i rm : Nat} {e : Int32} (S1 : cb_S L xs b i rm bs aC aL aT aE aB) (hi : i < 4) (ht : cl_t L xs b i ≤ rm) (he : e = 0 ∨ e = 1) (hee : ¬ e = 0 ↔ cl_M L xs b i = -1) :
    cb_S L xs b (i + 1) (rm - cl_t L xs b i) (cb_u bs i (224 - rm)) (upd aC i (nI (cl_m L xs b i))) (upd aL i (nI (cl_l L xs b i))) (upd aT i (nI (cl_t L xs b i))) (upd aE i e) (upd aB i (nI (224 - rm))) := by
  obtain ⟨⟨g1, g2, g3⟩, s2, s3⟩ := S1
  have tb := cl_tb (L := L) (xs := xs) (b := b) (p := i)
  refine ⟨⟨by omega, fun p hp => ?_, fun p q hpq hq => ?_⟩, fun p hp => ?_, by omega⟩
  · by_cases e' : p = i
    · subst e'
      rw [pk_us, pk_us, pk_us, pk_us, cb_us]
      exact ⟨rfl, rfl, rfl, he, tb.1, tb.2.2, by omega⟩
    · rw [pk_un e', pk_un e', pk_un e', pk_un e', cb_un e']
      exact g2 p (by omega)
  · have e' : p ≠ i := by omega
    rw [cb_un e']
    by_cases e2 : q = i
    · subst e2
      rw [cb_us]
      exact (s2 p hpq).2.2
    · rw [cb_un e2]
      exact g3 p q hpq (by omega)
  · by_cases e' : p = i
    · subst e'
      rw [pk_us, pk_us, cb_us]
      exact ⟨rfl, hee.trans cl_Me, by omega⟩
    · rw [pk_un e', pk_un e', cb_un e']
      obtain ⟨a1, a2, a3⟩ := s2 p (by omega)
      exact ⟨a1, a2, by omega⟩
theorem cb_Fl {i : Nat} {fol : Int32} (F1 : cb_F i fol aF) : cb_F (i + 1) fol (upd aF i 0) := by
  refine ⟨fun q p hq hp => ?_, fun q hq p hp z => ?_⟩
  · rw [F1.1 q p hq hp]
    by_cases e : q = i
    · subst e
      rw [pk_us, b_0]
      exact ⟨fun k => absurd k.1 (by omega), fun k => absurd k.2 (by decide)⟩
    · rw [pk_un e]
      exact ⟨fun k => ⟨by omega, k.2⟩, fun k => ⟨by omega, k.2⟩⟩
  · by_cases e : q = i
    · subst e
      rw [pk_us, b_0] at z
      exact absurd z (by decide)
    · rw [pk_un e] at z
      have := F1.2 q (by omega) p hp z
      omega
theorem cb_Rl {i h j w : Nat} {x y z : Int32} (hj : j ≠ h) (R : cb_R i iE iF iL j w) : cb_R (i + 1) (upd iE h z) (upd iF h x) (upd iL h y) j w := by
  obtain ⟨r1, r2, r3, r4, r5, r6⟩ := R
  unfold cb_R
  rw [pk_un hj, pk_un hj, pk_un hj]
  exact ⟨r1, r2, r3, r4, fun p hp q => by have := r5 p hp q; omega, fun p hp q => by have := r6 p hp q; omega⟩
theorem cb_Rl0 {i h z256 : Nat} {z : Int32} (hi : i < 4) (h256 : z256 = 0 ∨ z256 = 256) (hz : ¬ z = 0 ↔ z256 = 256) :
    cb_R (i + 1) (upd iE h z) (upd iF h ((1 : Int32) <<< (nI i &&& 31))) (upd iL h ((1 : Int32) <<< (nI i &&& 31))) h (17 * 2 ^ i ||| z256) := by
  obtain ⟨j1, j2, j3, j4⟩ := cl_leafw hi z256 h256
  unfold cb_R
  rw [pk_us, pk_us, pk_us]
  refine ⟨j1, hz.trans j2.symm, fun p hp => ?_, fun p hp => ?_, fun p hp q => ?_, fun p hp q => ?_⟩
  · rw [cr_sl (by omega) hp, decide_eq_true_iff]
    exact ⟨fun k => ⟨by omega, (j3 p (by omega)).mpr k⟩, fun k => (j3 p k.1).mp k.2⟩
  · rw [cr_sl (by omega) hp, decide_eq_true_iff]
    exact ⟨fun k => ⟨by omega, (j4 p (by omega)).mpr k⟩, fun k => (j4 p k.1).mp k.2⟩
  · have := (j3 p hp).mp q; omega
  · have := (j4 p hp).mp q; omega
theorem cb_49 (hL : L ≤ 260) (hb : b < 900) (hn4 : n ≤ 4)
    (Hend : ∀ rm w fol bs aC aL aT aE aB aF iE iF iL, cb_O L xs b n n 1 rm w fol bs aC aL aT aE aB aF iE iF iL → ∀ m, wL_law_49 post L xs J14 (nI b) (nI n) kc ks (m + 1) fol (nI 1) (nI (n - 1)) (nI w) (lN w) (nI n) (nI 4) (nI 224) 0 (nI 1) (nI n) (nI rm) xN xH aC aL aT aE aB aF iE iF iL hx) :
    ∀ m i h rm s fol x8 bs aC aL aT aE aB aF iE iF iL, n - i < m → cb_O L xs b n i h rm s fol bs aC aL aT aE aB aF iE iF iL → (i = n → x8 = nI s) →
    wL_law_49 post L xs J14 (nI b) (nI n) kc ks m fol (nI h) (nI (i - h)) x8 (lN s) (nI i) (nI 4) (nI 224) 0 (nI h) (nI i) (nI rm) xN xH aC aL aT aE aB aF iE iF iL hx := by
  intro m
  induction m with
  | zero => intro i h rm s fol x8 bs aC aL aT aE aB aF iE iF iL hm; omega
  | succ m ih =>
    intro i h rm s fol x8 bs aC aL aT aE aB aF iE iF iL hm O h8
    obtain ⟨⟨n1, n2, n3, n4, n5⟩, S1, F1, K1⟩ := id O
    rcases Nat.lt_or_ge i n with hlt | hge
    · have tb := cl_tb (L := L) (xs := xs) (b := b) (p := i)
      have mb := cl_mb (L := L) (xs := xs) (b := b) (p := i)
      have lb := cl_lb (L := L) (xs := xs) (b := b) (p := i)
      have hb' : b < 1000 := by omega
      have hi4 : i < 4 := by omega
      have rm3 := S1.2.2
      refine br_f (nI_ge hlt (by omega)) (cl_mask hL hb' hi4 (cl_least hL hb' hi4 (cl_most hL hb' hi4 ?_)))
      refine cx_leaf (li := 4) (ce := 224) hi4 (by decide) n3 rm3 (by decide) tb.1 (by omega) tb.2.2 (nI_nlt (b := 1) (by omega) (by omega)) (nI_nlt (a := 255) (by omega) (by omega)) cl_Mw (fun e z he hee hz => ?_)
      have go : ∀ z256 : Nat, (z256 = 0 ∨ z256 = 256) → (¬ z = 0 ↔ z256 = 256) → wL_law_106 post L xs J14 (wL_law_49 post L xs J14 (nI b) (nI n) kc ks m) (nI b) (nI n) fol (nI h) (nI (i - h)) (lN s) (nI i) (nI z256) (((1 : Int32) <<< (nI i &&& 31)) * 17) kc ks (nI 4) (nI 224) 0 (nI (h + 1)) (nI (i + 1)) (nI (rm - cl_t L xs b i)) xN xH (upd aC i (nI (cl_m L xs b i))) (upd aL i (nI (cl_l L xs b i))) (upd aT i (nI (cl_t L xs b i))) (upd aE i e) (upd aB i (nI (224 - rm))) (upd aF i 0) (upd iE h z) (upd iF h ((1 : Int32) <<< (nI i &&& 31))) (upd iL h ((1 : Int32) <<< (nI i &&& 31))) hx := by
        intro z256 h256 hz256
        have ei : (nI b + (4 * nI i)) + 4 = nI (b + 4 * i + 4) := cl_ix 4
        have hg := cl_nl (L := L) (xs := xs) (k := b + 4 * i + 4)
        refine nm_r (e' := nI (17 * 2 ^ i ||| z256)) (by rw [cl_17 i hi4, cl_nor]) ?_
        rw [ei]
        refine cl_num hL (by omega) ⟨by decide, nm_r (pk_rem hg (by decide) (by decide)) ?_⟩
        generalize cl_n L xs (b + 4 * i + 4) = g at hg ⊢
        have l144 : ∀ lim : Nat, lim ≤ 3 → (i + 1 = n → lim = 3) → wL_law_144 post L xs J14 (wL_law_49 post L xs J14 (nI b) (nI n) kc ks m) (nI b) (nI n) fol (nI h) (nI (i - h)) (nI (17 * 2 ^ i ||| z256)) (lN s) (nI i) (nI (g % 24)) (nI lim) kc ks (nI 4) (nI 224) 0 (nI (h + 1)) (nI (i + 1)) (nI (rm - cl_t L xs b i)) xN xH (upd aC i (nI (cl_m L xs b i))) (upd aL i (nI (cl_l L xs b i))) (upd aT i (nI (cl_t L xs b i))) (upd aE i e) (upd aB i (nI (224 - rm))) (upd aF i 0) (upd iE h z) (upd iF h ((1 : Int32) <<< (nI i &&& 31))) (upd iL h ((1 : Int32) <<< (nI i &&& 31))) hx := by
          intro lim hl3 hln
          unfold wL_law_144
          refine cl_un (by omega) ⟨lim + 2, ?_⟩
          refine cb_156 hL hb hl3 hln (fun h' u' rm' w' s' fol' aF' iE' iF' iL' I' => ?_) (lim + 2) 0 h (cl_u (g % 24)) (rm - cl_t L xs b i) (17 * 2 ^ i ||| z256) s fol _ _ _ _ (by omega) (by omega) ⟨⟨hlt, n2, n3, cl_ub _, ?_, fun q => by omega⟩, cb_Sl S1 hi4 (by omega) he hee, cb_Fl F1, cb_Km h s (fun q hq v hv => cb_Rl (by omega) hv) K1, cb_Rl0 hi4 h256 hz256⟩
          · obtain ⟨⟨a1, a2, a3, a4, a5, a6⟩, A1, A2, A3, A4⟩ := I'
            have w512 := A4.1
            have hh : i + 1 = n → h' = 0 := fun q => by have := a6 q; have := hln q; omega
            rw [show i - h' = (i + 1) - (h' + 1) by omega]
            refine ih (i + 1) (h' + 1) rm' (s' * 512 + w') fol' (nI w') _ _ _ _ _ _ aF' iE' iF' iL' (by omega) ⟨⟨by omega, n2, by omega, ?_, fun q => by have := hh q; omega⟩, A1, A2, ?_, ?_⟩ (fun q => ?_)
            · have : (if u' = 0 then 0 else 1) ≥ 0 := Nat.zero_le _
              omega
            · rw [show (s' * 512 + w') % 512 = w' by omega]; exact A4
            · rw [show (s' * 512 + w') / 512 = s' by omega]; exact A3
            · have h0 := hh q
              subst h0
              have es : s' = 0 := A3
              rw [es, Nat.zero_mul, Nat.zero_add]
          · split <;> omega
        have en : nI n - 1 = nI (n - 1) := cr_s1' (by omega)
        refine pk_eq i (n - 1) (fun q => l144 3 (by decide) (fun _ => rfl)) (fun q => ⟨by decide, ?_⟩) rfl en
        have e8 : nI (g % 24) / 8 = nI (g % 24 / 8) := pk_div (by omega) (by decide) (by decide)
        rw [e8]
        exact l144 (g % 24 / 8) (by omega) (fun q2 => by omega)
      refine cl_least hL hb' hi4 (pk_eq (cl_l L xs b i) 0 (fun q => go 256 (Or.inr rfl) ⟨fun _ => rfl, fun _ => hz.mpr q⟩) (fun q => go 0 (Or.inl rfl) ⟨fun k => absurd (hz.mp k) q, fun k => absurd k (by decide)⟩))
    · have ei : i = n := by omega
      subst ei
      have h1 := n5 rfl
      subst h1
      have es : s / 512 = 0 := K1.2
      rw [h8 rfl]
      exact Hend rm s fol bs aC aL aT aE aB aF iE iF iL O m
end CBO
