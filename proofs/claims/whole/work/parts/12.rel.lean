section CRR
/-! the relation -/
def cr_dy (lv : Nat) (tp bs : Nat → Nat) (hx hy : Nat → Int32) : Prop := ∀ p v, p < lv → 1 ≤ v → v < 225 → (v ≤ tp p → hx (bs p + v - 1) = hy (p * 225 + v)) ∧ (tp p < v → hy (p * 225 + v) = 0)
def cr_S (li ce rm lv h N : Nat) (K A B S ln ls tp bs par : Nat → Nat) (E : Nat → Prop) (F L : Nat → Nat → Prop) (aL aT aE aB aF iE iF iL mo lno sk ki lf rg : Nat → Int32) : Prop :=
  (2 ≤ li ∧ li ≤ 12 ∧ 8 ≤ ce ∧ ce ≤ 224 ∧ rm ≤ ce ∧ lv ≤ li ∧ h ≤ lv ∧ N + h ≤ (ce - rm) + lv) ∧
  cr_lf lv ls tp bs aL aT aE aB ∧ (∀ p, p < lv → bs p + tp p ≤ ce - rm) ∧ cr_mo lv ls tp aL mo ∧ (∀ p, p < lv → (¬ aE p = 0 ↔ mo p = -1)) ∧
  cr_tr lv h N K A B S ln ls par E F L ∧ cr_yt lv h N K A B S ln ls aL lno sk ki lf rg ∧
  (∀ i, i < h → (¬ iE i = 0 ↔ E (S i)) ∧ (∀ p, p < 12 → (bt (iF i) p = true ↔ F (S i) p)) ∧ (∀ p, p < 12 → (bt (iL i) p = true ↔ L (S i) p))) ∧
  (∀ q, q < lv → ∀ p, p < 12 → (bt (aF q) p = true ↔ cr_fo N K A B F L q p))
def cr_D (ph : Int32) (h len lv : Nat) (tp bs : Nat → Nat) (hx hy be dn : Nat → Int32) : Prop :=
  cr_dy lv tp bs hx hy ∧ cr_01 hx ∧ cr_01 hy ∧ cr_01 be ∧ cr_01 dn ∧ len ≤ 4000 ∧ (ph = 0 ∨ ph = 1 ∨ ph = 2) ∧ (¬ ph = 0 → h = 1) ∧ (ph = 0 → (∀ j, j < 224 → hx j = 0) ∧ ∀ j, j < 2700 → hy j = 0)
def i_Rel (_ : Nat) (u : SX) (v : SY) : Prop :=
  ∃ (li ce rm lv h N len : Nat) (K A B S ln ls tp bs par : Nat → Nat) (E : Nat → Prop) (F L : Nat → Nat → Prop) (ph hit yX : Int32) (aC aL aT aE aB aF iE iF iL hx mo lno sk ki lf rg hy nx be dn : Nat → Int32),
    u = (nI li, nI ce, ph, nI h, nI lv, nI rm, nI len, hit, aC, aL, aT, aE, aB, aF, iE, iF, iL, hx) ∧
    v = (nI li, nI ce, ph, nI h, nI lv, nI N, nI rm, nI len, hit, yX, aC, aL, mo, lno, sk, ki, lf, rg, hy, nx, be, dn) ∧
    cr_S li ce rm lv h N K A B S ln ls tp bs par E F L aL aT aE aB aF iE iF iL mo lno sk ki lf rg ∧ cr_D ph h len lv tp bs hx hy be dn
variable {k li ce rm lv h N len : Nat} {K A B S ln ls tp bs par : Nat → Nat} {E : Nat → Prop} {F L : Nat → Nat → Prop} {ph hit yX : Int32} {aC aL aT aE aB aF iE iF iL hx mo lno sk ki lf rg hy nx be dn : Nat → Int32}
theorem cr_mk (HS : cr_S li ce rm lv h N K A B S ln ls tp bs par E F L aL aT aE aB aF iE iF iL mo lno sk ki lf rg) (HD : cr_D ph h len lv tp bs hx hy be dn) : i_Rel k (nI li, nI ce, ph, nI h, nI lv, nI rm, nI len, hit, aC, aL, aT, aE, aB, aF, iE, iF, iL, hx) (nI li, nI ce, ph, nI h, nI lv, nI N, nI rm, nI len, hit, yX, aC, aL, mo, lno, sk, ki, lf, rg, hy, nx, be, dn) :=
  ⟨li, ce, rm, lv, h, N, len, K, A, B, S, ln, ls, tp, bs, par, E, F, L, ph, hit, yX, aC, aL, aT, aE, aB, aF, iE, iF, iL, hx, mo, lno, sk, ki, lf, rg, hy, nx, be, dn, rfl, rfl, HS, HD⟩
/-- nothing is built -/
theorem cr_S0 (h1 : 2 ≤ li) (h2 : li ≤ 12) (h3 : 8 ≤ ce) (h4 : ce ≤ 224) : cr_S li ce ce 0 0 0 K A B S ln ls tp bs par E F L aL aT aE aB aF iE iF iL mo lno sk ki lf rg :=
  ⟨⟨h1, h2, h3, h4, Nat.le_refl _, by omega, Nat.le_refl _, by omega⟩, ⟨by omega, fun p hp => by omega, fun p q _ hq => by omega⟩, fun p hp => by omega, fun p hp => by omega, fun p hp => by omega,
   ⟨fun n hn => by omega, fun i hi => by omega, fun p hp => by omega⟩, ⟨fun n hn => by omega, fun i hi => by omega, fun p hp => by omega⟩, fun i hi => by omega, fun q hq => by omega⟩
theorem cr_D0 (x01 : cr_01 hx) (y01 : cr_01 hy) (b01 : cr_01 be) (d01 : cr_01 dn) (x0 : ∀ j, j < 224 → hx j = 0) (y0 : ∀ j, j < 2700 → hy j = 0) : cr_D 0 0 0 0 tp bs hx hy be dn :=
  ⟨fun p v hp => by omega, x01, y01, b01, d01, by omega, Or.inl rfl, fun z => absurd rfl z, fun _ => ⟨x0, y0⟩⟩
/-! what X and Y reckon alike -/
theorem cr_CC (HS : cr_S li ce rm lv h N K A B S ln ls tp bs par E F L aL aT aE aB aF iE iF iL mo lno sk ki lf rg) (dy : cr_dy lv tp bs hx hy) {q : Nat} (hq : q < lv) : cr_C hx ls tp bs q ↔ cr_cy lv hy ls q := by
  have hm := HS.2.2.2.1 q hq
  constructor
  · rintro ⟨v, v1, v2, v3, v4⟩
    rw [(dy q v hq v1 (by omega)).1 v3] at v4
    exact ⟨hq, v, v1, by omega, v2, v4⟩
  · rintro ⟨_, v, v1, v2, v3, v4⟩
    rcases Nat.lt_or_ge (tp q) v with z | z
    · exact absurd ((dy q v hq v1 v2).2 z) v4
    · rw [← (dy q v hq v1 v2).1 z] at v4
      exact ⟨v, v1, v3, z, v4⟩
theorem cr_ss {g : Int32} (h12 : ph = 1 ∨ ph = 2) : (ph = 2 ∨ g = 0) ↔ cr_ys ph g := by
  unfold cr_ys
  rcases h12 with z | z
  · subst z
    exact ⟨fun k => k.elim (fun k => absurd k (by decide)) Or.inr, fun k => k.elim (fun k => absurd rfl k) Or.inr⟩
  · subst z
    exact ⟨fun _ => Or.inl (by decide), fun _ => Or.inl rfl⟩
theorem cr_AA {g : Int32} (HS : cr_S li ce rm lv 1 N K A B S ln ls tp bs par E F L aL aT aE aB aF iE iF iL mo lno sk ki lf rg) (dy : cr_dy lv tp bs hx hy) (h12 : ph = 1 ∨ ph = 2) : cr_xa ph g lv (cr_C hx ls tp bs) iE iL ↔ cr_ya ph g (S 0) lv E L hy ls := by
  obtain ⟨i1, i2, i3⟩ := HS.2.2.2.2.2.2.2.1 0 (by omega)
  have hl := HS.2.1.1
  unfold cr_xa cr_ya
  rw [cr_ss h12, i1]
  constructor
  · rintro (k | ⟨q, q1, q2, q3⟩)
    · exact Or.inl k
    · exact Or.inr ⟨q, (i3 q (by omega)).mp q2, (cr_CC HS dy q1).mp q3⟩
  · rintro (k | ⟨q, q1, q2⟩)
    · exact Or.inl k
    · have hq := q2.1
      exact Or.inr ⟨q, hq, (i3 q (by omega)).mpr q1, (cr_CC HS dy hq).mpr q2⟩
theorem cr_EE {g : Int32} (HS : cr_S li ce rm lv 1 N K A B S ln ls tp bs par E F L aL aT aE aB aF iE iF iL mo lno sk ki lf rg) (dy : cr_dy lv tp bs hx hy) (h12 : ph = 1 ∨ ph = 2) {p : Nat} (hp : p < lv) :
    cr_xn ph g lv (cr_C hx ls tp bs) aF iF p ↔ cr_en (cr_ys ph g) (S 0) N K A B F L (cr_cy lv hy ls) p := by
  obtain ⟨i1, i2, i3⟩ := HS.2.2.2.2.2.2.2.1 0 (by omega)
  have hf := HS.2.2.2.2.2.2.2.2
  have hl := HS.2.1.1
  unfold cr_xn cr_en
  rw [cr_ss h12, i2 p (by omega)]
  constructor
  · rintro (k | ⟨q, q1, q2, q3⟩)
    · exact Or.inl k
    · exact Or.inr ⟨q, (cr_CC HS dy q1).mp q2, (hf q q1 p (by omega)).mp q3⟩
  · rintro (k | ⟨q, q2, q3⟩)
    · exact Or.inl k
    · have hq := q2.1
      exact Or.inr ⟨q, hq, (cr_CC HS dy hq).mpr q2, (hf q hq p (by omega)).mpr q3⟩
theorem cr_WV {en en' : Nat → Prop} {x p v : Nat} (HS : cr_S li ce rm lv h N K A B S ln ls tp bs par E F L aL aT aE aB aF iE iF iL mo lno sk ki lf rg) (dy : cr_dy lv tp bs hx hy) (hp : p < lv) (he : en p ↔ en' p) (v1 : 1 ≤ v) (v2 : v ≤ tp p) :
    cr_W aC aE hx tp bs en x p v ↔ cr_V aC mo hy tp en' x p v := by
  have hm := HS.2.2.2.1 p hp
  have he2 := HS.2.2.2.2.1 p hp
  have e1 : hx (bs p + v - 1) = hy (p * 225 + v) := (dy p v hp v1 (by omega)).1 v2
  have e2 : 1 < v → hx (bs p + v - 2) = hy (p * 225 + v - 1) := by
    intro z
    have := (dy p (v - 1) hp (by omega) (by omega)).1 (by omega)
    rw [show bs p + (v - 1) - 1 = bs p + v - 2 by omega, show p * 225 + (v - 1) = p * 225 + v - 1 by omega] at this
    exact this
  unfold cr_W cr_V
  rw [he, he2, e1]
  constructor
  · rintro ⟨a, k | ⟨k1, k2⟩ | k⟩
    · exact ⟨a, Or.inl k⟩
    · rw [e2 k1] at k2; exact ⟨a, Or.inr (Or.inl ⟨k1, k2⟩)⟩
    · exact ⟨a, Or.inr (Or.inr k)⟩
  · rintro ⟨a, k | ⟨k1, k2⟩ | k⟩
    · exact ⟨a, Or.inl k⟩
    · rw [← e2 k1] at k2; exact ⟨a, Or.inr (Or.inl ⟨k1, k2⟩)⟩
    · exact ⟨a, Or.inr (Or.inr k)⟩
theorem cr_e01 {a b : Int32} (ha : a = 0 ∨ a = 1) (hb : b = 0 ∨ b = 1) (e : ¬ a = 0 ↔ ¬ b = 0) : a = b := by
  rcases ha with rfl | rfl
  · rcases hb with rfl | rfl
    · rfl
    · exact absurd rfl (e.mpr cr_10)
  · rcases hb with rfl | rfl
    · exact absurd rfl (e.mp cr_10)
    · rfl
end CRR
