/-! halves: walks by their steps -/
def hk (c : Cv) (x k y : Nat) : Prop := ∃ n, Wk c (co c) x k y n
theorem hk_0 (c : Cv) (x : Nat) : hk c x 0 x := ⟨0, rfl, rfl⟩
theorem hk_s {c : Cv} {x k z y q : Nat} (h : hk c x k z) (e : edg c (co c) q z y) : hk c x (k + 1) y := by
  obtain ⟨n, h⟩ := h
  exact ⟨_, z, n, q, h, e, rfl⟩
theorem hk_i {c : Cv} {x k y : Nat} (h : hk c x (k + 1) y) : ∃ z q, hk c x k z ∧ edg c (co c) q z y := by
  obtain ⟨n, z, n', q, h1, h2, h3⟩ := h
  exact ⟨z, q, ⟨n', h1⟩, h2⟩
theorem hk_z {c : Cv} {x y : Nat} (h : hk c x 0 y) : y = x := by
  obtain ⟨n, h⟩ := h
  exact h.1
theorem hk_w {c : Cv} {x k y : Nat} (h : hk c x k y) : ∃ n, WK c (co c) x y n := by
  obtain ⟨n, h⟩ := h
  exact ⟨n, k, h⟩
theorem hk_lt {c : Cv} (ok : Cok c) {x k y : Nat} (hx : x < 8) (h : hk c x k y) : y < 8 := by
  obtain ⟨n, w⟩ := hk_w h
  exact w.lt ok hx
theorem hk_jn {c : Cv} (ok : Cok c) {x k y : Nat} (hx : x < 8) (h : hk c x k y) : jnB c (co c) x y = true := (jn_wk ok hx).mpr (hk_w h)
theorem hk_7 {c : Cv} (ok : Cok c) {x y : Nat} (hx : x < 8) (hy : y < 8) (h : jnB c (co c) x y = true) : ∃ k, k ≤ 7 ∧ hk c x k y := by
  have key : ∀ n y, y < 8 → dN c (co c) x y < 1000 → dN c (co c) x y ≤ n → ∃ k, k ≤ rkN c (co c) x y ∧ hk c x k y := by
    intro n
    induction n with
    | zero =>
      intro y hy h1 h2
      have e := dN_e0 ok (show dN c (co c) x y = 0 by omega)
      subst e
      exact ⟨0, Nat.zero_le _, hk_0 c x⟩
    | succ n ih =>
      intro y hy h1 h2
      by_cases h0 : dN c (co c) x y = 0
      · exact ih y hy h1 (by omega)
      · obtain ⟨z, q, hz, he, hs⟩ := dN_pre ok hx h1 (by omega)
        obtain ⟨_, _, _, d1, d9, _⟩ := ok.2.1 q he.1
        have rz := rk_pre (c := c) (o := co c) (x := x) (y := y) hz (by omega)
        obtain ⟨k, k1, k2⟩ := ih z hz (by omega) (by omega)
        exact ⟨k + 1, by omega, hk_s k2 he⟩
  obtain ⟨k, k1, k2⟩ := key _ y hy (of_decide_eq_true h) (Nat.le_refl _)
  have := rk_le (c := c) (o := co c) (x := x) hy
  exact ⟨k, by omega, k2⟩
/-! two sets that grow from the first ones of the heaps -/
def hvE (c : Cv) (i y p : Nat) : Prop := ∃ x k, x < i ∧ hpB c x = true ∧ hk c x k y ∧ k % 2 = p % 2
theorem hvE.st {c : Cv} {i z y p q : Nat} (h : hvE c i z p) (e : edg c (co c) q z y) : hvE c i y (p + 1) := by
  obtain ⟨x, k, h1, h2, h3, h4⟩ := h
  exact ⟨x, k + 1, h1, h2, hk_s h3 e, by omega⟩
theorem hvE.up {c : Cv} {i j y p : Nat} (h : hvE c i y p) (hi : i ≤ j) : hvE c j y p := by
  obtain ⟨x, k, h1, h2⟩ := h
  exact ⟨x, k, by omega, h2⟩
def hvS (c : Cv) (i : Nat) (a : Nat × Nat) : Prop := (∀ y, a.1.testBit y = true → hvE c i y 0) ∧ ∀ y, a.2.testBit y = true → hvE c i y 1
def hvC (c : Cv) (a : Nat × Nat) (x b : Nat) : Prop := ∀ k y, hk c x k y → k ≤ b → (k % 2 = 0 → a.1.testBit y = true) ∧ (k % 2 = 1 → a.2.testBit y = true)
def hvG (c : Cv) (a a' : Nat × Nat) : Prop := (∀ y, a.1.testBit y = true → a'.1.testBit y = true) ∧ (∀ y, a.2.testBit y = true → a'.2.testBit y = true) ∧ ∀ q z y, edg c (co c) q z y → (a.1.testBit z = true → a'.2.testBit y = true) ∧ (a.2.testBit z = true → a'.1.testBit y = true)
theorem hvC.m {c : Cv} {a a' : Nat × Nat} {x b : Nat} (h : hvC c a x b) (g1 : ∀ y, a.1.testBit y = true → a'.1.testBit y = true) (g2 : ∀ y, a.2.testBit y = true → a'.2.testBit y = true) : hvC c a' x b := fun k y hw hb => ⟨fun z => g1 y ((h k y hw hb).1 z), fun z => g2 y ((h k y hw hb).2 z)⟩
theorem hvC.g {c : Cv} {a a' : Nat × Nat} {x b : Nat} (h : hvC c a x b) (g : hvG c a a') : hvC c a' x (b + 1) := by
  intro k y hw hb
  by_cases e : k ≤ b
  · exact (h.m g.1 g.2.1) k y hw e
  · obtain rfl : k = b + 1 := by omega
    obtain ⟨z, q, h1, h2⟩ := hk_i hw
    have u := h b z h1 (Nat.le_refl _)
    have v := g.2.2 q z y h2
    exact ⟨fun m => v.2 (u.2 (by omega)), fun m => v.1 (u.1 (by omega))⟩
theorem hvC.it {c : Cv} {R : Nat × Nat → Nat × Nat} (hR : ∀ a, hvG c a (R a)) {a : Nat × Nat} {x b : Nat} (h : hvC c a x b) : ∀ n, hvC c (itN (fun _ => R) a n) x (b + n) := by
  intro n
  induction n with
  | zero => exact h
  | succ n ih => rw [itN_s]; exact ih.g (hR _)
theorem hvS.lt {c : Cv} (ok : Cok c) {i : Nat} {a : Nat × Nat} (hi : i ≤ 8) (h : hvS c i a) : a.1 < 256 ∧ a.2 < 256 := by
  have key : ∀ P p, (∀ y, P.testBit y = true → hvE c i y p) → P < 2 ^ 8 := by
    intro P p hP
    apply Nat.lt_pow_two_of_testBit
    intro y hy
    cases g : P.testBit y with
    | false => rfl
    | true =>
      obtain ⟨x, k, h1, h2, h3, h4⟩ := hP y g
      have := hk_lt ok (by omega) h3
      omega
  exact ⟨key _ _ h.1, key _ _ h.2⟩
/-- both grown -/
def hvF (c : Cv) (a : Nat × Nat) : Prop := hvS c 8 a ∧ ∀ x, x < 8 → hpB c x = true → hvC c a x 8
def hvX (c : Cv) : Prop := ∃ x y k k', x < 8 ∧ hpB c x = true ∧ hk c x k y ∧ hk c x k' y ∧ k ≤ 8 ∧ k' ≤ 8 ∧ k % 2 = 0 ∧ k' % 2 = 1
theorem hp_un {c : Cv} (ok : Cok c) {x x' y : Nat} (hx : x < 8) (hx' : x' < 8) (hy : y < 8) (h : hpB c x = true) (h' : hpB c x' = true) (j : jnB c (co c) x y = true) (j' : jnB c (co c) x' y = true) : x = x' := by
  have a1 := jn_tr ok hx hy j (jn_sym ok hx' hy j')
  have a2 := jn_sym ok hx hx' a1
  unfold hpB at h h'
  simp only [Bool.and_eq_true] at h h'
  have b1 := (al_i x).mp h.2
  have b2 := (al_i x').mp h'.2
  by_cases e1 : x' < x
  · have := b1 x' e1; rw [a1] at this; cases this
  · by_cases e2 : x < x'
    · have := b2 x e2; rw [a2] at this; cases this
    · omega
theorem hv_par {c : Cv} (ok : Cok c) (hX : ¬ hvX c) {x : Nat} (hx : x < 8) (hp : hpB c x = true) : ∀ k y, hk c x k y → ∀ k', k' ≤ 7 → hk c x k' y → k % 2 = k' % 2 := by
  intro k
  induction k with
  | zero =>
    intro y hw k' hk' hw'
    apply Decidable.byContradiction
    intro hn
    exact hX ⟨x, y, 0, k', hx, hp, hw, hw', by omega, by omega, by omega, by omega⟩
  | succ k ih =>
    intro y hw k' hk' hw'
    obtain ⟨z, q, h1, h2⟩ := hk_i hw
    have hz := hk_lt ok hx h1
    obtain ⟨k0, e1, e2⟩ := hk_7 ok hx hz (hk_jn ok hx h1)
    have e3 := ih z h1 k0 e1 e2
    have w2 := hk_s e2 h2
    apply Decidable.byContradiction
    intro hn
    by_cases g : (k0 + 1) % 2 = 0
    · exact hX ⟨x, y, k0 + 1, k', hx, hp, w2, hw', by omega, by omega, g, by omega⟩
    · exact hX ⟨x, y, k', k0 + 1, hx, hp, hw', w2, by omega, by omega, by omega, by omega⟩
theorem and_0 {P O : Nat} : P &&& O = 0 ↔ ∀ y, P.testBit y = true → O.testBit y = true → False := by
  constructor
  · intro h y h1 h2
    have : (P &&& O).testBit y = true := by rw [Nat.testBit_and, h1, h2]; rfl
    rw [h] at this; simp at this
  · intro h
    apply Nat.eq_of_testBit_eq
    intro y
    rw [Nat.testBit_and, Nat.zero_testBit]
    cases g1 : P.testBit y with
    | false => rfl
    | true =>
      cases g2 : O.testBit y with
      | false => rfl
      | true => exact (h y g1 g2).elim
theorem hvF.x {c : Cv} (ok : Cok c) {a : Nat × Nat} (h : hvF c a) : a.1 &&& a.2 = 0 ↔ ¬ hvX c := by
  obtain ⟨hs, hc⟩ := h
  rw [and_0]
  constructor
  · rintro h ⟨x, y, k, k', h1, h2, h3, h4, h5, h6, h7, h8⟩
    exact h y ((hc x h1 h2 k y h3 h5).1 h7) ((hc x h1 h2 k' y h4 h6).2 h8)
  · intro hX y g1 g2
    obtain ⟨x, k, h1, h2, h3, h4⟩ := hs.1 y g1
    obtain ⟨x', k', h1', h2', h3', h4'⟩ := hs.2 y g2
    have hy := hk_lt ok h1 h3
    obtain rfl := hp_un ok h1 h1' hy h2 h2' (hk_jn ok h1 h3) (hk_jn ok h1' h3')
    obtain ⟨k0, e1, e2⟩ := hk_7 ok h1 hy (hk_jn ok h1 h3)
    have p1 := hv_par ok hX h1 h2 k y h3 k0 e1 e2
    have p2 := hv_par ok hX h1 h2 k' y h3' k0 e1 e2
    omega
theorem hvF.e {c : Cv} (ok : Cok c) {a : Nat × Nat} (h : hvF c a) (hX : ¬ hvX c) (y : Nat) : a.1.testBit y = true ↔ hvE c 8 y 0 := by
  obtain ⟨hs, hc⟩ := h
  constructor
  · exact hs.1 y
  · rintro ⟨x, k, h1, h2, h3, h4⟩
    have hy := hk_lt ok h1 h3
    obtain ⟨k0, e1, e2⟩ := hk_7 ok h1 hy (hk_jn ok h1 h3)
    have p1 := hv_par ok hX h1 h2 k y h3 k0 e1 e2
    exact (hc x h1 h2 k0 y e2 (by omega)).1 (by omega)
theorem hvF.eq {c : Cv} (ok : Cok c) {a a' : Nat × Nat} (h : hvF c a) (h' : hvF c a') : (a.1 &&& a.2 = 0 ↔ a'.1 &&& a'.2 = 0) ∧ (a.1 &&& a.2 = 0 → a.1 = a'.1) := by
  refine ⟨(h.x ok).trans (h'.x ok).symm, fun z => ?_⟩
  have hX := (h.x ok).mp z
  apply Nat.eq_of_testBit_eq
  intro y
  have e1 := h.e ok hX y
  have e2 := h'.e ok hX y
  rw [Bool.eq_iff_iff, e1, e2]
/-! the steps of both -/
def bt (b : Bool) (j : Nat) : Nat := if b = true then 2 ^ j else 0
theorem bt_tb (b : Bool) (j y : Nat) : (bt b j).testBit y = (b && decide (j = y)) := by
  unfold bt
  cases b with
  | true => rw [if_pos rfl, Nat.testBit_two_pow, Bool.true_and]
  | false => rw [if_neg (by simp), Nat.zero_testBit, Bool.false_and]
def acQ (c : Cv) (X q b : Nat) : Nat := if (co c).testBit q = true then b ||| bt (X.testBit (ca c q)) (cb c q) ||| bt (X.testBit (cb c q)) (ca c q) else b
def acA (c : Cv) (X : Nat) : Nat → Nat := itN (acQ c X) 0
theorem acA_s (c : Cv) (X q : Nat) : acA c X (q + 1) = acQ c X q (acA c X q) := rfl
theorem ac_tb {c : Cv} {X y : Nat} : ∀ q, q ≤ cm c → ((acA c X q).testBit y = true ↔ ∃ q' z, q' < q ∧ edg c (co c) q' z y ∧ X.testBit z = true) := by
  intro q
  induction q with
  | zero =>
    intro _
    constructor
    · intro h; rw [show acA c X 0 = 0 from rfl, Nat.zero_testBit] at h; cases h
    · rintro ⟨q', z, h, _⟩; omega
  | succ q ih =>
    intro hq
    rw [acA_s]
    unfold acQ
    cases g : (co c).testBit q with
    | false =>
      rw [if_neg (by simp), ih (by omega)]
      constructor
      · rintro ⟨q', z, h1, h2⟩; exact ⟨q', z, by omega, h2⟩
      · rintro ⟨q', z, h1, h2, h3⟩
        refine ⟨q', z, ?_, h2, h3⟩
        have : q' ≠ q := by intro e; subst e; rw [h2.2.1] at g; cases g
        omega
    | true =>
      rw [if_pos rfl, Nat.testBit_or, Nat.testBit_or, bt_tb, bt_tb]
      simp only [Bool.or_eq_true, Bool.and_eq_true, decide_eq_true_eq]
      rw [ih (by omega)]
      constructor
      · rintro ((⟨q', z, h1, h2⟩ | ⟨h1, h2⟩) | ⟨h1, h2⟩)
        · exact ⟨q', z, by omega, h2⟩
        · exact ⟨q, ca c q, by omega, ⟨by omega, g, Or.inl ⟨rfl, h2⟩⟩, h1⟩
        · exact ⟨q, cb c q, by omega, ⟨by omega, g, Or.inr ⟨rfl, h2⟩⟩, h1⟩
      · rintro ⟨q', z, h1, h2, h3⟩
        by_cases e : q' = q
        · subst e
          rcases h2.2.2 with ⟨rfl, e2⟩ | ⟨rfl, e2⟩
          · exact Or.inl (Or.inr ⟨h3, e2⟩)
          · exact Or.inr ⟨h3, e2⟩
        · exact Or.inl (Or.inl ⟨q', z, by omega, h2, h3⟩)
theorem ac_a {c : Cv} {X y : Nat} : (acA c X (cm c)).testBit y = true ↔ ∃ q z, edg c (co c) q z y ∧ X.testBit z = true := by
  rw [ac_tb (cm c) (Nat.le_refl _)]
  constructor
  · rintro ⟨q, z, _, h⟩; exact ⟨q, z, h⟩
  · rintro ⟨q, z, h⟩; exact ⟨q, z, h.1.1, h⟩
def hcR (c : Cv) (a : Nat × Nat) : Nat × Nat := (a.1 ||| acA c (a.2 ||| acA c a.1 (cm c)) (cm c), a.2 ||| acA c a.1 (cm c))
theorem hcR_s {c : Cv} {i : Nat} {a : Nat × Nat} (h : hvS c i a) : hvS c i (hcR c a) := by
  have h2 : ∀ y, (a.2 ||| acA c a.1 (cm c)).testBit y = true → hvE c i y 1 := by
    intro y g
    rw [Nat.testBit_or, Bool.or_eq_true] at g
    rcases g with g | g
    · exact h.2 y g
    · obtain ⟨q, z, e, g2⟩ := ac_a.mp g
      exact (h.1 z g2).st e
  refine ⟨fun y g => ?_, h2⟩
  change (a.1 ||| acA c (a.2 ||| acA c a.1 (cm c)) (cm c)).testBit y = true at g
  rw [Nat.testBit_or, Bool.or_eq_true] at g
  rcases g with g | g
  · exact h.1 y g
  · obtain ⟨q, z, e, g2⟩ := ac_a.mp g
    obtain ⟨x, k, w⟩ := (h2 z g2).st e
    exact ⟨x, k, w⟩
theorem hcR_g (c : Cv) (a : Nat × Nat) : hvG c a (hcR c a) := by
  refine ⟨fun y g => ?_, fun y g => ?_, fun q z y e => ⟨fun g => ?_, fun g => ?_⟩⟩
  · show (a.1 ||| _).testBit y = true
    rw [Nat.testBit_or, g]; rfl
  · show (a.2 ||| _).testBit y = true
    rw [Nat.testBit_or, g]; rfl
  · show (a.2 ||| _).testBit y = true
    rw [Nat.testBit_or, ac_a.mpr ⟨q, z, e, g⟩, Bool.or_true]
  · show (a.1 ||| _).testBit y = true
    rw [Nat.testBit_or, ac_a.mpr ⟨q, z, e, by rw [Nat.testBit_or, g]; rfl⟩, Bool.or_true]
def hcT (c : Cv) (a : Nat × Nat) : Nat → Nat × Nat := itN (fun _ => hcR c) a
def hcA (c : Cv) : Nat → Nat × Nat := itN (fun i a => if hpB c i = true then hcT c (a.1 ||| 2 ^ i, a.2) 8 else a) (0, 0)
theorem hcA_s (c : Cv) (i : Nat) : hcA c (i + 1) = if hpB c i = true then hcT c ((hcA c i).1 ||| 2 ^ i, (hcA c i).2) 8 else hcA c i := rfl
theorem hcT_s {c : Cv} {i : Nat} {a : Nat × Nat} (h : hvS c i a) : ∀ t, hvS c i (hcT c a t) := by
  intro t
  induction t with
  | zero => exact h
  | succ t ih => exact hcR_s ih
theorem hcT_m (c : Cv) (a : Nat × Nat) : ∀ t, (∀ y, a.1.testBit y = true → (hcT c a t).1.testBit y = true) ∧ ∀ y, a.2.testBit y = true → (hcT c a t).2.testBit y = true := by
  intro t
  induction t with
  | zero => exact ⟨fun _ h => h, fun _ h => h⟩
  | succ t ih => exact ⟨fun y h => (hcR_g c (hcT c a t)).1 y (ih.1 y h), fun y h => (hcR_g c (hcT c a t)).2.1 y (ih.2 y h)⟩
theorem hvS.ad {c : Cv} {i : Nat} {a : Nat × Nat} (h : hvS c i a) (hp : hpB c i = true) : hvS c (i + 1) (a.1 ||| 2 ^ i, a.2) := by
  refine ⟨fun y g => ?_, fun y g => (h.2 y g).up (by omega)⟩
  change (a.1 ||| 2 ^ i).testBit y = true at g
  rw [Nat.testBit_or, Nat.testBit_two_pow, Bool.or_eq_true] at g
  rcases g with g | g
  · exact (h.1 y g).up (by omega)
  · have := of_decide_eq_true g
    subst this
    exact ⟨i, 0, by omega, hp, hk_0 c i, rfl⟩
theorem hcA_i {c : Cv} : ∀ i, i ≤ 8 → hvS c i (hcA c i) ∧ ∀ x, x < i → hpB c x = true → hvC c (hcA c i) x 8 := by
  intro i
  induction i with
  | zero => intro _; exact ⟨⟨fun y h => (by rw [show (hcA c 0).1 = 0 from rfl, Nat.zero_testBit] at h; cases h), fun y h => (by rw [show (hcA c 0).2 = 0 from rfl, Nat.zero_testBit] at h; cases h)⟩, fun x hx => by omega⟩
  | succ i ih =>
    intro hi
    obtain ⟨h1, h2⟩ := ih (by omega)
    rw [hcA_s]
    cases g : hpB c i with
    | false =>
      rw [if_neg (by simp)]
      refine ⟨⟨fun y h => (h1.1 y h).up (by omega), fun y h => (h1.2 y h).up (by omega)⟩, fun x hx hp => ?_⟩
      have : x ≠ i := by intro e; subst e; rw [g] at hp; cases hp
      exact h2 x (by omega) hp
    | true =>
      rw [if_pos rfl]
      refine ⟨hcT_s (h1.ad g) 8, fun x hx hp => ?_⟩
      have m := hcT_m c ((hcA c i).1 ||| 2 ^ i, (hcA c i).2) 8
      by_cases e : x = i
      · subst e
        have h0 : hvC c ((hcA c x).1 ||| 2 ^ x, (hcA c x).2) x 0 := by
          intro k y hw hk0
          obtain rfl : k = 0 := by omega
          have := hk_z hw
          subst this
          refine ⟨fun _ => ?_, fun z => by omega⟩
          show ((hcA c y).1 ||| 2 ^ y).testBit y = true
          rw [Nat.testBit_or, Nat.testBit_two_pow]; simp
        have := hvC.it (R := hcR c) (hcR_g c) h0 8
        rw [Nat.zero_add] at this
        exact this
      · refine (h2 x (by omega) hp).m (fun y h => m.1 y ?_) (fun y h => m.2 y h)
        show ((hcA c i).1 ||| 2 ^ i).testBit y = true
        rw [Nat.testBit_or, h]; rfl
theorem hcA_f (c : Cv) : hvF c (hcA c 8) := hcA_i 8 (by omega)
theorem hc_lf {c : Cv} (ok : Cok c) {i : Nat} (hi : i < 8) : (etB c i && !(hcA c i).1.testBit i && !(hcA c i).2.testBit i) = hpB c i := by
  obtain ⟨h1, h2⟩ := hcA_i (c := c) i (by omega)
  rw [← lf_hp ok hi]
  unfold lfB
  rw [Bool.and_assoc]
  congr 1
  rw [Bool.eq_iff_iff, al_i, Bool.and_eq_true]
  constructor
  · rintro ⟨g1, g2⟩ r hr
    cases z : hpB c r with
    | false => rfl
    | true =>
      cases z2 : jnB c (co c) r i with
      | false => rfl
      | true =>
        obtain ⟨k, e1, e2⟩ := hk_7 ok (by omega) hi z2
        have := h2 r hr z k i e2 (by omega)
        by_cases p : k % 2 = 0
        · rw [this.1 p] at g1; cases g1
        · rw [this.2 (by omega)] at g2; cases g2
  · intro h
    have key : ∀ p, hvE c i i p → False := by
      rintro p ⟨x, k, e1, e2, e3, e4⟩
      have := h x e1
      rw [e2, hk_jn ok (by omega) e3] at this
      cases this
    constructor
    · cases z : (hcA c i).1.testBit i with
      | false => rfl
      | true => exact (key _ (h1.1 i z)).elim
    · cases z : (hcA c i).2.testBit i with
      | false => rfl
      | true => exact (key _ (h1.2 i z)).elim
def hmQ (c : Cv) (q : Nat) (a : Nat × Nat) : Nat × Nat :=
  if (co c).testBit q = true then (a.1 ||| bt ((a.2 ||| bt (a.1.testBit (ca c q)) (cb c q) ||| bt (a.1.testBit (cb c q)) (ca c q)).testBit (ca c q)) (cb c q) ||| bt ((a.2 ||| bt (a.1.testBit (ca c q)) (cb c q) ||| bt (a.1.testBit (cb c q)) (ca c q)).testBit (cb c q)) (ca c q), a.2 ||| bt (a.1.testBit (ca c q)) (cb c q) ||| bt (a.1.testBit (cb c q)) (ca c q)) else a
def hmR (c : Cv) (a : Nat × Nat) : Nat → Nat × Nat := itN (hmQ c) a
theorem hmR_s (c : Cv) (a : Nat × Nat) (q : Nat) : hmR c a (q + 1) = hmQ c q (hmR c a q) := rfl
theorem hmQ_s {c : Cv} {i q : Nat} (hq : q < cm c) {a : Nat × Nat} (h : hvS c i a) : hvS c i (hmQ c q a) := by
  unfold hmQ
  cases g : (co c).testBit q with
  | false => rw [if_neg (by simp)]; exact h
  | true =>
    rw [if_pos rfl]
    have e1 : edg c (co c) q (ca c q) (cb c q) := ⟨hq, g, Or.inl ⟨rfl, rfl⟩⟩
    have e2 : edg c (co c) q (cb c q) (ca c q) := ⟨hq, g, Or.inr ⟨rfl, rfl⟩⟩
    generalize hB : a.2 ||| bt (a.1.testBit (ca c q)) (cb c q) ||| bt (a.1.testBit (cb c q)) (ca c q) = B
    have h2 : ∀ y, B.testBit y = true → hvE c i y 1 := by
      intro y z
      rw [← hB, Nat.testBit_or, Nat.testBit_or, bt_tb, bt_tb] at z
      simp only [Bool.or_eq_true, Bool.and_eq_true, decide_eq_true_eq] at z
      rcases z with (z | ⟨z, rfl⟩) | ⟨z, rfl⟩
      · exact h.2 y z
      · exact (h.1 _ z).st e1
      · exact (h.1 _ z).st e2
    refine ⟨fun y z => ?_, h2⟩
    change (a.1 ||| bt (B.testBit (ca c q)) (cb c q) ||| bt (B.testBit (cb c q)) (ca c q)).testBit y = true at z
    rw [Nat.testBit_or, Nat.testBit_or, bt_tb, bt_tb] at z
    simp only [Bool.or_eq_true, Bool.and_eq_true, decide_eq_true_eq] at z
    rcases z with (z | ⟨z, rfl⟩) | ⟨z, rfl⟩
    · exact h.1 y z
    · obtain ⟨x, k, w⟩ := (h2 _ z).st e1
      exact ⟨x, k, w⟩
    · obtain ⟨x, k, w⟩ := (h2 _ z).st e2
      exact ⟨x, k, w⟩
theorem hmQ_m (c : Cv) (q : Nat) (a : Nat × Nat) : (∀ y, a.1.testBit y = true → (hmQ c q a).1.testBit y = true) ∧ ∀ y, a.2.testBit y = true → (hmQ c q a).2.testBit y = true := by
  unfold hmQ
  by_cases g : (co c).testBit q = true
  · rw [if_pos g]
    refine ⟨fun y h => ?_, fun y h => ?_⟩
    · show (a.1 ||| _ ||| _).testBit y = true
      rw [Nat.testBit_or, Nat.testBit_or, h]; rfl
    · show (a.2 ||| _ ||| _).testBit y = true
      rw [Nat.testBit_or, Nat.testBit_or, h]; rfl
  · rw [if_neg g]
    exact ⟨fun _ h => h, fun _ h => h⟩
theorem hmR_m (c : Cv) (a : Nat × Nat) (q : Nat) : ∀ d, (∀ y, (hmR c a q).1.testBit y = true → (hmR c a (q + d)).1.testBit y = true) ∧ ∀ y, (hmR c a q).2.testBit y = true → (hmR c a (q + d)).2.testBit y = true := by
  intro d
  induction d with
  | zero => exact ⟨fun _ h => h, fun _ h => h⟩
  | succ d ih =>
    rw [← Nat.add_assoc, hmR_s]
    exact ⟨fun y h => (hmQ_m c _ _).1 y (ih.1 y h), fun y h => (hmQ_m c _ _).2 y (ih.2 y h)⟩
theorem hmQ_e {c : Cv} {q z y : Nat} (e : edg c (co c) q z y) (a : Nat × Nat) : (a.1.testBit z = true → (hmQ c q a).2.testBit y = true) ∧ (a.2.testBit z = true → (hmQ c q a).1.testBit y = true) := by
  unfold hmQ
  rw [if_pos e.2.1]
  have zz : a.2.testBit z = true → (a.2 ||| bt (a.1.testBit (ca c q)) (cb c q) ||| bt (a.1.testBit (cb c q)) (ca c q)).testBit z = true := by
    intro h
    rw [Nat.testBit_or, Nat.testBit_or, h]; rfl
  refine ⟨fun h => ?_, fun h => ?_⟩
  · show (a.2 ||| bt (a.1.testBit (ca c q)) (cb c q) ||| bt (a.1.testBit (cb c q)) (ca c q)).testBit y = true
    rw [Nat.testBit_or, Nat.testBit_or, bt_tb, bt_tb]
    rcases e.2.2 with ⟨rfl, rfl⟩ | ⟨rfl, rfl⟩
    · rw [h]; simp
    · rw [h]; simp
  · have h' := zz h
    generalize a.2 ||| bt (a.1.testBit (ca c q)) (cb c q) ||| bt (a.1.testBit (cb c q)) (ca c q) = B at h'
    show (a.1 ||| bt (B.testBit (ca c q)) (cb c q) ||| bt (B.testBit (cb c q)) (ca c q)).testBit y = true
    rw [Nat.testBit_or, Nat.testBit_or, bt_tb, bt_tb]
    rcases e.2.2 with ⟨rfl, rfl⟩ | ⟨rfl, rfl⟩
    · rw [h']; simp
    · rw [h']; simp
theorem hmR_g (c : Cv) (a : Nat × Nat) : hvG c a (hmR c a (cm c)) := by
  have m0 := hmR_m c a 0 (cm c)
  rw [Nat.zero_add] at m0
  refine ⟨m0.1, m0.2, fun q z y e => ?_⟩
  have m1 := hmR_m c a 0 q
  rw [Nat.zero_add] at m1
  have m2 := hmR_m c a (q + 1) (cm c - (q + 1))
  have hq := e.1
  rw [show q + 1 + (cm c - (q + 1)) = cm c by omega, hmR_s] at m2
  have f := hmQ_e e (hmR c a q)
  exact ⟨fun h => m2.2 y (f.1 (m1.1 z h)), fun h => m2.1 y (f.2 (m1.2 z h))⟩
theorem hmR_sn {c : Cv} {i : Nat} {a : Nat × Nat} (h : hvS c i a) : ∀ q, q ≤ cm c → hvS c i (hmR c a q) := by
  intro q
  induction q with
  | zero => intro _; exact h
  | succ q ih => intro hq; rw [hmR_s]; exact hmQ_s (by omega) (ih (by omega))
def hmA (c : Cv) : Nat → Nat × Nat := itN (fun _ a => hmR c a (cm c)) (orN (hpB c) 8, 0)
theorem hmA_s (c : Cv) (n : Nat) : hmA c (n + 1) = hmR c (hmA c n) (cm c) := rfl
theorem hmA_sn (c : Cv) : ∀ n, hvS c 8 (hmA c n) := by
  intro n
  induction n with
  | zero =>
    refine ⟨fun y h => ?_, fun y h => ?_⟩
    · change (orN (hpB c) 8).testBit y = true at h
      rw [orN_tb, Bool.and_eq_true] at h
      exact ⟨y, 0, of_decide_eq_true h.1, h.2, hk_0 c y, rfl⟩
    · change (0 : Nat).testBit y = true at h
      rw [Nat.zero_testBit] at h; cases h
  | succ n ih => rw [hmA_s]; exact hmR_sn ih _ (Nat.le_refl _)
theorem hmA_f (c : Cv) : hvF c (hmA c 8) := by
  refine ⟨hmA_sn c 8, fun x hx hp => ?_⟩
  have h0 : hvC c (orN (hpB c) 8, 0) x 0 := by
    intro k y hw hk0
    obtain rfl : k = 0 := by omega
    have := hk_z hw
    subst this
    refine ⟨fun _ => ?_, fun z => by omega⟩
    show (orN (hpB c) 8).testBit y = true
    rw [orN_tb, decide_eq_true hx, hp]; rfl
  have := hvC.it (R := fun a => hmR c a (cm c)) (hmR_g c) h0 8
  rw [Nat.zero_add] at this
  exact this
