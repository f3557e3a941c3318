/-! season: the machine that reads it -/
def ltN (s : Nat) : Bool := decide (97 ≤ s ∧ s ≤ 104)
def daN (s : Nat) : Nat := if s = 110 ∨ s = 120 then 1 else if s = 115 then 2 else if s = 109 then 3 else 0
def kdN (s : Nat) : Nat := if s = 110 then 0 else if s = 120 then 1 else if s = 115 then 2 else 3
abbrev SS : Type := Nat × Option Nat
def smA (s : Nat) : SS := (daN s, if s = 115 then some 0 else none)
def smS (s : Nat) (y : SS) : Option SS := if 0 < y.1 then (if 48 ≤ s ∧ s ≤ 57 then some (y.1 - 1, y.2) else none) else match y.2 with
  | some k => if ltN s = true then (if k = 6 then none else some (0, some (k + 1))) else (if daN s = 0 ∨ k = 0 then none else some (smA s))
  | none => if daN s = 0 then none else some (smA s)
def mn (t : Nat → Nat) (a : Nat) : Nat → SS → Option SS
  | 0, y => some y
  | k + 1, y => (mn t a k y).bind (smS (t (a + k)))
theorem mn_s (t : Nat → Nat) (a k : Nat) (y : SS) : mn t a (k + 1) y = (mn t a k y).bind (smS (t (a + k))) := rfl
theorem mn_1 (t : Nat → Nat) (a : Nat) (y : SS) : mn t a 1 y = smS (t a) y := rfl
theorem mn_add {t : Nat → Nat} {a k l : Nat} {x y z : SS} (h1 : mn t a k x = some y) (h2 : mn t (a + k) l y = some z) : mn t a (k + l) x = some z := by
  revert z
  induction l with
  | zero => intro z h2; rw [← h2]; exact h1
  | succ l ih =>
    intro z h2
    rw [mn_s] at h2
    cases g : mn t (a + k) l y with
    | none => rw [g] at h2; cases h2
    | some w =>
      rw [g] at h2
      rw [← Nat.add_assoc, mn_s, ih g, ← Nat.add_assoc]
      exact h2
theorem mn_pre {t : Nat → Nat} {a : Nat} {x : SS} : ∀ d k y, mn t a (k + d) x = some y → ∃ z, mn t a k x = some z := by
  intro d
  induction d with
  | zero => intro k y h; exact ⟨y, h⟩
  | succ d ih =>
    intro k y h
    rw [← Nat.add_assoc, mn_s] at h
    cases g : mn t a (k + d) x with
    | none => rw [g] at h; cases h
    | some z => exact ih k z g
def ery (y : SS) : Prop := 0 < y.1 ∨ y.2 = some 0
/-- between two acts -/
def bdy (t : Nat → Nat) (to a : Nat) (y : SS) : Prop := y.1 = 0 ∧ y.2 ≠ some 0 ∧ ∀ k, y.2 = some k → k ≤ 6 ∧ (k < 6 → a < to → ltN (t a) = false)
theorem da_lt {s : Nat} (h : daN s ≠ 0) : ltN s = false := by
  unfold daN at h
  unfold ltN
  apply decide_eq_false
  intro z
  rw [if_neg (by omega), if_neg (by omega), if_neg (by omega)] at h
  exact h rfl
theorem ix_4 : ∀ s, s < 256 → ixN 4 s = if daN s = 0 then none else some (kdN s) := by decide +kernel
theorem kd_da {s : Nat} (h : daN s ≠ 0) : (kdN s = 0 ∧ s = 110 ∧ daN s = 1) ∨ (kdN s = 1 ∧ s = 120 ∧ daN s = 1) ∨ (kdN s = 2 ∧ s = 115 ∧ daN s = 2) ∨ (kdN s = 3 ∧ s = 109 ∧ daN s = 3) := by
  unfold daN at h
  by_cases e1 : s = 110
  · subst e1; exact Or.inl ⟨rfl, rfl, rfl⟩
  · by_cases e2 : s = 120
    · subst e2; exact Or.inr (Or.inl ⟨rfl, rfl, rfl⟩)
    · by_cases e3 : s = 115
      · subst e3; exact Or.inr (Or.inr (Or.inl ⟨rfl, rfl, rfl⟩))
      · by_cases e4 : s = 109
        · subst e4; exact Or.inr (Or.inr (Or.inr ⟨rfl, rfl, rfl⟩))
        · rw [if_neg (by omega), if_neg e3, if_neg e4] at h; exact absurd rfl h
theorem sm_act {t : Nat → Nat} {to a : Nat} {y : SS} (hb : bdy t to a y) (h : daN (t a) ≠ 0) : smS (t a) y = some (smA (t a)) := by
  obtain ⟨b1, b2, b3⟩ := hb
  unfold smS
  rw [if_neg (by omega)]
  cases g : y.2 with
  | none => show (if daN (t a) = 0 then none else some (smA (t a))) = _; rw [if_neg h]
  | some k =>
    show (if ltN (t a) = true then (if k = 6 then none else some (0, some (k + 1))) else (if daN (t a) = 0 ∨ k = 0 then none else some (smA (t a)))) = _
    rw [if_neg (by rw [da_lt h]; simp), if_neg (by
      rintro (q | q)
      · exact h q
      · exact b2 (by rw [g, q]))]
theorem sm_not {t : Nat → Nat} {to a : Nat} {y : SS} (hb : bdy t to a y) (ha : a < to) (h : daN (t a) = 0) : smS (t a) y = none := by
  obtain ⟨b1, b2, b3⟩ := hb
  unfold smS
  rw [if_neg (by omega)]
  cases g : y.2 with
  | none => show (if daN (t a) = 0 then none else some (smA (t a))) = _; rw [if_pos h]
  | some k =>
    show (if ltN (t a) = true then (if k = 6 then none else some (0, some (k + 1))) else (if daN (t a) = 0 ∨ k = 0 then none else some (smA (t a)))) = _
    by_cases z : ltN (t a) = true
    · rw [if_pos z]
      by_cases q : k = 6
      · rw [if_pos q]
      · by_cases q2 : k < 6
        · rw [(b3 k g).2 q2 ha] at z; cases z
        · have := (b3 k g).1
          omega
    · rw [if_neg z, if_pos (Or.inl h)]
theorem sm_dig {s g : Nat} {l : Option Nat} (h : 48 ≤ s ∧ s ≤ 57) : smS s (g + 1, l) = some (g, l) := by
  unfold smS
  rw [if_pos (by show 0 < g + 1; omega), if_pos h]; rfl
theorem sm_nod {s g : Nat} {l : Option Nat} (h : ¬ (48 ≤ s ∧ s ≤ 57)) : smS s (g + 1, l) = none := by
  unfold smS
  rw [if_pos (by show 0 < g + 1; omega), if_neg h]
theorem mn_let {t : Nat → Nat} {a : Nat} : ∀ k, k ≤ 6 → (∀ i, i < k → ltN (t (a + i)) = true) → mn t a k (0, some 0) = some (0, some k) := by
  intro k
  induction k with
  | zero => intro _ _; rfl
  | succ k ih =>
    intro hk hl
    rw [mn_s, ih (by omega) (fun i hi => hl i (by omega))]
    show smS (t (a + k)) (0, some k) = _
    unfold smS
    rw [if_neg (by show ¬ 0 < 0; omega)]
    show (if ltN (t (a + k)) = true then (if k = 6 then none else some (0, some (k + 1))) else _) = _
    rw [if_pos (hl k (by omega)), if_neg (by omega)]
def lcN (t : Nat → Nat) (to a : Nat) : Nat := min (ldN (fun i => ltN (t (a + i))) (to - a)) 6
def adv (t : Nat → Nat) (to p : Nat) : Nat := if kdN (t p) ≤ 1 then p + 2 else if kdN (t p) = 3 then p + 4 else p + 3 + lcN t to (p + 3)
/-- an act stands at p -/
def okA (t : Nat → Nat) (to p : Nat) : Prop := daN (t p) ≠ 0 ∧ adv t to p ≤ to ∧ (48 ≤ t (p + 1) ∧ t (p + 1) ≤ 57) ∧ (2 ≤ kdN (t p) → 48 ≤ t (p + 2) ∧ t (p + 2) ≤ 57) ∧ (kdN (t p) = 3 → 48 ≤ t (p + 3) ∧ t (p + 3) ≤ 57) ∧ (kdN (t p) = 2 → 1 ≤ lcN t to (p + 3))
def sF (T T' : St) (j : Nat) : Prop := (∀ o k, (o < 138 ∨ 142 < o) → (o ≠ 122 ∨ (k ≠ 11 ∧ k ≠ 35)) → gI T' o k = gI T o k) ∧ (∀ o k, 139 ≤ o → o ≤ 142 → k < j → gI T' o k = gI T o k) ∧ ∀ o k, gL T' o k = gL T o k
theorem sF.rf (T : St) (j : Nat) : sF T T j := ⟨fun _ _ _ _ => rfl, fun _ _ _ _ _ => rfl, fun _ _ => rfl⟩
theorem sF.tr {T T1 T2 : St} {j j' : Nat} (h1 : sF T T1 j) (h2 : sF T1 T2 j') (hj : j ≤ j') : sF T T2 j := ⟨fun o k a b => (h2.1 o k a b).trans (h1.1 o k a b), fun o k a b c => (h2.2.1 o k a b (by omega)).trans (h1.2.1 o k a b c), fun o k => (h2.2.2 o k).trans (h1.2.2 o k)⟩
theorem sF.s {T T1 : St} {j o k : Nat} {v : Int32} (h : sF T T1 j) (hk : (o = 122 ∧ (k = 11 ∨ k = 35)) ∨ (139 ≤ o ∧ o ≤ 142 ∧ j ≤ k)) : sF T (sI T1 o k v) j := by
  refine ⟨fun a b h1 h2 => ?_, fun a b h1 h2 h3 => ?_, fun a b => h.2.2 a b⟩
  · rw [gI_s]
    by_cases e : a = o
    · rw [if_pos e, if_neg (by omega)]; exact h.1 a b h1 h2
    · rw [if_neg e]; exact h.1 a b h1 h2
  · rw [gI_s]
    by_cases e : a = o
    · rw [if_pos e, if_neg (by omega)]; exact h.2.1 a b h1 h2 h3
    · rw [if_neg e]; exact h.2.1 a b h1 h2 h3
/-- what the reference keeps of act j, that stands at p -/
def dtA (T : St) (t : Nat → Nat) (j p : Nat) : Prop := gI T 139 j = nI (kdN (t p)) ∧ gI T 140 j = nI (t (p + 1) - 48) ∧ (2 ≤ kdN (t p) → gI T 141 j = nI (t (p + 2) - 48)) ∧ (kdN (t p) = 3 → gI T 142 j = nI (t (p + 3) - 48))
theorem num1_y {T : St} {a to : Nat} {t : Nat → Nat} (h : TaM T a to t) (hd : dgB t to a = true) : f_X11_number (1 : Int32) T = some (nI (t a - 48), sI T 122 11 (nI (a + 1))) := by
  have ev : vlN t a 1 = t a - 48 := by rw [vlN, vlN, Nat.add_zero]; omega
  have := num_m (d := 1) (K := 1) h (by omega) (by omega) (by omega) (fun i hi => by rw [show i = 0 by omega]; exact hd) (Or.inl rfl)
  rw [ev] at this
  exact this
theorem lets_m {T : St} {a to : Nat} {t : Nat → Nat} (h : TaM T a to t) : ∃ T', f_X11_readsLetters T = some (nI (lcN t to a), T') ∧ gI T' 122 11 = nI (a + lcN t to a) ∧ (∀ o k, o ≠ 138 → (o ≠ 122 ∨ k ≠ 11) → gI T' o k = gI T o k) ∧ ∀ o k, gL T' o k = gL T o k := by
  obtain ⟨T', l1, l2, l3, l4⟩ := letters_m h.1 h.2.1 h.2.2.1 h.2.2.2.1
  have e : ldN (fun i => ltB (gI T 128 (a + i))) (to - a) = ldN (fun i => ltN (t (a + i))) (to - a) := by
    unfold ldN
    congr 1
    refine lst_eq (fun i => ?_)
    constructor
    · rintro ⟨i1, i2⟩
      refine ⟨i1, ?_⟩
      obtain ⟨g1, g2⟩ := h.2.2.2.2 (a + i) (by omega)
      have : ltB (gI T 128 (a + i)) = ltN (t (a + i)) := by
        unfold ltB ltN
        rw [g1]
        apply decide_eq_decide.mpr
        rw [nLt (by omega) (by omega), nLt (by omega) (by omega)]; omega
      dsimp only
      rw [← this]; exact i2
    · rintro ⟨i1, i2⟩
      refine ⟨i1, ?_⟩
      obtain ⟨g1, g2⟩ := h.2.2.2.2 (a + i) (by omega)
      have : ltB (gI T 128 (a + i)) = ltN (t (a + i)) := by
        unfold ltB ltN
        rw [g1]
        apply decide_eq_decide.mpr
        rw [nLt (by omega) (by omega), nLt (by omega) (by omega)]; omega
      dsimp only
      rw [this]; exact i2
  rw [e] at l1 l2
  refine ⟨T', l1, l2, fun o k h1 h2 => l4.1 o k ?_, fun o k => l4.2 o k rfl⟩
  simp only [Bool.and_eq_true, Bool.or_eq_true, decide_eq_true_eq]
  exact ⟨h1, h2⟩
