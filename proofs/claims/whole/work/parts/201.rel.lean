/-! when class and reference agree -/
def inR (x : Int32) (a b : Nat) : Prop := ∃ j, a ≤ j ∧ j ≤ b ∧ x = nI j
/-- the text -/
def RT (S : St) : Prop := ∃ n, n ≤ 80 ∧ gI S 1 1 = nI n ∧ gI S 122 10 = nI n ∧ (∀ i, i < n → gI S 2 i = gI S 128 i) ∧ ∀ i, i < 80 → inR (gI S 2 i) 0 255
/-- m passages -/
def RC (S : St) (m : Nat) : Prop := m ≤ 12 ∧ gI S 3 2 = nI m ∧ gI S 122 3 = nI m ∧ ∀ i, i < m → gI S 4 i = gI S 124 i ∧ gI S 5 i = gI S 125 i ∧ inR (gI S 4 i) 0 7 ∧ inR (gI S 5 i) 0 7 ∧ gI S 4 i ≠ gI S 5 i
/-- the State o is what stands in the row R from b on -/
def SEq (S : St) (o R b : Nat) : Prop := (∀ i, i < 12 → gI S (o + 1) i = gI S R (b + i) ∧ gI S (o + 2) i = gI S R (b + 12 + i) ∧ gI S (o + 3) i = gI S R (b + 24 + i)) ∧ gI S o 3 = gI S R (b + 36) ∧ gI S o 4 = gI S R (b + 37) ∧ gI S o 5 = gI S R (b + 38)
/-- the State o is one of m passages -/
def SOk (S : St) (m o : Nat) : Prop := (∀ i, i < m → inR (gI S (o + 1) i) 1 9 ∧ inR (gI S (o + 2) i) 0 9 ∧ inR (gI S (o + 3) i) 0 9) ∧ inR (gI S o 3) 0 (2 ^ m - 1) ∧ inR (gI S o 5) 0 999
/-- what can be undone -/
def RH (S : St) (m : Nat) : Prop := ∃ u f, u ≤ 15 ∧ f < 16 ∧ gI S 12 2 = nI u ∧ gI S 122 28 = nI u ∧ gI S 12 1 = nI f ∧ ∀ j, j < u → SEq S (14 + 4 * ((f + j) % 16)) 137 (39 * j) ∧ SOk S m (14 + 4 * ((f + j) % 16))
/-- what is kept -/
def RK (S : St) (m : Nat) : Prop := ∃ c, c ≤ m ∧ gI S 122 4 = nI c ∧ ∀ i, i < 3 → (gI S 91 i = 0 ∨ gI S 91 i = 1) ∧ (gI S 155 i = 0 ∨ gI S 155 i = 1) ∧ inR (gI S 156 i) 0 c ∧ (gI S 91 i = 1 ↔ gI S 155 i = 1 ∧ gI S 156 i = nI c) ∧ (gI S 91 i = 1 → SEq S (79 + 4 * i) 157 (39 * i) ∧ SOk S m (79 + 4 * i))
/-- the row -/
def RR (S : St) : Prop := ∃ t, t ≤ 16 ∧ gI S 10 1 = nI t ∧ gI S 122 1 = nI t ∧ ∀ i, i < t → gL S 11 i = gL S 123 i
/-- what was told, what was heard -/
def RF (S : St) : Prop := ∃ q, q ≤ 12 ∧ gI S 101 3 = nI q ∧ gI S 122 39 = nI q ∧ ∀ i, i < q → gI S 102 i = gI S 146 i ∧ gI S 103 i = gI S 147 i ∧ inR (gI S 102 i) 0 4 ∧ (gI S 102 i = nI 3 → gI S 103 i = 0 ∨ gI S 103 i = 1)
def RE (S : St) : Prop := ∃ q, q ≤ 10 ∧ gI S 104 3 = nI q ∧ gI S 122 42 = nI q ∧ ∀ i, i < q → gI S 105 i = gI S 148 i ∧ gI S 106 i = gI S 149 i ∧ gI S 107 i = gI S 150 i
/-- a code of the reference as the class has it -/
def enc (c : Nat) : Nat := if c = 3000 then 2126 else if c = 2000 then 2060 else if c = 2001 then 2062 else if c = 2002 then 2061 else if c = 2003 then 2043 else if c = 2004 then 2045 else if c = 2005 then 2042 else if c = 2006 then 2047 else c
/-- how many things lie on the stack behind i codes; none where one is wanting -/
def hgt (c : Nat → Nat) : Nat → Option Nat
  | 0 => some 0
  | i + 1 => match hgt c i with
    | none => none
    | some h => if c i < 1007 then (if 1000 ≤ c i ∨ c i < 1000 then some (h + 1) else none) else if c i = 3000 then (if 1 ≤ h then some h else none) else if 2000 ≤ c i ∧ c i ≤ 2006 then (if 2 ≤ h then some (h - 1) else none) else none
/-- the rule -/
def RU (S : St) : Prop := ∃ r z, (r = 110 ∨ r = 115) ∧ z ≤ 40 ∧ gI S 0 8 = nI r ∧ gI S 0 9 = nI (225 - r) ∧ gI S r 1 = nI z ∧ gI S 122 18 = nI z ∧ ∃ c : Nat → Nat, (∀ i, i < z → gI S 130 i = nI (c i) ∧ gI S (r + 1) i = nI (enc (c i))) ∧ (0 < z → hgt c z = some 1)
def RelP (S : St) : Prop := RT S ∧ (∃ m, RC S m ∧ SOk S m 6 ∧ RH S m ∧ RK S m) ∧ SEq S 6 126 0 ∧ RR S ∧ RF S ∧ RE S ∧ RU S
/-! places that don't count -/
def scrO : List Nat := [92, 93, 94, 95, 96, 97, 98, 99, 100, 108, 109, 112, 113, 114, 117, 118, 119, 120, 121, 127, 129, 131, 132, 133, 134, 135, 136, 138, 139, 140, 141, 142, 143, 144, 145, 151, 152, 153, 154, 158]
def scrM : List Nat := [0, 11, 12, 13, 15, 19, 24, 25, 26, 35, 50]
def scr (o k : Nat) : Bool := scrO.contains o || (decide (o = 122) && scrM.contains k) || (decide (o = 0) && decide (k = 12)) || (decide (o = 104) && decide (4 ≤ k)) || ((decide (o = 110) || decide (o = 115)) && decide (3 ≤ k))
/-- alike but for what doesn't count -/
def Sim (S S' : St) : Prop := (∀ o k, scr o k = false → gI S' o k = gI S o k) ∧ ∀ k, gL S' 11 k = gL S 11 k ∧ gL S' 123 k = gL S 123 k
theorem Sim.rf (S : St) : Sim S S := ⟨fun _ _ _ => rfl, fun _ => ⟨rfl, rfl⟩⟩
theorem Sim.tr {S S1 S2 : St} (h1 : Sim S S1) (h2 : Sim S1 S2) : Sim S S2 := ⟨fun o k h => (h2.1 o k h).trans (h1.1 o k h), fun k => ⟨(h2.2 k).1.trans (h1.2 k).1, (h2.2 k).2.trans (h1.2 k).2⟩⟩
theorem Sim.sI {S S1 : St} (h : Sim S S1) {o k : Nat} {v : Int32} (hs : scr o k = true) : Sim S (sI S1 o k v) := by
  refine ⟨fun a b hab => ?_, h.2⟩
  rw [gI_s]
  by_cases e1 : a = o
  · by_cases e2 : b = k
    · subst e1; subst e2; rw [hs] at hab; cases hab
    · rw [if_pos e1, if_neg e2]; exact h.1 a b hab
  · rw [if_neg e1]; exact h.1 a b hab
theorem Sim.sL {S S1 : St} (h : Sim S S1) {o k : Nat} {v : Int64} (h1 : o ≠ 11) (h2 : o ≠ 123) : Sim S (sL S1 o k v) := by
  refine ⟨fun a b hab => h.1 a b hab, fun j => ⟨?_, ?_⟩⟩
  · rw [gL_l, if_neg (fun e => h1 e.symm)]; exact (h.2 j).1
  · rw [gL_l, if_neg (fun e => h2 e.symm)]; exact (h.2 j).2
theorem scr_st {o k : Nat} (h1 : 1 ≤ o) (h2 : o ≤ 91) : scr o k = false := by
  have e1 : scrO.contains o = false := by
    have q : ∀ o, o ≤ 91 → scrO.contains o = false := by decide +kernel
    exact q o h2
  unfold scr
  rw [e1, decide_eq_false (show ¬ o = 122 by omega), decide_eq_false (show ¬ o = 0 by omega), decide_eq_false (show ¬ o = 104 by omega), decide_eq_false (show ¬ o = 110 by omega), decide_eq_false (show ¬ o = 115 by omega)]
  rfl
theorem scr_ob {o : Nat} (h : scr o 3 = false) (h0 : o ≠ 122) (h1 : o ≠ 0) (h2 : o ≠ 104) (k : Nat) : scr o k = false := by
  have h3 : o ≠ 110 := by intro e; subst e; revert h; decide +kernel
  have h4 : o ≠ 115 := by intro e; subst e; revert h; decide +kernel
  unfold scr at h ⊢
  rw [decide_eq_false h0, decide_eq_false h1, decide_eq_false h2, decide_eq_false h3, decide_eq_false h4] at h ⊢
  simpa using h
theorem SEq.sim {S S' : St} (hs : Sim S S') {o R b : Nat} (h : SEq S o R b) (h1 : 1 ≤ o) (h2 : o ≤ 88) (hR : ∀ k, scr R k = false) : SEq S' o R b := by
  obtain ⟨a1, a2, a3, a4⟩ := h
  refine ⟨fun i hi => ?_, ?_, ?_, ?_⟩
  · rw [hs.1 (o + 1) i (scr_st (by omega) (by omega)), hs.1 (o + 2) i (scr_st (by omega) (by omega)), hs.1 (o + 3) i (scr_st (by omega) (by omega)), hs.1 R (b + i) (hR _), hs.1 R (b + 12 + i) (hR _), hs.1 R (b + 24 + i) (hR _)]
    exact a1 i hi
  · rw [hs.1 o 3 (scr_st h1 (by omega)), hs.1 R (b + 36) (hR _)]; exact a2
  · rw [hs.1 o 4 (scr_st h1 (by omega)), hs.1 R (b + 37) (hR _)]; exact a3
  · rw [hs.1 o 5 (scr_st h1 (by omega)), hs.1 R (b + 38) (hR _)]; exact a4
theorem SOk.sim {S S' : St} (hs : Sim S S') {m o : Nat} (h : SOk S m o) (h1 : 1 ≤ o) (h2 : o ≤ 88) : SOk S' m o := by
  obtain ⟨a1, a2, a3⟩ := h
  refine ⟨fun i hi => ?_, ?_, ?_⟩
  · rw [hs.1 (o + 1) i (scr_st (by omega) (by omega)), hs.1 (o + 2) i (scr_st (by omega) (by omega)), hs.1 (o + 3) i (scr_st (by omega) (by omega))]
    exact a1 i hi
  · rw [hs.1 o 3 (scr_st h1 (by omega))]; exact a2
  · rw [hs.1 o 5 (scr_st h1 (by omega))]; exact a3
theorem RT.sim {S S' : St} (hs : Sim S S') (h : RT S) : RT S' := by
  obtain ⟨n, h1, h2, h3, h4, h5⟩ := h
  refine ⟨n, h1, ?_, ?_, fun i hi => ?_, fun i hi => ?_⟩
  · rw [hs.1 1 1 (by decide +kernel)]; exact h2
  · rw [hs.1 122 10 (by decide +kernel)]; exact h3
  · rw [hs.1 2 i (scr_st (by decide) (by decide)), hs.1 128 i (scr_ob (by decide +kernel) (by decide) (by decide) (by decide) i)]; exact h4 i hi
  · rw [hs.1 2 i (scr_st (by decide) (by decide))]; exact h5 i hi
theorem RC.sim {S S' : St} (hs : Sim S S') {m : Nat} (h : RC S m) : RC S' m := by
  obtain ⟨h1, h2, h3, h4⟩ := h
  refine ⟨h1, ?_, ?_, fun i hi => ?_⟩
  · rw [hs.1 3 2 (by decide +kernel)]; exact h2
  · rw [hs.1 122 3 (by decide +kernel)]; exact h3
  · rw [hs.1 4 i (scr_st (by decide) (by decide)), hs.1 5 i (scr_st (by decide) (by decide)), hs.1 124 i (scr_ob (by decide +kernel) (by decide) (by decide) (by decide) i), hs.1 125 i (scr_ob (by decide +kernel) (by decide) (by decide) (by decide) i)]
    exact h4 i hi
theorem RH.sim {S S' : St} (hs : Sim S S') {m : Nat} (h : RH S m) : RH S' m := by
  obtain ⟨u, f, h1, h2, h3, h4, h5, h6⟩ := h
  refine ⟨u, f, h1, h2, ?_, ?_, ?_, fun j hj => ?_⟩
  · rw [hs.1 12 2 (by decide +kernel)]; exact h3
  · rw [hs.1 122 28 (by decide +kernel)]; exact h4
  · rw [hs.1 12 1 (by decide +kernel)]; exact h5
  · exact ⟨(h6 j hj).1.sim hs (by omega) (by omega) (fun k => scr_ob (by decide +kernel) (by decide) (by decide) (by decide) k), (h6 j hj).2.sim hs (by omega) (by omega)⟩
theorem RK.sim {S S' : St} (hs : Sim S S') {m : Nat} (h : RK S m) : RK S' m := by
  obtain ⟨c, h1, h2, h3⟩ := h
  refine ⟨c, h1, ?_, fun i hi => ?_⟩
  · rw [hs.1 122 4 (by decide +kernel)]; exact h2
  · obtain ⟨a1, a2, a3, a4, a5⟩ := h3 i hi
    rw [hs.1 91 i (scr_st (by decide) (by decide)), hs.1 155 i (scr_ob (by decide +kernel) (by decide) (by decide) (by decide) i), hs.1 156 i (scr_ob (by decide +kernel) (by decide) (by decide) (by decide) i)]
    exact ⟨a1, a2, a3, a4, fun e => ⟨(a5 e).1.sim hs (by omega) (by omega) (fun k => scr_ob (by decide +kernel) (by decide) (by decide) (by decide) k), (a5 e).2.sim hs (by omega) (by omega)⟩⟩
theorem RR.sim {S S' : St} (hs : Sim S S') (h : RR S) : RR S' := by
  obtain ⟨t, h1, h2, h3, h4⟩ := h
  refine ⟨t, h1, ?_, ?_, fun i hi => ?_⟩
  · rw [hs.1 10 1 (by decide +kernel)]; exact h2
  · rw [hs.1 122 1 (by decide +kernel)]; exact h3
  · rw [(hs.2 i).1, (hs.2 i).2]; exact h4 i hi
theorem RF.sim {S S' : St} (hs : Sim S S') (h : RF S) : RF S' := by
  obtain ⟨t, h1, h2, h3, h4⟩ := h
  refine ⟨t, h1, ?_, ?_, fun i hi => ?_⟩
  · rw [hs.1 101 3 (by decide +kernel)]; exact h2
  · rw [hs.1 122 39 (by decide +kernel)]; exact h3
  · rw [hs.1 102 i (scr_ob (by decide +kernel) (by decide) (by decide) (by decide) i), hs.1 103 i (scr_ob (by decide +kernel) (by decide) (by decide) (by decide) i), hs.1 146 i (scr_ob (by decide +kernel) (by decide) (by decide) (by decide) i), hs.1 147 i (scr_ob (by decide +kernel) (by decide) (by decide) (by decide) i)]
    exact h4 i hi
theorem RE.sim {S S' : St} (hs : Sim S S') (h : RE S) : RE S' := by
  obtain ⟨t, h1, h2, h3, h4⟩ := h
  refine ⟨t, h1, ?_, ?_, fun i hi => ?_⟩
  · rw [hs.1 104 3 (by decide +kernel)]; exact h2
  · rw [hs.1 122 42 (by decide +kernel)]; exact h3
  · rw [hs.1 105 i (scr_ob (by decide +kernel) (by decide) (by decide) (by decide) i), hs.1 106 i (scr_ob (by decide +kernel) (by decide) (by decide) (by decide) i), hs.1 107 i (scr_ob (by decide +kernel) (by decide) (by decide) (by decide) i), hs.1 148 i (scr_ob (by decide +kernel) (by decide) (by decide) (by decide) i), hs.1 149 i (scr_ob (by decide +kernel) (by decide) (by decide) (by decide) i), hs.1 150 i (scr_ob (by decide +kernel) (by decide) (by decide) (by decide) i)]
    exact h4 i hi
theorem RU.sim {S S' : St} (hs : Sim S S') (h : RU S) : RU S' := by
  obtain ⟨r, z, h1, h2, h3, h4, h5, h6, c, h7, h8⟩ := h
  refine ⟨r, z, h1, h2, ?_, ?_, ?_, ?_, c, fun i hi => ?_, h8⟩
  · rw [hs.1 0 8 (by decide +kernel)]; exact h3
  · rw [hs.1 0 9 (by decide +kernel)]; exact h4
  · rw [hs.1 r 1 (by rcases h1 with rfl | rfl <;> decide +kernel)]; exact h5
  · rw [hs.1 122 18 (by decide +kernel)]; exact h6
  · rw [hs.1 130 i (scr_ob (by decide +kernel) (by decide) (by decide) (by decide) i), hs.1 (r + 1) i (scr_ob (by rcases h1 with rfl | rfl <;> decide +kernel) (by rcases h1 with rfl | rfl <;> decide) (by rcases h1 with rfl | rfl <;> decide) (by rcases h1 with rfl | rfl <;> decide) i)]
    exact h7 i hi
theorem RelP.sim {S S' : St} (hs : Sim S S') (h : RelP S) : RelP S' := by
  obtain ⟨h1, ⟨m, a1, a2, a3, a4⟩, h3, h4, h5, h6, h7⟩ := h
  exact ⟨h1.sim hs, ⟨m, a1.sim hs, a2.sim hs (by decide) (by decide), a3.sim hs, a4.sim hs⟩, h3.sim hs (by decide) (by decide) (fun k => scr_ob (by decide +kernel) (by decide) (by decide) (by decide) k), h4.sim hs, h5.sim hs, h6.sim hs, h7.sim hs⟩
