/-! rule -/
theorem read_0 {T : St} {o : Nat} (ho : o = 110 ∨ o = 115) (hT : gI T 1 1 = nI 0) : ∃ T', f_X6_read o T = some (-1, T') ∧ cF o T T' ∧ gI T' o 1 = nI 0 := by
  refine ⟨sI (sI (sI (sI (sI (sI T o 1 0) o 3 0) o 4 0) o 5 0) o 6 0) o 7 1, ?_, ((((((cF.rf o T).s (by omega)).s (by omega)).s (by omega)).s (by omega)).s (by omega)).s (by omega), ?_⟩
  · unfold f_X6_read
    have e : gI (sI (sI (sI (sI (sI (sI T o 1 0) o 3 0) o 4 0) o 5 0) o 6 0) o 7 1) 1 1 = nI 0 := by
      rw [gI_s, if_neg (by omega), gI_s, if_neg (by omega), gI_s, if_neg (by omega), gI_s, if_neg (by omega), gI_s, if_neg (by omega), gI_s, if_neg (by omega)]; exact hT
    rw [lt_e, lt_e, lt_e, lt_e, lt_e, lt_e, e, if_pos z00]
  · rw [gI_s, if_pos rfl, if_neg (by omega), gI_s, if_pos rfl, if_neg (by omega), gI_s, if_pos rfl, if_neg (by omega), gI_s, if_pos rfl, if_neg (by omega), gI_s, if_pos rfl, if_neg (by omega), gI_s, if_pos rfl, if_pos rfl]; rfl
theorem read_c {T : St} {o n k : Nat} {t : Nat → Nat} {y : RS} {D : List Nat} {f : Bool} (ho : o = 110 ∨ o = 115) (hx : TxC T t) (hT : gI T 1 1 = nI n) (hn : n ≤ 80) (h0 : 0 < n) (hE : endR t n k y D f) : ∃ T', f_X6_read o T = some (if f = true then -1 else nI k, T') ∧ cF o T T' ∧ (f = true → gI T' o 1 = nI (D.map enc).length ∧ ArL (gI T' (o + 1)) (D.map enc)) := by
  obtain ⟨e1, e2, e3, e4⟩ := hE
  have h255 : ∀ i, i < 40 → t i ≤ 255 := fun i hi => (hx i (by omega)).2
  unfold f_X6_read
  rw [lt_e, lt_e, lt_e, lt_e, lt_e, lt_e]
  generalize hT0 : sI (sI (sI (sI (sI (sI T o 1 0) o 3 0) o 4 0) o 5 0) o 6 0) o 7 1 = T0
  have hF0 : cF o T T0 := by
    rw [← hT0]
    exact ((((((cF.rf o T).s (by omega)).s (by omega)).s (by omega)).s (by omega)).s (by omega)).s (by omega)
  have hX0 : RpX T0 o x0 := by
    rw [← hT0]
    refine ⟨?_, ?_, ?_, ?_⟩
    · rw [gI_s, if_pos rfl, if_pos rfl]; rfl
    · rw [gI_s, if_pos rfl, if_neg (by omega), gI_s, if_pos rfl, if_neg (by omega), gI_s, if_pos rfl, if_neg (by omega), gI_s, if_pos rfl, if_pos rfl]; rfl
    · rw [gI_s, if_pos rfl, if_neg (by omega), gI_s, if_pos rfl, if_neg (by omega), gI_s, if_pos rfl, if_pos rfl]; rfl
    · rw [gI_s, if_pos rfl, if_neg (by omega), gI_s, if_pos rfl, if_pos rfl]; rfl
  have hW0 : RpW T0 o [] [] := by
    rw [← hT0]
    refine ⟨?_, trivial, ?_, trivial⟩
    · rw [gI_s, if_pos rfl, if_neg (by omega), gI_s, if_pos rfl, if_neg (by omega), gI_s, if_pos rfl, if_neg (by omega), gI_s, if_pos rfl, if_neg (by omega), gI_s, if_pos rfl, if_pos rfl]; rfl
    · rw [gI_s, if_pos rfl, if_neg (by omega), gI_s, if_pos rfl, if_neg (by omega), gI_s, if_pos rfl, if_neg (by omega), gI_s, if_pos rfl, if_neg (by omega), gI_s, if_pos rfl, if_neg (by omega), gI_s, if_pos rfl, if_pos rfl]; rfl
  have em : mnI (nI n) (40 : Int32) = nI (min n 40) := mnNI (a := n) (b := 40) (by omega) (by omega)
  rw [hF0.1 1 1 (by omega) (by omega) (by omega), hT, if_neg (show ¬ nI n = 0 by rw [lit, nEq (by omega) (by omega)]; omega), lt_e, em]
  -- one step
  have one : ∀ (e kk : Int32 → St → Option (Int32 × St)) (i : Nat) (S : St) (x : RS), i < min n 40 → cF o T S → rn t 0 i x0 = some x → RpX S o x → RpW S o (sW x) (sO x) → ∃ T', cF o T T' ∧ (∀ z, stR (t i) x = some z → f_X6_read_51b o (nI (min n 40)) e kk (nI i) S = kk (nI (i + 1)) T' ∧ RpX T' o z ∧ RpW T' o (sW z) (sO z)) ∧ (stR (t i) x = none → f_X6_read_51b o (nI (min n 40)) e kk (nI i) S = some (nI i, T')) := by
    intro e kk i S x hi hF hr hX hW
    have hI := InR.rn (m := 40) h255 i x (by omega) hr
    have hs : gI S 2 i = nI (t i) := by rw [hF.1 2 i (by omega) (by omega) (by omega)]; exact (hx i (by omega)).1
    have ht := h255 i (by omega)
    unfold f_X6_read_51b f_X6_read_94
    rw [if_neg (show ¬ nI (min n 40) ≤ nI i by rw [nLe (by omega) (by omega)]; omega), if_pos (show inb (nI i) 80 by rw [inb_nI (by omega)]; omega), nI_t (by omega), hs, lt_e, hX.1, a1]
    unfold stR
    cases hw : sw x with
    | true =>
      obtain ⟨T', q1, q2, q3⟩ := tt_c hw hX hW hI (by omega) ht
      rw [if_pos rfl, if_neg (show ¬ flI true = 0 by decide)]
      refine ⟨T', hF.tr q1, fun z hz => ?_, fun hz => ?_⟩
      · obtain ⟨r1, r2, r3⟩ := q2 z hz
        rw [r1, bd_e, if_neg (show ¬ (1 : Int32) = 0 by decide)]
        exact ⟨rfl, r2, r3⟩
      · rw [q3 hz, bd_e, if_pos rfl]
    | false =>
      obtain ⟨T', q1, q2, q3⟩ := tb_c hw hX hW hI (by omega) ht
      rw [if_neg (by simp), if_pos (show flI false = 0 from rfl)]
      refine ⟨T', hF.tr q1, fun z hz => ?_, fun hz => ?_⟩
      · obtain ⟨r1, r2, r3⟩ := q2 z hz
        rw [r1, bd_e, if_neg (show ¬ (1 : Int32) = 0 by decide)]
        exact ⟨rfl, r2, r3⟩
      · rw [q3 hz, bd_e, if_pos rfl]
  have h0' := lp_ex (body := f_X6_read_51b o (nI (min n 40)) (fun v16 S17 => (if (gI S17 o 7) = 0 then (if 0 < (gI S17 o 4) then some (nI (min n 40), S17) else (if (gI S17 1 1) ≤ (40 : Int32) then bd (f_X6_release o (1 : Int32) S17) (fun r18 S19 => some ((-1 : Int32), S19)) else some (nI (min n 40), S17))) else some (nI (min n 40), S17)))) (Q := fun w => ∃ T', w = some (if f = true then -1 else nI k, T') ∧ cF o T T' ∧ (f = true → gI T' o 1 = nI (D.map enc).length ∧ ArL (gI T' (o + 1)) (D.map enc))) k (fun i v S => v = nI i ∧ cF o T S ∧ ∃ x, rn t 0 i x0 = some x ∧ RpX S o x ∧ RpW S o (sW x) (sO x)) (fun i kk v S hi hI => ?_) (fun kk v S hI => ?_) FU 0 (0 : Int32) T0 (by omega) (by unfold FU; omega) ⟨rfl, hF0, x0, rfl, hX0, hW0⟩
  · exact h0'
  · obtain ⟨rfl, hF, x, hr, hX, hW⟩ := hI
    obtain ⟨z, hz⟩ := rn_pre (t := t) (a := 0) (x := x0) (k - (i + 1)) (i + 1) y (by rw [show i + 1 + (k - (i + 1)) = k by omega]; exact e2)
    have hz' := hz
    rw [rn_s, hr, Nat.zero_add] at hz'
    obtain ⟨T', q1, q2, q3⟩ := one _ kk i S x (by omega) hF hr hX hW
    obtain ⟨r1, r2, r3⟩ := q2 z hz'
    exact ⟨_, T', r1, rfl, q1, z, hz, r2, r3⟩
  · obtain ⟨rfl, hF, x, hr, hX, hW⟩ := hI
    rw [e2] at hr
    obtain rfl := Option.some.inj hr
    have hI := InR.rn (m := 40) h255 k y (by omega) e2
    by_cases g : k < min n 40
    · have ff : f = false := by
        cases f with
        | false => rfl
        | true => have := (e4 rfl).1; omega
      subst ff
      obtain ⟨T', q1, q2, q3⟩ := one (fun v16 S17 => (if (gI S17 o 7) = 0 then (if 0 < (gI S17 o 4) then some (nI (min n 40), S17) else (if (gI S17 1 1) ≤ (40 : Int32) then bd (f_X6_release o (1 : Int32) S17) (fun r18 S19 => some ((-1 : Int32), S19)) else some (nI (min n 40), S17))) else some (nI (min n 40), S17))) kk k S y g hF e2 hX hW
      exact ⟨T', by rw [if_neg (by simp)]; exact q3 ((e3 rfl).2 g), q1, (fun z => by cases z)⟩
    · have ek : k = min n 40 := by omega
      have h40 : (nI n ≤ (40 : Int32)) = (n ≤ 40) := nLe (b := 40) (by omega) (by omega)
      have hd0 : ((0 : Int32) < nI (sd y)) = (0 < sd y) := nLt (a := 0) (by omega) (by have := hI.1; omega)
      unfold f_X6_read_51b
      rw [if_pos (show nI (min n 40) ≤ nI k by rw [nLe (by omega) (by omega)]; omega)]
      dsimp only
      rw [hX.1, hX.2.1, hF.1 1 1 (by omega) (by omega) (by omega), hT]
      cases f with
      | true =>
        obtain ⟨_, g2, g3, g4, g5, g6⟩ := e4 rfl
        obtain ⟨T', p1, p2, p3, p4⟩ := rel_c (b := 1) (by omega) hW (by have := hI.2.2.2.1; omega) hI.2.2.2.2
        rw [g5] at p2
        rw [g3, if_pos (show flI false = 0 from rfl), g4, if_neg (show ¬ (0 : Int32) < nI 0 by decide), if_pos (h40.mpr g2), show f_X6_release o (1 : Int32) S = some ((), T') from p1, bd_e]
        exact ⟨T', by rw [if_pos rfl], hF.tr p3, fun _ => ⟨p2.2.2.1, p2.2.2.2⟩⟩
      | false =>
        refine ⟨S, ?_, hF, (fun z => by cases z)⟩
        rw [if_neg (show ¬ false = true by simp), ← ek]
        cases hw : sw y with
        | true => rw [if_neg (show ¬ flI true = 0 by decide)]
        | false =>
          rw [if_pos (show flI false = 0 from rfl)]
          by_cases q : 0 < sd y
          · rw [if_pos (hd0.mpr q)]
          · rw [if_neg (fun z => q (hd0.mp z))]
            have : 40 < n := by
              rcases (e3 rfl).1 ek with w | w | w
              · rw [hw] at w; cases w
              · omega
              · exact w
            rw [if_neg (fun z => by have := h40.mp z; omega)]
theorem ArL.get {A : Nat → Int32} : ∀ {L : List Nat}, ArL A L → ∀ i, i < L.length → A i = nI (L.getD (L.length - 1 - i) 0) := by
  intro L
  induction L with
  | nil => intro _ i hi; exact absurd hi (by simp)
  | cons x L ih =>
    intro h i hi
    rw [List.length_cons] at hi ⊢
    by_cases e : i = L.length
    · subst e
      rw [show L.length + 1 - 1 - L.length = 0 by omega]
      exact h.1
    · rw [ih h.2 i (by omega), show L.length + 1 - 1 - i = (L.length - 1 - i) + 1 by omega, List.getD_cons_succ]
theorem hgt_cg {c c' : Nat → Nat} : ∀ {z : Nat}, (∀ i, i < z → c i = c' i) → hgt c z = hgt c' z := by
  intro z
  induction z with
  | zero => intro _; rfl
  | succ z ih =>
    intro h
    rw [hgt, hgt, ih (fun i hi => h i (by omega)), h z (by omega)]
theorem hgt_st (c : Nat → Nat) (z : Nat) : hgt c (z + 1) = (hgt c z).bind (hgS (c z)) := by
  rw [hgt]
  cases hgt c z with
  | none => rfl
  | some h =>
    show _ = hgS (c z) h
    unfold hgS
    dsimp only
    by_cases g : c z < 1007
    · rw [if_pos g, if_pos g, if_pos (by omega)]
    · rw [if_neg g, if_neg g]
theorem hgt_l2 : ∀ D : List Nat, hgt (fun i => D.getD (D.length - 1 - i) 0) D.length = hgE D 0 := by
  intro D
  induction D with
  | nil => rfl
  | cons c C ih =>
    rw [List.length_cons, hgt_st]
    show _ = (hgE C 0).bind (hgS c)
    rw [← ih]
    have e1 : hgt (fun i => (c :: C).getD (C.length + 1 - 1 - i) 0) C.length = hgt (fun i => C.getD (C.length - 1 - i) 0) C.length := by
      refine hgt_cg (fun i hi => ?_)
      rw [show C.length + 1 - 1 - i = (C.length - 1 - i) + 1 by omega, List.getD_cons_succ]
    rw [e1]
    have e2 : (c :: C).getD (C.length + 1 - 1 - C.length) 0 = c := by rw [show C.length + 1 - 1 - C.length = 0 by omega]; rfl
    rw [e2]
/-- the codes of a rule that was read -/
theorem codR {A B : Nat → Int32} {D : List Nat} (hA : ArL A D) (hB : ArL B (D.map enc)) (h1 : hgE D 0 = some 1) : ∃ c : Nat → Nat, (∀ i, i < D.length → A i = nI (c i) ∧ B i = nI (enc (c i))) ∧ hgt c D.length = some 1 := by
  refine ⟨fun i => D.getD (D.length - 1 - i) 0, fun i hi => ⟨hA.get i hi, ?_⟩, by rw [hgt_l2]; exact h1⟩
  rw [hB.get i (by rw [List.length_map]; exact hi), List.length_map]
  congr 1
  dsimp only
  rw [List.getD_eq_getElem?_getD, List.getD_eq_getElem?_getD, List.getElem?_map, List.getElem?_eq_getElem (show D.length - 1 - i < D.length by omega)]
  rfl
theorem lays_c {T : St} {ar z : Nat} (hz : z ≤ 40) (h1 : ar ≠ 130) (h2 : ar ≠ 122) : ∃ T', f_X11_laysCode ar (nI z) T = some ((), T') ∧ gI T' 122 18 = nI z ∧ (∀ i, i < z → gI T' 130 i = gI T ar i) ∧ (∀ a b, a ≠ 130 → (a ≠ 122 ∨ b ≠ 18) → gI T' a b = gI T a b) ∧ ∀ a b, gL T' a b = gL T a b := by
  unfold f_X11_laysCode
  rw [lt_e]
  have h0 := lp_ex (body := f_X11_laysCode_7b ar (nI z) (fun v5 S6 => some ((), S6))) (Q := fun w => ∃ T', w = some ((), T') ∧ gI T' 122 18 = nI z ∧ (∀ i, i < z → gI T' 130 i = gI T ar i) ∧ (∀ a b, a ≠ 130 → (a ≠ 122 ∨ b ≠ 18) → gI T' a b = gI T a b) ∧ ∀ a b, gL T' a b = gL T a b) z (fun j v S => v = nI j ∧ gI S 122 18 = nI z ∧ (∀ i, i < j → gI S 130 i = gI T ar i) ∧ (∀ a b, a ≠ 130 → (a ≠ 122 ∨ b ≠ 18) → gI S a b = gI T a b) ∧ ∀ a b, gL S a b = gL T a b) (fun j k v S hj hI => ?_) (fun k v S hI => ?_) FU 0 (0 : Int32) (sI T 122 18 (nI z)) (by omega) (by unfold FU; omega) ⟨rfl, rfl, fun i hi => by omega, fun a b g1 g2 => ?_, fun _ _ => rfl⟩
  · exact h0
  · obtain ⟨rfl, g1, g2, g3, g4⟩ := hI
    have w : inb (nI j) 80 := by rw [inb_nI (by omega)]; omega
    have ga : gI S ar j = gI T ar j := g3 ar j h1 (Or.inl h2)
    refine ⟨nI (j + 1), sI S 130 j (gI T ar j), ?_, rfl, g1, fun i hi => ?_, fun a b x y => ?_, fun a b => g4 a b⟩
    · unfold f_X11_laysCode_7b
      rw [if_neg (by rw [nLe (by omega) (by omega)]; omega)]
      simp only [if_pos w, nI_t (show j < 2147483648 by omega), lt_e, a1, ga]
    · rw [gI_s, if_pos rfl]
      by_cases q : i = j
      · rw [if_pos q, q]
      · rw [if_neg q]; exact g2 i (by omega)
    · rw [gI_s, if_neg x]; exact g3 a b x y
  · obtain ⟨rfl, g1, g2, g3, g4⟩ := hI
    refine ⟨S, ?_, g1, g2, g3, g4⟩
    unfold f_X11_laysCode_7b
    rw [if_pos (by rw [nLe (by omega) (by omega)]; omega)]
  · rw [gI_s]
    by_cases e : a = 122
    · rw [if_pos e, if_neg (by omega)]
    · rw [if_neg e]
/-- the relation behind a text that was read, the rules aside -/
theorem relO {S E : St} (hS : RelP S) (hk : ∀ a b, (1 ≤ a ∧ a ≤ 91 ∧ a ≠ 10 ∧ (a ≠ 1 ∨ b ≠ 1)) ∨ (101 ≤ a ∧ a ≤ 103) ∨ (a = 104 ∧ b = 3) ∨ (105 ≤ a ∧ a ≤ 107) ∨ (a = 122 ∧ (b = 3 ∨ b = 4 ∨ b = 28 ∨ b = 39 ∨ b = 42)) ∨ (124 ≤ a ∧ a ≤ 126) ∨ a = 137 ∨ (146 ≤ a ∧ a ≤ 150) ∨ (155 ≤ a ∧ a ≤ 157) → gI E a b = gI S a b) (h1 : gI E 1 1 = 0) (h10 : gI E 122 10 = 0) (hR : RR E) (hU : RU E) : RelP E := by
  obtain ⟨hT, ⟨m, hC, hO, hH, hK⟩, hN, _, hF, hE, _⟩ := hS
  have hz : Hz S E := fun a b h => by
    refine hk a b ?_
    unfold hzO at h
    simp at h
    omega
  refine ⟨?_, ⟨m, hC.fr (hk 3 2 (by omega)) (hk 122 3 (by omega)) (fun k => hk 4 k (by omega)) (fun k => hk 5 k (by omega)) (fun k => hk 124 k (by omega)) (fun k => hk 125 k (by omega)), hO.f6 (fun k => hk 6 k (by omega)) (fun k => hk 7 k (by omega)) (fun k => hk 8 k (by omega)) (fun k => hk 9 k (by omega)), hH.fr (hk 12 2 (by omega)) (hk 122 28 (by omega)) (hk 12 1 (by omega)) hz (fun k => hk 137 k (by omega)), hK.fr (hk 122 4 (by omega)) (fun k => hk 91 k (by omega)) (fun k => hk 155 k (by omega)) (fun k => hk 156 k (by omega)) hz (fun k => hk 157 k (by omega))⟩, hN.f6 (fun k => hk 6 k (by omega)) (fun k => hk 7 k (by omega)) (fun k => hk 8 k (by omega)) (fun k => hk 9 k (by omega)) (fun k => hk 126 k (by omega)), hR, hF.fr (hk 101 3 (by omega)) (hk 122 39 (by omega)) (fun k => hk 102 k (by omega)) (fun k => hk 103 k (by omega)) (fun k => hk 146 k (by omega)) (fun k => hk 147 k (by omega)), hE.fr (hk 104 3 (by omega)) (hk 122 42 (by omega)) (fun k => hk 105 k (by omega)) (fun k => hk 106 k (by omega)) (fun k => hk 107 k (by omega)) (fun k => hk 148 k (by omega)) (fun k => hk 149 k (by omega)) (fun k => hk 150 k (by omega)), hU⟩
  obtain ⟨n, n1, n2, n3, n4, n5⟩ := hT
  exact ⟨0, by omega, h1, h10, fun i hi => by omega, fun i hi => by rw [hk 2 i (by omega)]; exact n5 i hi⟩
