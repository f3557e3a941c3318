theorem nEqS {s c : Nat} (hs : s ≤ 255) (hc : c ≤ 255) : (nI s = nI c) = (s = c) := nEq (by omega) (by omega)
theorem tt_c {T : St} {o s p : Nat} {x : RS} (hw : sw x = true) (hX : RpX T o x) (hW : RpW T o (sW x) (sO x)) (hI : InR x p) (hp : p < 40) (hs : s ≤ 255) : ∃ T', cF o T T' ∧ (∀ y, stA s x = some y → f_X6_takesThing o (nI s) T = some (1, T') ∧ RpX T' o y ∧ RpW T' o (sW y) (sO y)) ∧ (stA s x = none → f_X6_takesThing o (nI s) T = some (0, T')) := by
  obtain ⟨i1, i2, i3, i4, i5⟩ := hI
  obtain ⟨x7, x4, x5, x6⟩ := hX
  have hX : RpX T o x := ⟨x7, x4, x5, x6⟩
  rw [hw] at x7
  unfold f_X6_takesThing stA
  by_cases e1 : s = 45
  · obtain ⟨T1, p1, p2, p3, p4⟩ := hold_c (c := 126) hW (by omega) (by omega)
    refine ⟨T1, p3, fun y hy => ?_, fun hn => ?_⟩
    · rw [if_pos e1] at hy
      obtain rfl := Option.some.inj hy
      rw [if_pos (show nI s = (45 : Int32) by rw [e1]; rfl), show (126 : Int32) = nI 126 from rfl, p1, bd_e]
      exact ⟨rfl, ⟨(p4 7 (by omega)).trans x7, (p4 4 (by omega)).trans x4, (p4 5 (by omega)).trans x5, (p4 6 (by omega)).trans x6⟩, p2⟩
    · rw [if_pos e1] at hn; cases hn
  · rw [if_neg e1, if_neg (show ¬ nI s = (45 : Int32) by rw [show (45 : Int32) = nI 45 from rfl, nEqS hs (by omega)]; exact e1)]
    by_cases e2 : s = 40
    · rw [if_pos e2, if_pos (show nI s = (40 : Int32) by rw [e2]; rfl), x4]
      by_cases e3 : sd x = 4
      · rw [if_pos e3, if_pos (show nI (sd x) = (4 : Int32) by rw [e3]; rfl)]
        exact ⟨T, cF.rf o T, (fun y hy => by cases hy), fun _ => rfl⟩
      · rw [if_neg e3, if_neg (show ¬ nI (sd x) = (4 : Int32) by rw [show (4 : Int32) = nI 4 from rfl, nEq (by omega) (by omega)]; exact e3), a1, lt_e]
        have f5 : gI (sI T o 4 (nI (sd x + 1))) o 5 = nI (sk x) := by rw [gI_s, if_pos rfl, if_neg (by omega)]; exact x5
        have f4 : gI (sI T o 4 (nI (sd x + 1))) o 4 = nI (sd x + 1) := by rw [gI_s, if_pos rfl, if_pos rfl]
        have ecl : nI (sk x) &&& (((1 : Int32) <<< (nI (sd x + 1) &&& 31)) ^^^ (-1 : Int32)) = nI (clrN (sk x) (sd x + 1)) := nClr (by omega)
        rw [f5, f4, ecl, lt_e, lt_e]
        have hW2 : RpW (sI (sI T o 4 (nI (sd x + 1))) o 5 (nI (clrN (sk x) (sd x + 1)))) o (sW x) (sO x) := (hW.o (by omega)).o (by omega)
        obtain ⟨T1, p1, p2, p3, p4⟩ := hold_c (c := 40) hW2 (by omega) (by omega)
        refine ⟨T1, (((cF.rf o T).s (by omega)).s (by omega)).tr p3, fun y hy => ?_, fun hn => by cases hn⟩
        obtain rfl := Option.some.inj hy
        rw [show (40 : Int32) = nI 40 from rfl, p1, bd_e]
        refine ⟨rfl, ⟨?_, ?_, ?_, ?_⟩, p2⟩
        · rw [p4 7 (by omega), gI_s, if_pos rfl, if_neg (by omega), gI_s, if_pos rfl, if_neg (by omega)]; exact x7
        · rw [p4 4 (by omega), gI_s, if_pos rfl, if_neg (by omega), gI_s, if_pos rfl, if_pos rfl]; rfl
        · rw [p4 5 (by omega), gI_s, if_pos rfl, if_pos rfl]; rfl
        · rw [p4 6 (by omega), gI_s, if_pos rfl, if_neg (by omega), gI_s, if_pos rfl, if_neg (by omega)]; exact x6
    · rw [if_neg e2, if_neg (show ¬ nI s = (40 : Int32) by rw [show (40 : Int32) = nI 40 from rfl, nEqS hs (by omega)]; exact e2), idx_c hs, bd_e]
      unfold f_X6_takesThing_88 f_X6_takesThing_89 f_X6_takesThing_100 f_X6_takesThing_117 f_X6_takesThing_130
      have l48 : (nI s < (48 : Int32)) = (s < 48) := nLt (b := 48) (by omega) (by omega)
      have l57 : ((57 : Int32) < nI s) = (57 < s) := nLt (a := 57) (by omega) (by omega)
      by_cases e3 : 48 ≤ s ∧ s ≤ 57
      · rw [if_pos e3, if_neg (by rw [l48]; omega), if_neg (by rw [l57]; omega), if_neg (show ¬ (1 : Int32) = 0 by decide), if_neg (show ¬ (1 : Int32) = 0 by decide), s48 e3.1]
        obtain ⟨T1, p1, p2, p3, p4⟩ := emit_c (c := s - 48) hW (by omega)
        refine ⟨sI (sI T1 o 6 1) o 7 0, (p3.s (by omega)).s (by omega), fun y hy => ?_, fun hn => by cases hn⟩
        obtain rfl := Option.some.inj hy
        rw [p1, bd_e, if_neg (show ¬ (1 : Int32) = 0 by decide), lt_e, lt_e]
        refine ⟨rfl, ⟨?_, ?_, ?_, ?_⟩, (p2.o (by omega)).o (by omega)⟩
        · rw [gI_s, if_pos rfl, if_pos rfl]; rfl
        · rw [gI_s, if_pos rfl, if_neg (by omega), gI_s, if_pos rfl, if_neg (by omega), p4 4 (by omega)]; exact x4
        · rw [gI_s, if_pos rfl, if_neg (by omega), gI_s, if_pos rfl, if_neg (by omega), p4 5 (by omega)]; exact x5
        · rw [gI_s, if_pos rfl, if_neg (by omega), gI_s, if_pos rfl, if_pos rfl]; rfl
      · have fold : ∀ A B : Option (Int32 × St), (if nI s < (48 : Int32) then A else if (57 : Int32) < nI s then A else B) = A := by
          intro A B
          by_cases q : s < 48
          · rw [if_pos (l48.mpr q)]
          · rw [if_neg (fun z => q (l48.mp z)), if_pos (l57.mpr (by omega))]
        rw [if_neg e3, fold, if_pos (show (0 : Int32) = 0 from rfl)]
        cases hi : ixN 0 s with
        | none =>
          refine ⟨T, cF.rf o T, (fun y hy => by cases hy), fun _ => ?_⟩
          rw [if_neg (show ¬ (0 : Int32) ≤ optI none by decide)]
        | some k =>
          have k7 := ix_7 hi
          obtain ⟨T1, p1, p2, p3, p4⟩ := emit_c (c := 1000 + k) hW (by omega)
          refine ⟨sI (sI T1 o 6 0) o 7 0, (p3.s (by omega)).s (by omega), fun y hy => ?_, fun hn => by cases hn⟩
          obtain rfl := Option.some.inj hy
          rw [show optI (some k) = nI k from rfl, if_pos (n0p k (by omega)), if_pos (show (0 : Int32) = 0 from rfl), show (1000 : Int32) + nI k = nI (1000 + k) from nAdd 1000 k, p1, bd_e, if_pos (show (0 : Int32) = 0 from rfl), lt_e, lt_e]
          refine ⟨rfl, ⟨?_, ?_, ?_, ?_⟩, (p2.o (by omega)).o (by omega)⟩
          · rw [gI_s, if_pos rfl, if_pos rfl]; rfl
          · rw [gI_s, if_pos rfl, if_neg (by omega), gI_s, if_pos rfl, if_neg (by omega), p4 4 (by omega)]; exact x4
          · rw [gI_s, if_pos rfl, if_neg (by omega), gI_s, if_pos rfl, if_neg (by omega), p4 5 (by omega)]; exact x5
          · rw [gI_s, if_pos rfl, if_neg (by omega), gI_s, if_pos rfl, if_pos rfl]; rfl
theorem mx0 (L : Nat) (h : L ≤ 100) : mxI (0 : Int32) (nI L - 1) = nI (L - 1) := by
  have q : ∀ L, L ≤ 100 → mxI (0 : Int32) (nI L - 1) = nI (L - 1) := by decide +kernel
  exact q L h
theorem RpW.pop {T : St} {o : Nat} {W O : List Nat} (h : RpW T o W O) (hl : W.length ≤ 100) : RpW (sI T o 3 (mxI (0 : Int32) (gI T o 3 - 1))) o W.tail O := by
  rw [h.1, mx0 _ hl]
  refine ⟨?_, ?_, ?_, ArL.ag (fun i _ => ?_) h.2.2.2⟩
  · rw [gI_s, if_pos rfl, if_pos rfl, List.length_tail]
  · cases W with
    | nil => trivial
    | cons w W =>
      refine ArL.ag (fun i _ => ?_) h.2.1.2
      rw [gI_s, if_neg (by omega)]
  · rw [gI_s, if_pos rfl, if_neg (by omega)]; exact h.2.2.1
  · rw [gI_s, if_neg (by omega)]
theorem tb_c {T : St} {o s p : Nat} {x : RS} (hw : sw x = false) (hX : RpX T o x) (hW : RpW T o (sW x) (sO x)) (hI : InR x p) (hp : p < 40) (hs : s ≤ 255) : ∃ T', cF o T T' ∧ (∀ y, stB s x = some y → f_X6_takesBehindThing o (nI s) T = some (1, T') ∧ RpX T' o y ∧ RpW T' o (sW y) (sO y)) ∧ (stB s x = none → f_X6_takesBehindThing o (nI s) T = some (0, T')) := by
  obtain ⟨i1, i2, i3, i4, i5⟩ := hI
  obtain ⟨x7, x4, x5, x6⟩ := hX
  rw [hw] at x7
  have l48 : (nI s < (48 : Int32)) = (s < 48) := nLt (b := 48) (by omega) (by omega)
  have l57 : ((57 : Int32) < nI s) = (57 < s) := nLt (a := 57) (by omega) (by omega)
  unfold f_X6_takesBehindThing stB
  by_cases e1 : 48 ≤ s ∧ s ≤ 57
  · rw [if_pos e1, if_neg (by rw [l48]; omega), if_neg (by rw [l57]; omega), s48 e1.1]
    unfold f_X6_takesDigit
    rw [x6, hW.2.2.1]
    have q0 : (nI (sg x) = (0 : Int32)) = (sg x = 0) := nEq (b := 0) (by omega) (by omega)
    have q3 : (nI (sg x) = (3 : Int32)) = (sg x = 3) := nEq (b := 3) (by omega) (by omega)
    by_cases g0 : sg x = 0
    · refine ⟨T, cF.rf o T, fun y hy => ?_, fun _ => ?_⟩
      · cases hO : sO x with
        | nil => rw [hO] at hy; cases hy
        | cons v O => rw [hO] at hy; change (if sg x = 0 ∨ sg x = 3 then none else _) = _ at hy; rw [if_pos (Or.inl g0)] at hy; cases hy
      · rw [if_pos (q0.mpr g0), bd_e, if_pos (Or.inl rfl)]
    · rw [if_neg (fun z => g0 (q0.mp z))]
      by_cases g3 : sg x = 3
      · refine ⟨T, cF.rf o T, fun y hy => ?_, fun _ => ?_⟩
        · cases hO : sO x with
          | nil => rw [hO] at hy; cases hy
          | cons v O => rw [hO] at hy; change (if sg x = 0 ∨ sg x = 3 then none else _) = _ at hy; rw [if_pos (Or.inr g3)] at hy; cases hy
        · rw [if_pos (q3.mpr g3), bd_e, if_pos (Or.inl rfl)]
      · rw [if_neg (fun z => g3 (q3.mp z))]
        cases hO : sO x with
        | nil =>
          refine ⟨T, cF.rf o T, (fun y hy => by cases hy), fun _ => ?_⟩
          rw [if_pos (show nI ([] : List Nat).length = (0 : Int32) from rfl), bd_e, if_pos (Or.inl rfl)]
        | cons v O =>
          rw [hO] at hW i4
          rw [List.length_cons] at i4
          have hv : gI T (o + 1) O.length = nI v := hW.2.2.2.1
          have el : nI (v :: O).length - (1 : Int32) = nI O.length := m1_e O.length
          have ne : ¬ nI (v :: O).length = (0 : Int32) := by rw [show (0 : Int32) = nI 0 from rfl, nEq (by rw [List.length_cons]; omega) (by omega), List.length_cons]; omega
          have w : inb (nI O.length) 40 := by rw [inb_nI (by omega)]; omega
          rw [if_neg ne, el]
          simp only [if_pos w, nI_t (show O.length < 2147483648 by omega), hv, lt_e]
          refine ⟨sI (sI T (o + 1) O.length (10 * nI v + nI (s - 48))) o 6 (nI (sg x + 1)), ((cF.rf o T).s (by omega)).s (by omega), fun y hy => ?_, fun hn => ?_⟩
          · change (if sg x = 0 ∨ sg x = 3 then none else some (false, sd x, sk x, sg x + 1, sW x, (10 * v + (s - 48)) :: O)) = some y at hy
            rw [if_neg (by omega)] at hy
            obtain rfl := Option.some.inj hy
            have f6 : gI (sI T (o + 1) O.length (10 * nI v + nI (s - 48))) o 6 = nI (sg x) := by rw [gI_s, if_neg (by omega)]; exact x6
            have fo : ∀ k, gI (sI T (o + 1) O.length (10 * nI v + nI (s - 48))) o k = gI T o k := fun k => by rw [gI_s, if_neg (by omega)]
            rw [f6, a1, bd_e, if_pos (Or.inr rfl)]
            refine ⟨rfl, ⟨?_, ?_, ?_, ?_⟩, ⟨?_, ArL.ag (fun i _ => ?_) hW.2.1, ?_, ?_, ArL.ag (fun i hi => ?_) hW.2.2.2.2⟩⟩
            · rw [gI_s, if_pos rfl, if_neg (by omega), fo]; exact x7
            · rw [gI_s, if_pos rfl, if_neg (by omega), fo]; exact x4
            · rw [gI_s, if_pos rfl, if_neg (by omega), fo]; exact x5
            · rw [gI_s, if_pos rfl, if_pos rfl]; rfl
            · rw [gI_s, if_pos rfl, if_neg (by omega), fo]; exact hW.1
            · rw [gI_s, if_neg (by omega), gI_s, if_neg (by omega)]
            · rw [gI_s, if_pos rfl, if_neg (by omega), fo]; exact hW.2.2.1
            · rw [gI_s, if_neg (by omega), gI_s, if_pos rfl, if_pos rfl, show (10 : Int32) = nI 10 from rfl, nMul, nAdd]
            · rw [gI_s, if_neg (by omega), gI_s, if_pos rfl, if_neg (by omega)]
          · change (if sg x = 0 ∨ sg x = 3 then none else some (false, sd x, sk x, sg x + 1, sW x, (10 * v + (s - 48)) :: O)) = none at hn
            rw [if_neg (by omega)] at hn; cases hn
  · have fold : ∀ A B : Option (Int32 × St), (if nI s < (48 : Int32) then A else if (57 : Int32) < nI s then A else B) = A := by
      intro A B
      by_cases q : s < 48
      · rw [if_pos (l48.mpr q)]
      · rw [if_neg (fun z => q (l48.mp z)), if_pos (l57.mpr (by omega))]
    rw [if_neg e1, fold]
    unfold f_X6_takesBehindThing_21
    rw [lt_e]
    have o4 : ∀ k, k ≠ 6 → gI (sI T o 6 0) o k = gI T o k := fun k hk => by rw [gI_s, if_pos rfl, if_neg hk]
    have o6 : gI (sI T o 6 0) o 6 = 0 := by rw [gI_s, if_pos rfl, if_pos rfl]
    have hF0 : cF o T (sI T o 6 0) := (cF.rf o T).s (by omega)
    have hW0 : RpW (sI T o 6 0) o (sW x) (sO x) := hW.o (by omega)
    generalize hT0 : sI T o 6 0 = T0 at *
    by_cases e2 : s = 41
    · rw [if_pos e2, if_pos (show nI s = (41 : Int32) by rw [e2]; rfl)]
      unfold f_X6_closes
      rw [o4 4 (by omega), x4]
      by_cases e3 : sd x = 0
      · rw [if_pos e3, if_pos (show nI (sd x) = (0 : Int32) by rw [e3]; rfl), bd_e, if_pos (Or.inl rfl)]
        exact ⟨T0, hF0, (fun y hy => by cases hy), fun _ => rfl⟩
      · rw [if_neg e3, if_neg (show ¬ nI (sd x) = (0 : Int32) by rw [show (0 : Int32) = nI 0 from rfl, nEq (by omega) (by omega)]; exact e3)]
        obtain ⟨T1, p1, p2, p3, p4⟩ := rel_c (b := 1) (by omega) hW0 (by omega) i5
        obtain ⟨l1, l2⟩ := rls_l 1 (sW x) (sO x)
        have hpop := p2.pop (by omega)
        have q4 : ∀ k, k ≠ 3 → gI (sI T1 o 3 (mxI (0 : Int32) (gI T1 o 3 - 1))) o k = gI T1 o k := fun k hk => by rw [gI_s, if_pos rfl, if_neg hk]
        rw [show f_X6_release o (1 : Int32) T0 = some ((), T1) from p1, bd_e, lt_e, q4 4 (by omega), p4 4 (by omega), o4 4 (by omega), x4, m1 (by omega), lt_e, bd_e, if_pos (Or.inr rfl)]
        refine ⟨sI (sI T1 o 3 (mxI (0 : Int32) (gI T1 o 3 - 1))) o 4 (nI (sd x - 1)), ((hF0.tr p3).s (by omega)).s (by omega), fun y hy => ?_, fun hn => by cases hn⟩
        obtain rfl := Option.some.inj hy
        refine ⟨rfl, ⟨?_, ?_, ?_, ?_⟩, hpop.o (by omega)⟩
        · rw [gI_s, if_pos rfl, if_neg (by omega), q4 7 (by omega), p4 7 (by omega), o4 7 (by omega)]; exact x7
        · rw [gI_s, if_pos rfl, if_pos rfl]; rfl
        · rw [gI_s, if_pos rfl, if_neg (by omega), q4 5 (by omega), p4 5 (by omega), o4 5 (by omega)]; exact x5
        · rw [gI_s, if_pos rfl, if_neg (by omega), q4 6 (by omega), p4 6 (by omega)]; exact o6
    · rw [if_neg e2, if_neg (show ¬ nI s = (41 : Int32) by rw [show (41 : Int32) = nI 41 from rfl, nEqS hs (by omega)]; exact e2), bnd_c hs, bd_e]
      have b3 := bind_le s
      have c0 : (nI (bindN s) = (0 : Int32)) = (bindN s = 0) := nEq (b := 0) (by omega) (by omega)
      have c1 : (nI (bindN s) = (1 : Int32)) = (bindN s = 1) := nEq (b := 1) (by omega) (by omega)
      -- behind the tests
      have fin : ∀ (T2 : St) (k2 : Nat), cF o T T2 → RpW T2 o (sW x) (sO x) → gI T2 o 4 = nI (sd x) → gI T2 o 5 = nI k2 → gI T2 o 6 = nI 0 → ∃ T', f_X6_takesBehindThing_97 o (nI s) (nI (bindN s)) T2 = some (1, T') ∧ cF o T T' ∧ RpX T' o (true, sd x, k2, 0, s :: (rlsN (bindN s) (sW x) (sO x)).1, (rlsN (bindN s) (sW x) (sO x)).2) ∧ RpW T' o (s :: (rlsN (bindN s) (sW x) (sO x)).1) (rlsN (bindN s) (sW x) (sO x)).2 := by
        intro T2 k2 hF hW2 h4 h5 h6
        obtain ⟨T3, p1, p2, p3, p4⟩ := rel_c b3 hW2 (by omega) i5
        obtain ⟨l1, l2⟩ := rls_l (bindN s) (sW x) (sO x)
        obtain ⟨T4, q1, q2, q3, q4⟩ := hold_c (c := s) p2 hs (by omega)
        refine ⟨sI T4 o 7 1, ?_, ((hF.tr p3).tr q3).s (by omega), ⟨?_, ?_, ?_, ?_⟩, q2.o (by omega)⟩
        · unfold f_X6_takesBehindThing_97
          rw [p1, bd_e, q1, bd_e, lt_e]
        · rw [gI_s, if_pos rfl, if_pos rfl]; rfl
        · rw [gI_s, if_pos rfl, if_neg (by omega), q4 4 (by omega), p4 4 (by omega)]; exact h4
        · rw [gI_s, if_pos rfl, if_neg (by omega), q4 5 (by omega), p4 5 (by omega)]; exact h5
        · rw [gI_s, if_pos rfl, if_neg (by omega), q4 6 (by omega), p4 6 (by omega)]; exact h6
      have t4 : gI T0 o 4 = nI (sd x) := (o4 4 (by omega)).trans x4
      have t5 : gI T0 o 5 = nI (sk x) := (o4 5 (by omega)).trans x5
      unfold f_X6_takesBehindThing_52 f_X6_takesBehindThing_78
      by_cases e3 : bindN s = 0
      · refine ⟨T0, hF0, fun y hy => ?_, fun _ => ?_⟩
        · rw [if_pos e3] at hy; cases hy
        · rw [if_neg (fun z => by have := c1.mp z; omega), if_pos (c0.mpr e3)]
      · rw [if_neg e3, if_neg (fun z => e3 (c0.mp z)), if_neg (fun z => e3 (c0.mp z))]
        by_cases e4 : bindN s = 1
        · rw [if_pos (c1.mpr e4), if_neg (show ¬ (1 : Int32) = 0 by decide), if_neg (show ¬ (1 : Int32) = 0 by decide), t5, t4]
          have hb := hasN (j := sk x) (n := sd x) (by omega) (by omega)
          by_cases e5 : (sk x).testBit (sd x) = true
          · rw [if_pos ⟨e4, e5⟩, if_pos (show (nI (sk x) >>> (nI (sd x) &&& 31)) &&& (1 : Int32) = (1 : Int32) from hb.mpr e5)]
            exact ⟨T0, hF0, (fun y hy => by cases hy), fun _ => rfl⟩
          · rw [if_neg (fun z => e5 z.2), if_neg (show ¬ (nI (sk x) >>> (nI (sd x) &&& 31)) &&& (1 : Int32) = (1 : Int32) from fun z => e5 (hb.mp z)), lt_e, show (1 : Int32) <<< (nI (sd x) &&& 31) = nI (2 ^ sd x) from nShl (by omega), nOr]
            obtain ⟨T', f1, f2, f3, f4⟩ := fin (sI T0 o 5 (nI (sk x ||| 2 ^ sd x))) (sk x ||| 2 ^ sd x) (hF0.s (by omega)) (hW0.o (by omega)) (by rw [gI_s, if_pos rfl, if_neg (by omega)]; exact t4) (by rw [gI_s, if_pos rfl, if_pos rfl]) (by rw [gI_s, if_pos rfl, if_neg (by omega)]; exact o6)
            refine ⟨T', f2, fun y hy => ?_, fun hn => by cases hn⟩
            obtain rfl := Option.some.inj hy
            rw [if_pos e4]
            exact ⟨f1, f3, f4⟩
        · rw [if_neg (fun z => e4 (c1.mp z)), if_pos (show (0 : Int32) = 0 from rfl), if_pos (show (0 : Int32) = 0 from rfl), if_neg (fun z => e4 z.1)]
          obtain ⟨T', f1, f2, f3, f4⟩ := fin T0 (sk x) hF0 hW0 t4 t5 o6
          refine ⟨T', f2, fun y hy => ?_, fun hn => by cases hn⟩
          obtain rfl := Option.some.inj hy
          rw [if_neg e4]
          exact ⟨f1, f3, f4⟩
