/-! the sheet -/
def entN (f st : Int32) : Nat → Int32
  | 0 => f
  | k + 1 => entN f st k + st
def toldW (kd v : Int32) : Int32 := if kd = 0 then v.toInt8.toInt32 else if kd = 1 then v.toInt16.toInt32 else v
def shW (kd n f st : Int32) (k : Nat) : Int32 := if kd = 3 then 0 else if nI k < n then mxI 0 (mnI 9 (toldW kd (entN f st k))) else 0
theorem clamp_in (x : Int32) : inR (mxI 0 (mnI 9 x)) 0 9 := by
  unfold mxI mnI
  by_cases g : x < 9
  · rw [if_pos g]
    by_cases g2 : 0 < x
    · rw [if_pos g2]
      obtain ⟨n, hn, rfl⟩ := as_lt (x := x) (b := 9) (by rw [i_lt] at g2 ⊢; simp at g2; rw [nI_int (by omega)]; omega) g
      exact ⟨n, by omega, by omega, rfl⟩
    · rw [if_neg g2]; exact ⟨0, by omega, by omega, rfl⟩
  · rw [if_neg g, if_pos (by decide)]; exact ⟨9, by omega, by omega, rfl⟩
theorem shW_in (kd n f st : Int32) (k : Nat) : inR (shW kd n f st k) 0 9 := by
  unfold shW
  split
  · exact ⟨0, by omega, by omega, rfl⟩
  · split
    · exact clamp_in _
    · exact ⟨0, by omega, by omega, rfl⟩
theorem wtb_e (kd v : Int32) (S : St) : f_X10_wearToldBy kd v S = some (mxI 0 (mnI 9 (toldW kd v)), S) := by
  unfold f_X10_wearToldBy f_X10_wearToldBy_20 toldW
  split
  · rfl
  · split <;> rfl
theorem sheetC_e {S : St} {m : Nat} (kd n f st : Int32) (hm : gI S 3 2 = nI m) (h12 : m ≤ 12) : f_X10_sheet_29 kd n f st S = some (if kd = 3 then -3 else sumN (fun k => shW kd n f st k) m, sR S 9 (fun k => if k < m then shW kd n f st k else gI S 9 k)) := by
  unfold f_X10_sheet_29
  have e0 : sR S 9 (fun k => if k < 0 then shW kd n f st k else gI S 9 k) = S := sR_0 (fun k => if_neg (by omega))
  have := lp_for (body := f_X10_sheet_35b kd n st (fun v7 S8 => (if kd = (3 : Int32) then some ((-3 : Int32), S8) else bd (f_X0_wearOfAll S8) (fun r9 S10 => some (r9, S10))))) m (fun i => ((entN f st i, nI i), sR S 9 (fun k => if k < i then shW kd n f st k else gI S 9 k))) (out := some (if kd = 3 then -3 else sumN (fun k => shW kd n f st k) m, sR S 9 (fun k => if k < m then shW kd n f st k else gI S 9 k))) (fun i k hi => ?_) (fun k => ?_) FU 0 (by omega) (by unfold FU; omega)
  · simp only [e0] at this; exact this
  · have q : ∀ v : Int32, v = shW kd n f st i → f_X10_sheet_80 kd n st (entN f st i) (nI i) (nI i) v k (fun v7 S8 => (if kd = (3 : Int32) then some ((-3 : Int32), S8) else bd (f_X0_wearOfAll S8) (fun r9 S10 => some (r9, S10)))) (sR S 9 (fun k => if k < i then shW kd n f st k else gI S 9 k)) = k (entN f st (i + 1), nI (i + 1)) (sR S 9 (fun k => if k < i + 1 then shW kd n f st k else gI S 9 k)) := by
      intro v hv
      unfold f_X10_sheet_80
      simp (disch := omega) only [lit, inb_nI, nLt, nLe, nEq, nAdd, nI_t, nMul, nSub, lt_e, if_true, show i < 12 by omega]
      rw [sR_I, hv]
      congr 1
      apply sR_e
      intro j
      by_cases ej : j = i
      · rw [if_pos ej, if_pos (by omega), ej]
      · rw [if_neg ej]
        by_cases ek : j < i
        · rw [if_pos ek, if_pos (by omega)]
        · rw [if_neg ek, if_neg (by omega)]
    unfold f_X10_sheet_35b f_X10_sheet_70
    rw [if_neg (by rw [gI_r, if_neg (by omega), hm, nLe (by omega) (by omega)]; omega)]
    by_cases c1 : kd = 3
    · rw [if_pos c1]
      exact q 0 (by unfold shW; rw [if_pos c1])
    · rw [if_neg c1]
      by_cases c2 : nI i < n
      · rw [if_pos c2, wtb_e, bd_e]
        exact q _ (by unfold shW; rw [if_neg c1, if_pos c2])
      · rw [if_neg c2]
        exact q 0 (by unfold shW; rw [if_neg c1, if_neg c2])
  · unfold f_X10_sheet_35b
    rw [if_pos (by rw [gI_r, if_neg (by omega), hm, nLe (by omega) (by omega)]; omega)]
    show (if kd = (3 : Int32) then some ((-3 : Int32), sR S 9 _) else bd (f_X0_wearOfAll (sR S 9 _)) (fun r9 S10 => some (r9, S10))) = _
    by_cases c1 : kd = 3
    · rw [if_pos c1, if_pos c1]
    · rw [if_neg c1, if_neg c1]
      have q3 : gI (sR S 9 (fun k => if k < m then shW kd n f st k else gI S 9 k)) 3 2 = nI m := hm
      rw [wear_e q3 h12, bd_e]
      refine congrArg some (Prod.ext ?_ rfl)
      apply sumN_e
      intro j hj
      rw [gI_r, if_pos rfl, if_pos hj]
theorem sheetM_e {S : St} {m : Nat} (kd n f st : Int32) (hm : gI S 122 3 = nI m) (h12 : m ≤ 12) : f_X11_sheet_37 kd n f st S = some (if kd = 3 then -3 else sumN (fun k => shW kd n f st k) m, sR S 126 (fun k => if 24 ≤ k ∧ k < 24 + m then shW kd n f st (k - 24) else gI S 126 k)) := by
  unfold f_X11_sheet_37
  have e0 : sR S 126 (fun k => if 24 ≤ k ∧ k < 24 + 0 then shW kd n f st (k - 24) else gI S 126 k) = S := sR_0 (fun k => if_neg (by omega))
  have := lp_for (body := f_X11_sheet_43b kd n st (fun v4 S5 => (if kd = (3 : Int32) then some ((-3 : Int32), S5) else bd (f_X11_sumOf 126 (24 : Int32) S5) (fun r6 S7 => some (r6, S7))))) m (fun i => ((entN f st i, nI i), sR S 126 (fun k => if 24 ≤ k ∧ k < 24 + i then shW kd n f st (k - 24) else gI S 126 k))) (out := some (if kd = 3 then -3 else sumN (fun k => shW kd n f st k) m, sR S 126 (fun k => if 24 ≤ k ∧ k < 24 + m then shW kd n f st (k - 24) else gI S 126 k))) (fun i k hi => ?_) (fun k => ?_) FU 0 (by omega) (by unfold FU; omega)
  · simp only [e0] at this; exact this
  · have q : ∀ v : Int32, v = shW kd n f st i → f_X11_sheet_112 kd n st (entN f st i) (nI i) ((24 : Int32) + nI i) v k (fun v4 S5 => (if kd = (3 : Int32) then some ((-3 : Int32), S5) else bd (f_X11_sumOf 126 (24 : Int32) S5) (fun r6 S7 => some (r6, S7)))) (sR S 126 (fun k => if 24 ≤ k ∧ k < 24 + i then shW kd n f st (k - 24) else gI S 126 k)) = k (entN f st (i + 1), nI (i + 1)) (sR S 126 (fun k => if 24 ≤ k ∧ k < 24 + (i + 1) then shW kd n f st (k - 24) else gI S 126 k)) := by
      intro v hv
      unfold f_X11_sheet_112
      simp (disch := omega) only [lit, inb_nI, nLt, nLe, nEq, nAdd, nI_t, nMul, nSub, lt_e, if_true, show 24 + i < 39 by omega]
      rw [sR_I, hv]
      congr 1
      apply sR_e
      intro j
      by_cases ej : j = 24 + i
      · rw [if_pos ej, if_pos (by omega), ej]; congr 1; omega
      · rw [if_neg ej]
        by_cases ek : 24 ≤ j ∧ j < 24 + i
        · rw [if_pos ek, if_pos (by omega)]
        · rw [if_neg ek, if_neg (by omega)]
    have q75 : ∀ s0 : Int32, s0 = toldW kd (entN f st i) → f_X11_sheet_75 kd n st (entN f st i) (nI i) s0 k (fun v4 S5 => (if kd = (3 : Int32) then some ((-3 : Int32), S5) else bd (f_X11_sumOf 126 (24 : Int32) S5) (fun r6 S7 => some (r6, S7)))) (sR S 126 (fun k => if 24 ≤ k ∧ k < 24 + i then shW kd n f st (k - 24) else gI S 126 k)) = k (entN f st (i + 1), nI (i + 1)) (sR S 126 (fun k => if 24 ≤ k ∧ k < 24 + (i + 1) then shW kd n f st (k - 24) else gI S 126 k)) := by
      intro s0 hs
      unfold f_X11_sheet_75 f_X11_sheet_97
      by_cases c1 : kd = 3
      · rw [if_pos c1]
        exact q 0 (by unfold shW; rw [if_pos c1])
      · rw [if_neg c1]
        by_cases c2 : nI i < n
        · rw [if_pos c2]
          exact q _ (by unfold shW; rw [if_neg c1, if_pos c2, hs])
        · rw [if_neg c2]
          exact q 0 (by unfold shW; rw [if_neg c1, if_neg c2])
    unfold f_X11_sheet_43b
    rw [if_neg (by rw [gI_r, if_neg (by omega), hm, nLe (by omega) (by omega)]; omega)]
    by_cases c1 : kd = 0
    · rw [if_pos c1]; exact q75 _ (by unfold toldW; rw [if_pos c1])
    · rw [if_neg c1]
      by_cases c2 : kd = 1
      · rw [if_pos c2]; exact q75 _ (by unfold toldW; rw [if_neg c1, if_pos c2])
      · rw [if_neg c2]; exact q75 _ (by unfold toldW; rw [if_neg c1, if_neg c2])
  · unfold f_X11_sheet_43b
    rw [if_pos (by rw [gI_r, if_neg (by omega), hm, nLe (by omega) (by omega)]; omega)]
    show (if kd = (3 : Int32) then some ((-3 : Int32), sR S 126 _) else bd (f_X11_sumOf 126 24 (sR S 126 _)) (fun r9 S10 => some (r9, S10))) = _
    by_cases c1 : kd = 3
    · rw [if_pos c1, if_pos c1]
    · rw [if_neg c1, if_neg c1]
      have q3 : gI (sR S 126 (fun k => if 24 ≤ k ∧ k < 24 + m then shW kd n f st (k - 24) else gI S 126 k)) 122 3 = nI m := hm
      rw [show (24 : Int32) = nI 24 from rfl, sumOf_e q3 (by omega), bd_e]
      refine congrArg some (Prod.ext ?_ rfl)
      apply sumN_e
      intro j hj
      rw [gI_r, if_pos rfl, if_pos (by omega)]; congr 1; omega
theorem eq_sheet (a1 a2 a3 a4 : Int32) : EQ1 RelP (f_X10_sheet a1 a2 a3 a4) (f_X11_sheet a1 a2 a3 a4) := by
  apply EQ1.of
  intro S hS
  obtain ⟨hT, ⟨m, hC, hO, hH, hK⟩, hN, hR, hF, hE, hU⟩ := id hS
  have hm : m ≤ 12 := hC.1
  have good : Wp (f_X10_sheet_29 a1 a2 a3 a4 S) (fun r S1 => Wp (f_X11_sheet_37 a1 a2 a3 a4 (sI S1 122 0 0)) (fun r' S2 => r' = r ∧ RelP S2)) := by
    rw [sheetC_e a1 a2 a3 a4 hC.2.1 hm]
    refine Wp.rt ?_
    rw [sheetM_e a1 a2 a3 a4 (m := m) (by exact hC.2.2.1) hm]
    refine Wp.rt ⟨rfl, hT.fr, ⟨m, hC.fr, ?_, hH.fr, hK.fr⟩, ?_, hR.fr, hF.fr, hE.fr, hU.fr⟩
    · obtain ⟨o1, o2, o3⟩ := hO
      refine ⟨fun i hi => ?_, o2, o3⟩
      obtain ⟨z1, z2, z3⟩ := o1 i hi
      refine ⟨z1, z2, ?_⟩
      show inR (if i < m then shW a1 a2 a3 a4 i else gI S 9 i) 0 9
      rw [if_pos hi]; exact shW_in _ _ _ _ _
    · obtain ⟨n1, n2, n3, n4⟩ := hN
      refine ⟨fun i hi => ?_, ?_, ?_, ?_⟩
      · obtain ⟨z1, z2, z3⟩ := n1 i hi
        refine ⟨?_, ?_, ?_⟩
        · show gI S 7 i = if 24 ≤ 0 + i ∧ 0 + i < 24 + m then _ else gI S 126 (0 + i)
          rw [if_neg (by omega)]; exact z1
        · show gI S 8 i = if 24 ≤ 0 + 12 + i ∧ 0 + 12 + i < 24 + m then _ else gI S 126 (0 + 12 + i)
          rw [if_neg (by omega)]; exact z2
        · show (if i < m then shW a1 a2 a3 a4 i else gI S 9 i) = if 24 ≤ 0 + 24 + i ∧ 0 + 24 + i < 24 + m then shW a1 a2 a3 a4 (0 + 24 + i - 24) else gI S 126 (0 + 24 + i)
          by_cases e : i < m
          · rw [if_pos e, if_pos (by omega)]; congr 1; omega
          · rw [if_neg e, if_neg (by omega)]; exact z3
      · show gI S 6 3 = if 24 ≤ 0 + 36 ∧ 0 + 36 < 24 + m then _ else gI S 126 (0 + 36)
        rw [if_neg (by omega)]; exact n2
      · show gI S 6 4 = if 24 ≤ 0 + 37 ∧ 0 + 37 < 24 + m then _ else gI S 126 (0 + 37)
        rw [if_neg (by omega)]; exact n3
      · show gI S 6 5 = if 24 ≤ 0 + 38 ∧ 0 + 38 < 24 + m then _ else gI S 126 (0 + 38)
        rw [if_neg (by omega)]; exact n4
  have gi : ∀ S1 : St, Wp (f_X11_sheet_37 a1 a2 a3 a4 (sI S1 122 0 0)) (fun r' S2 => r' = 0 ∧ RelP S2) → True := fun _ _ => trivial
  unfold f_X10_sheet f_X11_sheet
  simp only [lt_e, bd_e, fl3z, fl2z, fl6z, in0, in2, in_0_2, in_0_3, in_0_4, in_0_5, in_0_7, in_0_9, in_0_10, in_0_20, in_0_60, in_0_255, in_1_9, in_1_6, in_1_60, in_2_9, in_48_57, in_97_104]
  by_cases c1 : a1 < nI 0
  · rw [if_pos (show a1 < 0 from c1)]
    exact Wp.rt (Wp.eq (if_neg (fun h => h.1 c1)) (Wp.rt ⟨rfl, hS.th⟩))
  rw [if_neg (show ¬ a1 < 0 from c1)]
  by_cases c2 : nI 3 < a1
  · rw [if_pos (show 3 < a1 from c2)]
    exact Wp.rt (Wp.eq (if_neg (fun h => h.2 c2)) (Wp.rt ⟨rfl, hS.th⟩))
  rw [if_neg (show ¬ 3 < a1 from c2)]
  simp only [if_pos (show ¬ a1 < nI 0 ∧ ¬ nI 3 < a1 from ⟨c1, c2⟩)]
  by_cases c3 : a2 ≤ 12
  · simp only [if_pos c3]
    by_cases c4 : a1 = 3
    · simp only [if_pos c4]; exact good
    · simp only [if_neg c4]
      by_cases c5 : 0 ≤ a2
      · simp only [if_pos c5]; exact good
      · simp only [if_neg c5]; exact Wp.rt (Wp.rt ⟨rfl, hS.th⟩)
  · simp only [if_neg c3]; exact Wp.rt (Wp.rt ⟨rfl, hS.th⟩)
