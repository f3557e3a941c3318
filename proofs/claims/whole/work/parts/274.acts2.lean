def aF (T T' : St) : Prop := (∀ a b, a ≠ 6 → a ≠ 7 → a ≠ 8 → a ≠ 9 → a ≠ 92 → a ≠ 93 → a ≠ 94 → gI T' a b = gI T a b) ∧ ∀ a b, gL T' a b = gL T a b
theorem aF.rf (T : St) : aF T T := ⟨fun _ _ _ _ _ _ _ _ _ => rfl, fun _ _ => rfl⟩
theorem aF.tr {T T1 T2 : St} (h1 : aF T T1) (h2 : aF T1 T2) : aF T T2 := ⟨fun a b q1 q2 q3 q4 q5 q6 q7 => (h2.1 a b q1 q2 q3 q4 q5 q6 q7).trans (h1.1 a b q1 q2 q3 q4 q5 q6 q7), fun a b => (h2.2 a b).trans (h1.2 a b)⟩
theorem aF.s {T T1 : St} {o k : Nat} {v : Int32} (h : aF T T1) (ho : o = 6 ∨ o = 7 ∨ o = 8 ∨ o = 9) : aF T (sI T1 o k v) := by
  refine ⟨fun a b q1 q2 q3 q4 q5 q6 q7 => ?_, fun a b => h.2 a b⟩
  rw [gI_s, if_neg (by omega)]; exact h.1 a b q1 q2 q3 q4 q5 q6 q7
theorem aF.r {T T1 : St} {f : Nat → Int32} (h : aF T T1) : aF T (sR T1 9 f) := by
  refine ⟨fun a b q1 q2 q3 q4 q5 q6 q7 => ?_, fun a b => h.2 a b⟩
  rw [gI_r, if_neg q4]; exact h.1 a b q1 q2 q3 q4 q5 q6 q7
theorem offE.a {T T' : St} (h : offE T T') : aF T T' := ⟨fun a b _ _ _ _ q5 q6 q7 => h.1 a b q5 q6 q7, h.2⟩
theorem no_ech {c : Cv} {x y : Nat} (ok : Cok c) (hx : x ≤ 9) (hy : y ≤ 9) (h : ¬ (x ≤ 7 ∧ y < cm c ∧ echB c x y = true)) : ¬ echP c (nI x) (nI y) := by
  have h12 := ok12 ok
  rintro ⟨q, st, e1, e2, e3, e4, e5, e6⟩
  rw [nEq (by omega) (by omega)] at e3 e4
  subst e3
  subst e4
  rcases ech_b ok e2 e1 with z | z
  · exact h ⟨e2, e1, z.1⟩
  · exact z.2 ⟨y, x, e1, e2, rfl, rfl, e5, e6⟩
theorem da_c {T : St} {c : Cv} {w : Nat → Int32} {t : Nat → Nat} {n p : Nat} (ok : Cok c) (hW : OkW (cm c) w) (hE : CE T c) (hN : CN T w) (h : TxC T t) (hp : p < n) (hn : n ≤ 60) (hA : okA t n p) : ∃ T' r, f_X10_doAct (nI p) T = some (r, T') ∧ aF T T' ∧ (∀ w', acW c (kdN (t p)) (t (p + 1) - 48) (t (p + 2) - 48) (t (p + 3) - 48) w = some w' → 0 ≤ r ∧ CN T' w') ∧ (acW c (kdN (t p)) (t (p + 1) - 48) (t (p + 2) - 48) (t (p + 3) - 48) w = none → ¬ 0 ≤ r ∧ CN T' w) := by
  have h12 := ok12 ok
  obtain ⟨b1, b2, b3, b4, b5, b6⟩ := hA
  have kd := kd_da b1
  have g1 := (h p (by omega)).1
  have tb := (h p (by omega)).2
  have dg1 : f_X8_digit (nI p + (1 : Int32)) T = some (nI (t (p + 1) - 48), T) := by rw [a1, dig_c h (by omega), s48 b3.1]
  have x9 : t (p + 1) - 48 ≤ 9 := by omega
  generalize hx : t (p + 1) - 48 = x at *
  unfold f_X10_doAct
  rw [if_pos (show inb (nI p) 80 by rw [inb_nI (by omega)]; omega), nI_t (by omega), g1]
  have c9 : (nI (t p) = (109 : Int32)) = (t p = 109) := nEq (b := 109) (by omega) (by omega)
  have c10 : (nI (t p) = (110 : Int32)) = (t p = 110) := nEq (b := 110) (by omega) (by omega)
  have c20 : (nI (t p) = (120 : Int32)) = (t p = 120) := nEq (b := 120) (by omega) (by omega)
  have hhas := has_e (S := T) hE.1 h12 (nI x)
  have hasx : (¬ nI x < nI 0 ∧ nI x < nI (cm c)) = (x < cm c) := by
    rw [nLt (by omega) (by omega), nLt (by omega) (by omega)]
    apply propext; omega
  rcases kd with ⟨k1, k2, k3⟩ | ⟨k1, k2, k3⟩ | ⟨k1, k2, k3⟩ | ⟨k1, k2, k3⟩
  · -- hours
    rw [if_neg (fun q => by have := c9.mp q; omega), if_pos (c10.mpr k2), dg1, bd_e]
    have he := heal_e (S := T) (nI x) hE.1 h12
    generalize hT1 : sI (sR T 9 (fun k => if k < cm c then healN (gI T 9 k) (nI x) else gI T 9 k)) 6 4 (gI T 6 4 + nI x) = T1 at he
    have r9 : ∀ k, gI T1 9 k = if k < cm c then healN (gI T 9 k) (nI x) else gI T 9 k := fun k => by rw [← hT1]; rfl
    have e32 : gI T1 3 2 = nI (cm c) := by rw [← hT1]; exact hE.1
    have we := wear_e (S := T1) e32 h12
    obtain ⟨s, s1, s2⟩ := sumN_in (f := gI T1 9) h12 (fun i hi => by
      rw [r9, if_pos hi, (hN.1 i (by omega)).2.2]
      exact heal_in (hW.1 i hi).2.2 (by omega))
    refine ⟨T1, nI s, ?_, by rw [← hT1]; exact ((aF.rf T).r).s (by omega), fun w' hw => ?_, fun hw => ?_⟩
    · unfold f_X10_passHours
      rw [if_neg (nn0 x (by omega)), if_pos (show nI x ≤ (60 : Int32) by rw [show (60 : Int32) = nI 60 from rfl, nLe (by omega) (by omega)]; omega), he, bd_e, we, bd_e, s2, bd_e]
    · rw [k1] at hw
      unfold acW at hw
      rw [if_pos rfl] at hw
      obtain rfl := Option.some.inj hw
      refine ⟨n0p s (by omega), fun i hi => ?_, ?_, ?_, ?_⟩
      · obtain ⟨n1, n2, n3⟩ := hN.1 i hi
        unfold acH
        rw [if_neg (by omega), if_neg (by omega), if_neg (by omega), if_neg (by omega), if_neg (by omega), r9, n3]
        refine ⟨by rw [← hT1]; exact n1, by rw [← hT1]; exact n2, ?_⟩
        by_cases q : i < cm c
        · rw [if_pos q, if_pos (by omega)]
        · rw [if_neg q, if_neg (by omega)]
      · unfold acH; rw [if_neg (by omega), if_neg (by omega), ← hT1]; exact hN.2.1
      · unfold acH; rw [if_pos rfl, ← hT1, ← hN.2.2.1]; rfl
      · unfold acH; rw [if_neg (by omega), if_neg (by omega), ← hT1]; exact hN.2.2.2
    · rw [k1] at hw
      unfold acW at hw
      rw [if_pos rfl] at hw; cases hw
  · -- falls
    rw [if_neg (fun q => by have := c9.mp q; omega), if_neg (fun q => by have := c10.mp q; omega), if_pos (c20.mpr k2), dg1, bd_e]
    unfold f_X10_turnPassage
    rw [hhas, bd_e, k1]
    simp only [fl3z]
    unfold acW
    rw [if_neg (show ¬ 1 = 0 by omega), if_pos (show 1 = 1 from rfl)]
    by_cases q : x < cm c
    · rw [if_pos (show ¬ nI x < nI 0 ∧ nI x < nI (cm c) from hasx.mpr q), lt_e, bc_e, bd_e, bd_e, if_pos q]
      obtain ⟨m, m1, m2⟩ := bC_n (gI (sI T 6 3 (gI T 6 3 ^^^ ((1 : Int32) <<< (nI x &&& 31)))) 6 3)
      refine ⟨_, _, rfl, (aF.rf T).s (by omega), fun w' hw => ?_, fun hw => by cases hw⟩
      obtain rfl := Option.some.inj hw
      refine ⟨by rw [m2]; exact n0p m (by omega), fun i hi => ?_, ?_, ?_, ?_⟩
      · unfold acF; rw [if_neg (by omega), if_neg (by omega), if_neg (by omega)]; exact hN.1 i hi
      · unfold acF; rw [if_pos rfl, ← hN.2.1]; rfl
      · unfold acF; rw [if_neg (by omega)]; exact hN.2.2.1
      · unfold acF; rw [if_neg (by omega)]; exact hN.2.2.2
    · rw [if_neg (show ¬ (¬ nI x < nI 0 ∧ nI x < nI (cm c)) from fun z => q (hasx.mp z)), bd_e, if_neg q]
      exact ⟨T, -1, rfl, aF.rf T, (fun w' hw => by cases hw), fun _ => ⟨n0m, hN⟩⟩
  · -- calls
    have b4 := b4 (by omega)
    have y9 : t (p + 2) - 48 ≤ 9 := by omega
    have dg2 : f_X8_digit (nI p + (2 : Int32)) T = some (nI (t (p + 2) - 48), T) := by rw [show nI p + (2 : Int32) = nI (p + 2) from nAdd p 2, dig_c h (by omega), s48 b4.1]
    generalize hy : t (p + 2) - 48 = y at *
    rw [if_neg (fun q => by have := c9.mp q; omega), if_neg (fun q => by have := c10.mp q; omega), if_neg (fun q => by have := c20.mp q; omega), dg1, bd_e, dg2, bd_e, k1]
    unfold acW
    rw [if_neg (show ¬ 2 = 0 by omega), if_neg (show ¬ 2 = 1 by omega), if_pos (show 2 = 2 from rfl)]
    have ok2 := cvw_ok ok hW
    have hC := cvw_c ok hW hE hN
    by_cases q : x ≤ 7 ∧ y < cm c ∧ echB (cvw c w) x y = true
    · rw [if_pos q]
      have hl := pth_ok ok2 q.1 (show y < cm (cvw c w) from q.2.1)
      obtain ⟨T1, g1', g2, g3⟩ := goes_b ok2 hC q.1 (show y < cm (cvw c w) from q.2.1)
      have g3 := g3 q.2.2
      rw [q.2.2] at g1'
      have wo := wear_c ok2 g3 hl
      rw [g1', bd_e, if_neg (show ¬ flI true = 0 by decide)]
      unfold f_X10_wearByEcho
      generalize hT2 : sI (sR T1 9 (wrA (pth (cvw c w) x y) (gI T1 9))) 6 5 (mnI 999 (gI T1 6 5 + 1)) = T2 at wo
      have e25 : gI T2 92 5 = nI (pen (cvw c w) x y) := by rw [← hT2]; exact g3.2.2.1
      have pl := pen_ok ok2 q.1 (show y < cm (cvw c w) from q.2.1)
      rw [wo, bd_e, bd_e]
      refine ⟨T2, gI T2 92 5, rfl, by rw [← hT2]; exact (g2.a.r).s (by omega), fun w' hw => ?_, fun hw => by cases hw⟩
      obtain rfl := Option.some.inj hw
      have o1 : ∀ a b, a ≠ 92 → a ≠ 93 → a ≠ 94 → gI T1 a b = gI T a b := g2.1
      refine ⟨by rw [e25]; exact n0p _ (by omega), fun i hi => ?_, ?_, ?_, ?_⟩
      · obtain ⟨n1, n2, n3⟩ := hN.1 i hi
        unfold acE
        rw [if_neg (by omega), if_neg (by omega), if_neg (by omega), if_neg (by omega), if_neg (by omega), if_pos (by omega), show 24 + i - 24 = i by omega]
        refine ⟨?_, ?_, ?_⟩
        · rw [← hT2]; exact (o1 7 i (by omega) (by omega) (by omega)).trans n1
        · rw [← hT2]; exact (o1 8 i (by omega) (by omega) (by omega)).trans n2
        · rw [← hT2]
          show wrA (pth (cvw c w) x y) (gI T1 9) i = _
          exact wrA_cg _ _ _ (fun p hp => by have := hl.2 p hp; change p.1 < cm c at this; omega) (fun j hj => (o1 9 j (by omega) (by omega) (by omega)).trans (hN.1 j hj).2.2) i hi
      · unfold acE; rw [if_neg (by omega), if_neg (by omega), ← hT2]; exact (o1 6 3 (by omega) (by omega) (by omega)).trans hN.2.1
      · unfold acE; rw [if_neg (by omega), if_neg (by omega), ← hT2]; exact (o1 6 4 (by omega) (by omega) (by omega)).trans hN.2.2.1
      · unfold acE; rw [if_pos rfl, ← hT2, ← hN.2.2.2, ← o1 6 5 (by omega) (by omega) (by omega)]; rfl
    · rw [if_neg q, goes_n ok2 hC (no_ech ok2 x9 y9 q), bd_e, if_pos z00]
      exact ⟨T, -100, rfl, aF.rf T, (fun w' hw => by cases hw), fun _ => ⟨by decide, hN⟩⟩
  · -- digs
    have b4 := b4 (by omega)
    have b5 := b5 k1
    have y9 : t (p + 2) - 48 ≤ 9 := by omega
    have z9 : t (p + 3) - 48 ≤ 9 := by omega
    have p3n : p + 3 < 80 := by omega
    have dg2 : f_X8_digit (nI p + (2 : Int32)) T = some (nI (t (p + 2) - 48), T) := by rw [show nI p + (2 : Int32) = nI (p + 2) from nAdd p 2, dig_c h (by omega), s48 b4.1]
    have dg3 : f_X8_digit (nI p + (3 : Int32)) T = some (nI (t (p + 3) - 48), T) := by rw [show nI p + (3 : Int32) = nI (p + 3) from nAdd p 3, dig_c h (by omega), s48 b5.1]
    generalize hy : t (p + 2) - 48 = y at *
    generalize hz : t (p + 3) - 48 = z at *
    rw [if_pos (c9.mpr k2), dg1, bd_e, dg2, bd_e, dg3, bd_e, k1]
    unfold f_X10_digPassage f_X10_digPassage_77
    rw [hhas, bd_e]
    simp only [fl3z]
    unfold acW
    rw [if_neg (show ¬ 3 = 0 by omega), if_neg (show ¬ 3 = 1 by omega), if_neg (show ¬ 3 = 2 by omega)]
    by_cases q : x < cm c
    · have wx : inb (nI x) 12 := by rw [inb_nI (by omega)]; omega
      obtain ⟨n1, n2, n3⟩ := hN.1 x (by omega)
      obtain ⟨⟨dv, dv1, dv2, dv3⟩, ⟨bv, bv1, bv2, bv3⟩, _⟩ := hW.1 x q
      rw [if_pos (show ¬ nI x < nI 0 ∧ nI x < nI (cm c) from hasx.mpr q)]
      by_cases y1 : 1 ≤ y
      · rw [if_neg (show ¬ nI y < (1 : Int32) by rw [show (1 : Int32) = nI 1 from rfl, nLt (by omega) (by omega)]; omega), if_neg (show ¬ (9 : Int32) < nI y by rw [show (9 : Int32) = nI 9 from rfl, nLt (by omega) (by omega)]; omega), if_neg (nn0 z (by omega)), if_pos (show nI z ≤ (9 : Int32) by rw [show (9 : Int32) = nI 9 from rfl, nLe (by omega) (by omega)]; omega)]
        simp only [if_pos wx, nI_t (show x < 2147483648 by omega), lt_e, n1, n2]
        have en : ∀ (A B : Option (Int32 × St)), (if w x = nI y then (if w (12 + x) = nI z then A else B) else B) = if w x = nI y ∧ w (12 + x) = nI z then A else B := by
          intro A B
          by_cases q1 : w x = nI y
          · by_cases q2 : w (12 + x) = nI z
            · rw [if_pos q1, if_pos q2, if_pos ⟨q1, q2⟩]
            · rw [if_pos q1, if_neg q2, if_neg (fun z => q2 z.2)]
          · rw [if_neg q1, if_neg (fun z => q1 z.1)]
        rw [en]
        by_cases qq : w x = nI y ∧ w (12 + x) = nI z
        · rw [if_pos qq, bd_e, if_neg (fun z => z.2.2 qq)]
          exact ⟨T, -2, rfl, aF.rf T, (fun w' hw => by cases hw), fun _ => ⟨by decide, hN⟩⟩
        · rw [if_neg qq, bd_e, if_pos ⟨q, y1, qq⟩]
          refine ⟨_, _, rfl, ((aF.rf T).s (by omega)).s (by omega), fun w' hw => ?_, fun hw => by cases hw⟩
          obtain rfl := Option.some.inj hw
          have er : (100 : Int32) + (10 : Int32) * w x + w (12 + x) = nI (100 + 10 * dv + bv) := by
            rw [dv3, bv3, show (10 : Int32) = nI 10 from rfl, show (100 : Int32) = nI 100 from rfl, nMul, nAdd, nAdd]
          refine ⟨by rw [er]; exact n0p _ (by omega), fun i hi => ?_, ?_, ?_, ?_⟩
          · obtain ⟨m1, m2, m3⟩ := hN.1 i hi
            unfold acD
            refine ⟨?_, ?_, ?_⟩
            · rw [gI_s, if_neg (by omega), gI_s, if_pos rfl, if_neg (show ¬ i = 12 + x by omega)]
              by_cases e : i = x
              · rw [if_pos e, if_pos e]
              · rw [if_neg e, if_neg e]; exact m1
            · rw [gI_s, if_pos rfl]
              by_cases e : i = x
              · rw [if_pos e, if_pos (by omega)]
              · rw [if_neg e, gI_s, if_neg (by omega), if_neg (by omega), if_neg (by omega)]; exact m2
            · rw [gI_s, if_neg (by omega), gI_s, if_neg (by omega), if_neg (by omega), if_neg (by omega)]; exact m3
          · unfold acD; rw [if_neg (by omega), if_neg (by omega)]; exact hN.2.1
          · unfold acD; rw [if_neg (by omega), if_neg (by omega)]; exact hN.2.2.1
          · unfold acD; rw [if_neg (by omega), if_neg (by omega)]; exact hN.2.2.2
      · rw [if_pos (show nI y < (1 : Int32) by rw [show (1 : Int32) = nI 1 from rfl, nLt (by omega) (by omega)]; omega), bd_e, if_neg (fun z => y1 z.2.1)]
        exact ⟨T, -1, rfl, aF.rf T, (fun w' hw => by cases hw), fun _ => ⟨n0m, hN⟩⟩
    · rw [if_neg (show ¬ (¬ nI x < nI 0 ∧ nI x < nI (cm c)) from fun z => q (hasx.mp z)), bd_e, if_neg (fun z => q z.1)]
      exact ⟨T, -1, rfl, aF.rf T, (fun w' hw => by cases hw), fun _ => ⟨n0m, hN⟩⟩
