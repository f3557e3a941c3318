def bF (T T' : St) : Prop := (∀ a b, a ≠ 126 → a ≠ 134 → a ≠ 135 → (a ≠ 122 ∨ (b ≠ 24 ∧ b ≠ 25 ∧ b ≠ 26)) → gI T' a b = gI T a b) ∧ ∀ a b, gL T' a b = gL T a b
theorem bF.rf (T : St) : bF T T := ⟨fun _ _ _ _ _ _ => rfl, fun _ _ => rfl⟩
theorem bF.tr {T T1 T2 : St} (h1 : bF T T1) (h2 : bF T1 T2) : bF T T2 := ⟨fun a b q1 q2 q3 q4 => (h2.1 a b q1 q2 q3 q4).trans (h1.1 a b q1 q2 q3 q4), fun a b => (h2.2 a b).trans (h1.2 a b)⟩
theorem bF.s {T T1 : St} {k : Nat} {v : Int32} (h : bF T T1) : bF T (sI T1 126 k v) := by
  refine ⟨fun a b q1 q2 q3 q4 => ?_, fun a b => h.2 a b⟩
  rw [gI_s, if_neg q1]; exact h.1 a b q1 q2 q3 q4
theorem bF.r {T T1 : St} {f : Nat → Int32} (h : bF T T1) : bF T (sR T1 126 f) := by
  refine ⟨fun a b q1 q2 q3 q4 => ?_, fun a b => h.2 a b⟩
  rw [gI_r, if_neg q1]; exact h.1 a b q1 q2 q3 q4
theorem offM.b {T T' : St} (h : offM T T') : bF T T' := ⟨fun a b _ q2 q3 q4 => h.1 a b q2 q3 q4, h.2⟩
theorem does_m {T : St} {c : Cv} {w : Nat → Int32} {t : Nat → Nat} {n p j : Nat} (ok : Cok c) (hW : OkW (cm c) w) (hE : ME T c) (hN : MN T w) (hd : dtA T t j p) (hj : j < 60) (h255 : ∀ i, i < n → t i ≤ 255) (hp : p < n) (hn : n ≤ 60) (hA : okA t n p) : ∃ T', f_X11_does (nI j) T = some (flI (acW c (kdN (t p)) (t (p + 1) - 48) (t (p + 2) - 48) (t (p + 3) - 48) w).isSome, T') ∧ bF T T' ∧ MN T' ((acW c (kdN (t p)) (t (p + 1) - 48) (t (p + 2) - 48) (t (p + 3) - 48) w).getD w) := by
  have h12 := ok12 ok
  obtain ⟨b1, b2, b3, b4, b5, b6⟩ := hA
  have kd := kd_da b1
  obtain ⟨d0, d1, d2, d3⟩ := hd
  have wj : inb (nI j) 60 := by rw [inb_nI (by omega)]; omega
  have ij : (nI j).toNatClampNeg = j := nI_t (by omega)
  have x9 : t (p + 1) - 48 ≤ 9 := by omega
  generalize hx : t (p + 1) - 48 = x at *
  unfold f_X11_does
  simp only [if_pos wj, ij, lt_e, d0, d1]
  have isp := isP_e (S := T) hE.1 h12 (nI x)
  have hasx : (¬ nI x < nI 0 ∧ nI x < nI (cm c)) = (x < cm c) := by
    rw [nLt (by omega) (by omega), nLt (by omega) (by omega)]
    apply propext; omega
  rcases kd with ⟨k1, k2, k3⟩ | ⟨k1, k2, k3⟩ | ⟨k1, k2, k3⟩ | ⟨k1, k2, k3⟩
  · rw [k1, if_pos (show nI 0 = (0 : Int32) from rfl), hoursGo_e (nI x) hE.1 h12 (by decide), bd_e]
    unfold acW
    rw [if_pos (show 0 = 0 from rfl)]
    refine ⟨_, rfl, (bF.rf T).r, fun k hk => ?_⟩
    rw [gI_r, if_pos rfl]
    show _ = acH (cm c) (nI x) w k
    unfold acH
    rw [hN 37 (by omega), hN k hk]
  · rw [k1, if_neg (show ¬ nI 1 = (0 : Int32) by decide), if_pos (show nI 1 = (1 : Int32) from rfl)]
    unfold f_X11_fallsOne
    rw [isp, bd_e]
    simp only [fl3z]
    unfold acW
    rw [if_neg (show ¬ 1 = 0 by omega), if_pos (show 1 = 1 from rfl)]
    by_cases q : x < cm c
    · obtain ⟨m, m1, m2⟩ := bC_n (gI (sI T 126 36 (gI T 126 36 ^^^ ((1 : Int32) <<< (nI x &&& 31)))) 126 36)
      rw [if_pos (show ¬ nI x < nI 0 ∧ nI x < nI (cm c) from hasx.mpr q), lt_e, bc_e, bd_e, bd_e, if_pos q, m2, if_neg (nn0 m (by omega))]
      refine ⟨_, rfl, (bF.rf T).s, fun k hk => ?_⟩
      show _ = acF x w k
      unfold acF
      rw [gI_s, if_pos rfl, hN 36 (by omega)]
      by_cases e : k = 36
      · rw [if_pos e, if_pos e]
      · rw [if_neg e, if_neg e]; exact hN k hk
    · rw [if_neg (show ¬ (¬ nI x < nI 0 ∧ nI x < nI (cm c)) from fun z => q (hasx.mp z)), bd_e, if_neg q, if_pos (show (-1 : Int32) < 0 by decide)]
      exact ⟨T, rfl, bF.rf T, hN⟩
  · have b4 := b4 (by omega)
    have d2 := d2 (by omega)
    have y9 : t (p + 2) - 48 ≤ 9 := by omega
    generalize hy : t (p + 2) - 48 = y at *
    rw [k1, if_neg (show ¬ nI 2 = (0 : Int32) by decide), if_neg (show ¬ nI 2 = (1 : Int32) by decide), if_pos (show nI 2 = (2 : Int32) from rfl), d2]
    unfold acW
    rw [if_neg (show ¬ 2 = 0 by omega), if_neg (show ¬ 2 = 1 by omega), if_pos (show 2 = 2 from rfl)]
    have ok2 := cvw_ok ok hW
    have hC := cvw_m ok hW hE hN
    by_cases q : x ≤ 7 ∧ y < cm c ∧ echB (cvw c w) x y = true
    · rw [if_pos q]
      have hl := pth_ok ok2 q.1 (show y < cm (cvw c w) from q.2.1)
      rw [isE_b ok2 hC q.1 (show y < cm (cvw c w) from q.2.1), q.2.2, bd_e, if_neg (show ¬ flI true = 0 by decide), d2]
      obtain ⟨T1, l1, l2, l3⟩ := lays_m ok2 hC (by omega) (by omega) (by omega) q.1 (show y < cm (cvw c w) from q.2.1) (echB_o q.2.2)
      rw [l1, bd_e, wears_m ok2 l3 hl (by decide) (by decide), bd_e]
      refine ⟨_, rfl, (l2.b.r).s, fun k hk => ?_⟩
      have o1 : ∀ k, gI T1 126 k = gI T 126 k := fun k => l2.1 126 k (by decide) (by decide) (Or.inl (by decide))
      show _ = acE (pth (cvw c w) x y) w k
      unfold acE
      rw [gI_s, if_pos rfl, o1 38, hN 38 (by omega)]
      by_cases e : k = 38
      · rw [if_pos e, if_pos e]
      · rw [if_neg e, if_neg e, gI_r, if_pos rfl]
        unfold wrM
        by_cases e2 : 24 ≤ k ∧ k < 36
        · rw [if_pos e2, if_pos e2]
          exact wrA_cg _ _ _ (fun p hp => by have := hl.2 p hp; change p.1 < cm c at this; omega) (fun j' hj' => (o1 _).trans (hN _ (by omega))) _ (by omega)
        · rw [if_neg e2, if_neg e2, o1]; exact hN k hk
    · rw [if_neg q, isE_n ok2 hC (no_ech ok2 x9 y9 q), bd_e, if_pos z00]
      exact ⟨T, rfl, bF.rf T, hN⟩
  · have b4 := b4 (by omega)
    have b5 := b5 k1
    have d2 := d2 (by omega)
    have d3 := d3 k1
    have y9 : t (p + 2) - 48 ≤ 9 := by omega
    have z9 : t (p + 3) - 48 ≤ 9 := by omega
    generalize hy : t (p + 2) - 48 = y at *
    generalize hz : t (p + 3) - 48 = z at *
    rw [k1, if_neg (show ¬ nI 3 = (0 : Int32) by decide), if_neg (show ¬ nI 3 = (1 : Int32) by decide), if_neg (show ¬ nI 3 = (2 : Int32) by decide), d2, d3]
    unfold f_X11_digsOne f_X11_digsOne_60
    rw [isp, bd_e]
    simp only [fl3z]
    unfold acW
    rw [if_neg (show ¬ 3 = 0 by omega), if_neg (show ¬ 3 = 1 by omega), if_neg (show ¬ 3 = 2 by omega)]
    by_cases q : x < cm c
    · have wx : inb (nI x) 39 := by rw [inb_nI (by omega)]; omega
      have e12 : (12 : Int32) + nI x = nI (12 + x) := nAdd 12 x
      have w12 : inb (nI (12 + x)) 39 := by rw [inb_nI (by omega)]; omega
      obtain ⟨⟨dv, dv1, dv2, dv3⟩, ⟨bv, bv1, bv2, bv3⟩, _⟩ := hW.1 x q
      rw [if_pos (show ¬ nI x < nI 0 ∧ nI x < nI (cm c) from hasx.mpr q), in_1_9, bd_e, in_0_9, bd_e]
      simp only [fl3z]
      have iz : ¬ nI z < nI 0 ∧ ¬ nI 9 < nI z := by rw [nLt (by omega) (by omega), nLt (by omega) (by omega)]; omega
      by_cases y1 : 1 ≤ y
      · have iy : ¬ nI y < nI 1 ∧ ¬ nI 9 < nI y := by rw [nLt (by omega) (by omega), nLt (by omega) (by omega)]; omega
        rw [if_pos iy, if_pos iz]
        simp only [if_pos wx, nI_t (show x < 2147483648 by omega), e12, if_pos w12, nI_t (show 12 + x < 2147483648 by omega), lt_e, hN x (by omega), hN (12 + x) (by omega)]
        have en : ∀ (A B : Option (Int32 × St)), (if w x = nI y then (if w (12 + x) = nI z then A else B) else B) = if w x = nI y ∧ w (12 + x) = nI z then A else B := by
          intro A B
          by_cases q1 : w x = nI y
          · by_cases q2 : w (12 + x) = nI z
            · rw [if_pos q1, if_pos q2, if_pos ⟨q1, q2⟩]
            · rw [if_pos q1, if_neg q2, if_neg (fun z => q2 z.2)]
          · rw [if_neg q1, if_neg (fun z => q1 z.1)]
        rw [en]
        by_cases qq : w x = nI y ∧ w (12 + x) = nI z
        · rw [if_pos qq, bd_e, if_pos (show (-2 : Int32) < 0 by decide), if_neg (fun z => z.2.2 qq)]
          exact ⟨T, rfl, bF.rf T, hN⟩
        · have er : (100 : Int32) + (10 : Int32) * w x + w (12 + x) = nI (100 + 10 * dv + bv) := by
            rw [dv3, bv3, show (10 : Int32) = nI 10 from rfl, show (100 : Int32) = nI 100 from rfl, nMul, nAdd, nAdd]
          rw [if_neg qq, bd_e, er, if_neg (nn0 (100 + 10 * dv + bv) (by omega)), if_pos ⟨q, y1, qq⟩]
          refine ⟨_, rfl, ((bF.rf T).s).s, fun k hk => ?_⟩
          show _ = acD x y z w k
          unfold acD
          rw [gI_s, if_pos rfl]
          by_cases e : k = 12 + x
          · rw [if_pos e, if_pos e]
          · rw [if_neg e, if_neg e, gI_s, if_pos rfl]
            by_cases e2 : k = x
            · rw [if_pos e2, if_pos e2]
            · rw [if_neg e2, if_neg e2]; exact hN k hk
      · have iy : ¬ (¬ nI y < nI 1 ∧ ¬ nI 9 < nI y) := by rw [nLt (by omega) (by omega), nLt (by omega) (by omega)]; omega
        rw [if_neg iy, bd_e, if_pos (show (-1 : Int32) < 0 by decide), if_neg (fun z => y1 z.2.1)]
        exact ⟨T, rfl, bF.rf T, hN⟩
    · rw [if_neg (show ¬ (¬ nI x < nI 0 ∧ nI x < nI (cm c)) from fun z => q (hasx.mp z)), bd_e, if_pos (show (-1 : Int32) < 0 by decide), if_neg (fun z => q z.1)]
      exact ⟨T, rfl, bF.rf T, hN⟩
