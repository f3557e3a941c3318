/-- a mark alone leaves the relation -/
theorem RelP.mk {S : St} {m u f : Nat} (hR : RelR S m) (hO : SOk S m 6) (hN : SEq S 6 126 0) (hw : RHw S m u f) : RelP (tk S (14 + 4 * ((f + u) % 16)) 6) := by
  obtain ⟨h1, h2, h3, h4, h5, h6⟩ := id hw
  have off : ∀ o k, (o < 14 ∨ 77 < o) → gI (tk S (14 + 4 * ((f + u) % 16)) 6) o k = gI S o k := fun o k h => tk_off (by omega)
  refine (hR.sm ((Same.rf (P := domR) S).tk (by omega) (by omega))).p (hO.fr (fun q k hq => off _ _ (by omega))) (hN.fr (fun q k hq => off _ _ (by omega)) (fun k _ _ => off _ _ (by omega))) ?_
  exact hw.n (fun o k _ _ => rfl) ((off _ _ (by omega)).trans h3) ((off _ _ (by omega)).trans h4) ((off _ _ (by omega)).trans h5) (fun k _ => off _ _ (by omega))
theorem yl_c {A : St} {z : Int32} {n : Nat} (hn : n ≤ 60) {Y : Nat → Cv × Int32 × Nat} (hY : ∀ i, Y (i + 1) = yrS (Y i)) (ok : Cok (Y 0).1) (hC : CC A (Y 0).1) (hz : z = (Y 0).2.1) (h0 : (Y 0).2.2 = 0) (e : Int32 × Int32 → St → Option (Int32 × St)) : ∃ T1, lp (f_X10_years_37b (nI n) e) FU (0, 0) (sI A 0 12 z) = e (nI (Y n).2.2, nI n) T1 ∧ oY A T1 ∧ (∀ k, 12 ≤ k → gI T1 9 k = gI A 9 k) ∧ CC T1 (Y n).1 ∧ (Y n).2.2 ≤ n ∧ Cok (Y n).1 ∧ cm (Y n).1 = cm (Y 0).1 ∧ ∀ k, k ≠ 3 → k ≠ 4 → k ≠ 5 → gI T1 6 k = gI A 6 k := by
  have h := lp_ex (body := f_X10_years_37b (nI n) e) (Q := fun w => ∃ T1, w = e (nI (Y n).2.2, nI n) T1 ∧ oY A T1 ∧ (∀ k, 12 ≤ k → gI T1 9 k = gI A 9 k) ∧ CC T1 (Y n).1 ∧ (Y n).2.2 ≤ n ∧ Cok (Y n).1 ∧ cm (Y n).1 = cm (Y 0).1 ∧ ∀ k, k ≠ 3 → k ≠ 4 → k ≠ 5 → gI T1 6 k = gI A 6 k) n (fun i v T1 => v = (nI (Y i).2.2, nI i) ∧ oY A T1 ∧ (∀ k, 12 ≤ k → gI T1 9 k = gI A 9 k) ∧ CC T1 (Y i).1 ∧ gI T1 0 12 = (Y i).2.1 ∧ (Y i).2.2 ≤ i ∧ Cok (Y i).1 ∧ cm (Y i).1 = cm (Y 0).1 ∧ ∀ k, k ≠ 3 → k ≠ 4 → k ≠ 5 → gI T1 6 k = gI A 6 k) (fun i k v T1 hi hI => ?_) (fun k v T1 hI => ?_) FU 0 ((0 : Int32), (0 : Int32)) (sI A 0 12 z) (by omega) (by unfold FU; omega) ⟨by rw [h0]; rfl, (Sm.rf A).sI rfl, fun k _ => rfl, hC, hz, by omega, ok, rfl, fun k _ _ _ => rfl⟩
  · exact h
  · obtain ⟨rfl, a2, a3, a4, a5, a6, a7, a8, a9⟩ := hI
    obtain ⟨T2, d, b1, b2, b3, b4, b5, b6, b7, b8, b9, b10⟩ := year_c a7 a4 a5
    rw [← hY i] at b4 b5 b6 b8 b9
    refine ⟨_, T2, ?_, rfl, a2.tr b2, fun k hk => (b3 k hk).trans (a3 k hk), b4, b5, by omega, b8, b9.trans a8, fun k k3 k4 k5 => (b10 k k3 k4 k5).trans (a9 k k3 k4 k5)⟩
    unfold f_X10_years_37b
    simp only
    rw [if_neg (by rw [nLe (by omega) (by omega)]; omega), b1, bd_e, lt_e, nAdd, a1, b6]
  · obtain ⟨rfl, a2, a3, a4, a5, a6, a7, a8, a9⟩ := hI
    refine ⟨T1, ?_, a2, a3, a4, a6, a7, a8, a9⟩
    unfold f_X10_years_37b
    rw [if_pos (by rw [nLe (by omega) (by omega)]; omega)]
theorem yl_m {B : St} {n : Nat} (hn : n ≤ 60) {Y : Nat → Cv × Int32 × Nat} (hY : ∀ i, Y (i + 1) = yrS (Y i)) (ok : ∀ i, i ≤ n → Cok (Y i).1) (hC : CM B 127 (Y 0).1) (hz : gI B 122 50 = (Y 0).2.1) (h0 : (Y 0).2.2 = 0) (e : Int32 × Int32 → St → Option (Int32 × St)) : ∃ T1, lp (f_X11_years_33b (nI n) e) FU (0, 0) B = e (nI (Y n).2.2, nI n) T1 ∧ oZ B T1 ∧ CM T1 127 (Y n).1 := by
  have h := lp_ex (body := f_X11_years_33b (nI n) e) (Q := fun w => ∃ T1, w = e (nI (Y n).2.2, nI n) T1 ∧ oZ B T1 ∧ CM T1 127 (Y n).1) n (fun i v T1 => v = (nI (Y i).2.2, nI i) ∧ oZ B T1 ∧ CM T1 127 (Y i).1 ∧ gI T1 122 50 = (Y i).2.1) (fun i k v T1 hi hI => ?_) (fun k v T1 hI => ?_) FU 0 ((0 : Int32), (0 : Int32)) B (by omega) (by unfold FU; omega) ⟨by rw [h0]; rfl, Sm.rf B, hC, hz⟩
  · exact h
  · obtain ⟨rfl, a2, a3, a4⟩ := hI
    obtain ⟨T2, b1, b2, b3, b4⟩ := year_m (ok i (by omega)) a3 a4 hn hi e k
    rw [← hY i] at b1 b3 b4
    exact ⟨_, T2, b1, rfl, a2.tr b2, b3, b4⟩
  · obtain ⟨rfl, a2, a3, a4⟩ := hI
    refine ⟨T1, ?_, a2, a3⟩
    unfold f_X11_years_33b
    rw [if_pos (by rw [nLe (by omega) (by omega)]; omega)]
theorem yr_ok {a : Cv × Int32 × Nat} (ok : Cok a.1) : Cok (yrS a).1 := by
  obtain ⟨T, hT⟩ : ∃ T : St, CC T a.1 ∧ gI T 0 12 = a.2.1 := by
    refine ⟨((fun x k => if x = 3 then nI (cm a.1) else if x = 4 then nI (ca a.1 k) else if x = 5 then nI (cb a.1 k) else if x = 7 then nI (cd a.1 k) else if x = 8 then nI (cn a.1 k) else if x = 9 then nI (cw a.1 k) else if x = 6 then (if k = 3 then nI (co a.1) else ch a.1) else a.2.1), (fun _ _ => 0)), ⟨rfl, fun i _ => ⟨rfl, rfl, rfl, rfl, rfl⟩, rfl, rfl⟩, rfl⟩
  obtain ⟨T', d, b1, b2, b3, b4, b5, b6, b7, b8, b9, b10⟩ := year_c ok hT.1 hT.2
  exact b8
theorem eq_years : ∀ a1 a2 : Int32, EQ1 RelP (f_X10_years a1 a2) (f_X11_years a1 a2) := by
  intro z y
  by_cases hy : ¬ y < nI 1 ∧ ¬ nI 60 < y
  · obtain ⟨n, hn, rfl⟩ : ∃ n, n ≤ 60 ∧ y = nI n := as_le (b := 60) (by have := hy.1; rw [i_lt, nI_int (by omega)] at this ⊢; omega) hy.2
    apply EQ1.of
    intro S hS
    obtain ⟨m, u, f, hR, hO, hN, hw⟩ := hS.r
    have hS' := RelP.mk hR hO hN hw
    have mk := mark_e hw
    have hw0 := id hw
    obtain ⟨hu, hf, w2, w28, w1, _⟩ := hw0
    generalize hsl : 14 + 4 * ((f + u) % 16) = sl at hS' mk
    have sl1 : 14 ≤ sl ∧ sl ≤ 74 := by omega
    have hsl1 : ∀ k, k < 12 → gI (tk S sl 6) (sl + 1) k = gI (tk S sl 6) 7 k ∧ gI (tk S sl 6) (sl + 2) k = gI (tk S sl 6) 8 k ∧ gI (tk S sl 6) (sl + 3) k = gI (tk S sl 6) 9 k := by
      intro k hk
      rw [tk_1 hk, tk_2 hk, tk_3 hk, tk_off (by omega), tk_off (by omega), tk_off (by omega)]
      exact ⟨rfl, rfl, rfl⟩
    have hsl2 : gI (tk S sl 6) sl 3 = gI (tk S sl 6) 6 3 ∧ gI (tk S sl 6) sl 4 = gI (tk S sl 6) 6 4 ∧ gI (tk S sl 6) sl 5 = gI (tk S sl 6) 6 5 := by
      rw [tk_o3, tk_o4, tk_o5, tk_off (by omega), tk_off (by omega), tk_off (by omega)]
      exact ⟨rfl, rfl, rfl⟩
    have hw' : RHw (tk S sl 6) m u f := by
      obtain ⟨h1, h2, h3, h4, h5, h6⟩ := hw
      have off : ∀ o k, (o < 14 ∨ 77 < o) → gI (tk S sl 6) o k = gI S o k := fun o k h => tk_off (by omega)
      refine ⟨h1, h2, (off _ _ (by omega)).trans h3, (off _ _ (by omega)).trans h4, (off _ _ (by omega)).trans h5, fun j hj => ?_⟩
      have off2 : ∀ q k, q ≤ 3 → gI (tk S sl 6) (14 + 4 * ((f + j) % 16) + q) k = gI S (14 + 4 * ((f + j) % 16) + q) k := fun q k hq => tk_off (by omega)
      exact ⟨(h6 j hj).1.fr off2 (fun k _ _ => off _ _ (by omega)), (h6 j hj).2.fr off2⟩
    generalize hA : tk S sl 6 = A at hS' mk hsl1 hsl2 hw'
    obtain ⟨c, o, r, ok, hC, hM⟩ := hS'.x
    have hm : m = cm c := by
      have e1 := hS'.2.1
      obtain ⟨m', ⟨b1, b2, _⟩, _⟩ := e1
      have e2 := hC.1.1
      have e3 := hR.2.1
      have e4 : gI A 3 2 = gI S 3 2 := by rw [← hA]; exact tk_off (by omega)
      rw [e4, e3.2.1, nEq (by have := e3.1; omega) (by have := ok12 ok; omega)] at e2
      exact e2
    have h12 := ok12 ok
    obtain ⟨Y, hY0, hY⟩ : ∃ Y : Nat → Cv × Int32 × Nat, Y 0 = (c, z, 0) ∧ ∀ i, Y (i + 1) = yrS (Y i) := ⟨yrA c z, rfl, yrA_s c z⟩
    have okY : ∀ i, Cok (Y i).1 := by
      intro i
      induction i with
      | zero => rw [hY0]; exact ok
      | succ i ih => rw [hY]; exact yr_ok ih
    obtain ⟨T1, l1, l2, l3, l4, l5, l6, l7, l8⟩ := yl_c (A := A) (z := z) hn hY (okY 0) (by rw [hY0]; exact hC.1) (by rw [hY0]) (by rw [hY0]) (fun v9 S10 => bd (f_X5_begin S10) (fun r11 S12 => bd (f_J6_bitCount_0f7a4 (gI S12 6 3) S12) (fun r14 S15 => bd (f_X5_put r14.toInt64 S15) (fun r17 S18 => bd (f_X5_put v9.1.toInt64 S18) (fun r20 S21 => bd (f_X0_wearOfAll S21) (fun r23 S24 => bd (f_X4_marked S24) (fun r26 S27 => if isState r26 then bd (f_X7_take 6 r26 S27) (fun r30 S31 => some (r23, S31)) else none)))))))
    have e0 : cm (Y 0).1 = cm c := by rw [hY0]
    rw [e0] at l7
    generalize hcn : (Y n).1 = cN at l4 l6 l7
    generalize hmd : (Y n).2.2 = md at l1 l5
    obtain ⟨T2, p1', p2, p3, p4⟩ := put_e (bC (nI (co cN))).toInt64 (RwC.nil T1) (by simp)
    obtain ⟨T3, r1, r2, r3, r4⟩ := put_e (nI md).toInt64 p3 (by simp)
    have q13 : QC T1 T3 := ((q10 T1 0).tr p2).tr r2
    have o13 : ∀ a b, a ≠ 10 → gI T3 a b = gI T1 a b := fun a b h => (r4 a b h).trans ((p4 a b h).trans (e10 a b h))
    have hw3 : RHw T3 m u f := hw'.of (fun b => (o13 _ _ (by omega)).trans (l2.1 12 b rfl)) ((o13 _ _ (by omega)).trans (l2.1 122 28 rfl)) (fun b => (o13 _ _ (by omega)).trans (l2.1 137 b rfl)) (fun a b h1 h2 => (o13 _ _ (by omega)).trans (l2.1 a b (by
      have k1 : a ≠ 6 := by omega
      have k2 : a ≠ 9 := by omega
      have k3 : a ≠ 92 := by omega
      have k4 : a ≠ 93 := by omega
      have k5 : a ≠ 94 := by omega
      have k6 : a ≠ 0 := by omega
      simp [k1, k2, k3, k4, k5, k6])))
    have we : f_X0_wearOfAll T3 = some (sumN (gI T3 9) (cm c), T3) := wear_e ((o13 _ _ (by omega)).trans (l4.1.trans (by rw [l7]))) h12
    have ma := marked_e hw3
    rw [hsl] at ma
    have ist' : isState sl := by rw [← hsl]; exact ist (by omega)
    have ta := take_e T3 6 sl (by omega)
    generalize hE1 : tk T3 6 sl = E1 at ta
    have cls : f_X10_years z (nI n) S = some (sumN (gI T3 9) (cm c), E1) := by
      unfold f_X10_years
      rw [if_neg (show ¬ nI n < 1 from hy.1), if_pos (show nI n ≤ 60 by have := hy.2; rw [i_lt] at this; rw [i_le]; change ¬ (nI 60).toInt < _ at this; change _ ≤ (nI 60).toInt; omega), mk, bd_e, lt_e]
      refine l1.trans ?_
      simp only
      rw [begin_e, bd_e, e10 6 3 (by omega), l4.2.2.1, bc_e, bd_e, p1', bd_e, r1, bd_e, we, bd_e, ma, bd_e, if_pos ist', ta, bd_e]
    -- all that the class changed is scratch and the row
    have oN : ∀ a b, a ≠ 6 → a ≠ 9 → PC a b = true → gI E1 a b = gI A a b := by
      intro a b h1 h2 h3
      by_cases h4 : a = 10
      · subst h4
        rw [← hE1]
        by_cases hb1 : b = 1
        · subst hb1; cases h3
        · rw [tk_off (by omega), q13.1 10 b h3]
          exact l2.nq 10 b (by omega) (by omega) h3
      · have e : gI T3 a b = gI A a b := (o13 a b h4).trans (l2.nq a b h1 h2 h3)
        rw [← hE1]
        by_cases h5 : a < 6 ∨ 9 < a
        · rw [tk_off (by omega)]; exact e
        · have : a = 7 ∨ a = 8 := by omega
          have s3 : ∀ a b, sl ≤ a → a ≤ sl + 3 → gI T3 a b = gI A a b := fun a b k1 k2 => (o13 a b (by omega)).trans (l2.1 a b (by
            have j1 : a ≠ 6 := by omega
            have j2 : a ≠ 9 := by omega
            have j3 : a ≠ 92 := by omega
            have j4 : a ≠ 93 := by omega
            have j5 : a ≠ 94 := by omega
            have j6 : a ≠ 0 := by omega
            simp [j1, j2, j3, j4, j5, j6]))
          rcases this with rfl | rfl
          · by_cases hk : b < 12
            · rw [show (7 : Nat) = 6 + 1 from rfl, tk_1 hk, s3 _ _ (by omega) (by omega)]; exact (hsl1 b hk).1
            · unfold tk
              simp only [gI_s, gI_r]
              rw [if_neg (by omega), if_neg (by omega), if_neg (by omega), if_neg (by omega), if_neg (by omega), if_pos trivial, if_neg hk]; exact e
          · by_cases hk : b < 12
            · rw [show (8 : Nat) = 6 + 2 from rfl, tk_2 hk, s3 _ _ (by omega) (by omega)]; exact (hsl1 b hk).2.1
            · unfold tk
              simp only [gI_s, gI_r]
              rw [if_neg (by omega), if_neg (by omega), if_neg (by omega), if_neg (by omega), if_pos trivial, if_neg hk]; exact e
    have s3 : ∀ a b, sl ≤ a → a ≤ sl + 3 → gI T3 a b = gI A a b := fun a b k1 k2 => (o13 a b (by omega)).trans (l2.1 a b (by
      have j1 : a ≠ 6 := by omega
      have j2 : a ≠ 9 := by omega
      have j3 : a ≠ 92 := by omega
      have j4 : a ≠ 93 := by omega
      have j5 : a ≠ 94 := by omega
      have j6 : a ≠ 0 := by omega
      simp [j1, j2, j3, j4, j5, j6]))
    have e9 : ∀ b, gI E1 9 b = gI A 9 b := by
      intro b
      rw [← hE1]
      by_cases hk : b < 12
      · rw [show (9 : Nat) = 6 + 3 from rfl, tk_3 hk, s3 _ _ (by omega) (by omega)]; exact (hsl1 b hk).2.2
      · unfold tk
        simp only [gI_s, gI_r]
        rw [if_neg (by omega), if_neg (by omega), if_neg (by omega), if_pos trivial, if_neg hk]
        exact (o13 9 b (by omega)).trans (l3 b (by omega))
    have e6 : ∀ b, gI E1 6 b = gI A 6 b := by
      intro b
      rw [← hE1]
      by_cases k3 : b = 3
      · subst k3; rw [tk_o3, s3 _ _ (by omega) (by omega)]; exact hsl2.1
      · by_cases k4 : b = 4
        · subst k4; rw [tk_o4, s3 _ _ (by omega) (by omega)]; exact hsl2.2.1
        · by_cases k5 : b = 5
          · subst k5; rw [tk_o5, s3 _ _ (by omega) (by omega)]; exact hsl2.2.2
          · unfold tk
            simp only [gI_s, gI_r]
            rw [if_pos trivial, if_neg k5, if_pos trivial, if_neg k4, if_pos trivial, if_neg k3, if_neg (by omega), if_neg (by omega), if_neg (by omega), o13 6 b (by omega)]
            exact l8 b k3 k4 k5
    have qE : QC A E1 := by
      refine ⟨fun a b hab => ?_, fun a b hab => ?_⟩
      · by_cases k6 : a = 6
        · subst k6; exact e6 b
        · by_cases k9 : a = 9
          · subst k9; exact e9 b
          · exact oN a b k6 k9 hab
      · rw [← hE1, tk_L, q13.2 a b hab]; exact l2.2 a b rfl
    have rwE : RwC E1 [(bC (nI (co cN))).toInt64, (nI md).toInt64] := by
      refine ⟨?_, fun i hi => ?_⟩
      · rw [← hE1, tk_off (by omega)]; exact r3.1
      · rw [← hE1, tk_L]; exact r3.2 i hi
    refine ⟨_, _, cls, ?_⟩
    -- the reference
    have hM1 : MX E1 c r := hM.c qE
    have c0 := copies_m (sI (sI E1 122 0 0) 122 50 z)
    generalize hB : sR (sI (sI E1 122 0 0) 122 50 z) 127 (fun k => if k < 39 then gI (sI (sI E1 122 0 0) 122 50 z) 126 k else gI (sI (sI E1 122 0 0) 122 50 z) 127 k) = B at c0
    have qB : QM E1 B := by rw [← hB]; exact (((q00 E1 0).sI rfl).sR (fun _ => rfl))
    have b127 : ∀ k, k < 39 → gI B 127 k = gI E1 126 k := fun k hk => by rw [← hB, gI_r, if_pos rfl, if_pos hk]; rfl
    have hCB : CM B 127 (Y 0).1 := by
      rw [hY0]
      obtain ⟨h1, h2, h3, h4⟩ := hM1.1
      refine ⟨(qB.1 122 3 rfl).trans h1, fun i hi => ?_, (b127 36 (by omega)).trans h3, (b127 37 (by omega)).trans h4⟩
      have hi' : i < cm c := hi
      rw [qB.1 124 i rfl, qB.1 125 i rfl, b127 i (by omega), b127 (12 + i) (by omega), b127 (24 + i) (by omega)]
      exact h2 i hi
    obtain ⟨U1, m1', m2, m3⟩ := yl_m (B := B) hn hY (fun i _ => okY i) hCB (by rw [hY0, ← hB]; rfl) (by rw [hY0]) (fun v36 S37 => lt (sI S37 122 1 (0 : Int32)) (fun S38 => bd (f_J6_bitCount_0f7a4 (gI S38 127 36) S38) (fun r39 S40 => bd (f_X11_enters r39.toInt64 S40) (fun r42 S43 => bd (f_X11_enters v36.1.toInt64 S43) (fun r45 S46 => bd (f_X11_sumOf 127 (24 : Int32) S46) (fun r48 S49 => some (r48, S49)))))))
    rw [hcn] at m3
    rw [hmd] at m1'
    obtain ⟨U2, x1, x2, x3, x4⟩ := ent_e (bC (nI (co cN))).toInt64 (RwM.nil U1) (by simp)
    obtain ⟨U3, y1, y2, y3, y4⟩ := ent_e (nI md).toInt64 x3 (by simp)
    have o3 : ∀ a b, (a ≠ 122 ∨ b ≠ 1) → gI U3 a b = gI U1 a b := fun a b h => (y4 a b h).trans ((x4 a b h).trans (e01 a b h))
    have so : f_X11_sumOf 127 24 U3 = some (sumN (fun i => gI U3 127 (24 + i)) (cm c), U3) := sumOf_e (b := 24) ((o3 122 3 (by omega)).trans (m3.1.trans (by rw [l7]))) (by omega)
    have sumE : sumN (fun i => gI U3 127 (24 + i)) (cm c) = sumN (gI T3 9) (cm c) := by
      apply sumN_e
      intro i hi
      rw [o3 127 _ (by omega), (m3.2.1 i (by rw [l7]; exact hi)).2.2.2.2, o13 9 i (by omega), (l4.2.1 i (by rw [l7]; exact hi)).2.2.2.2]
    have qU : QM E1 U3 := (((qB.tr m2.q).tr (q01 U1 0)).tr x2).tr y2
    refine ⟨sumN (gI T3 9) (cm c), U3, ?_, rfl, ?_⟩
    · unfold f_X11_years
      rw [lt_e, in_1_60, bd_e]
      simp only [fl3z, if_pos hy]
      rw [lt_e, c0, bd_e]
      refine m1'.trans ?_
      simp only
      rw [lt_e, e01 127 36 (by omega), m3.2.2.1, bc_e, bd_e, x1, bd_e, y1, bd_e, so, bd_e, sumE]
    · refine hS'.row (fun a b hab => ?_) (rw_rr (l := [(bC (nI (co cN))).toInt64, (nI md).toInt64]) (by simp) rwE qU y3)
      exact QC.s qE qU a b hab
  · apply qr
    intro S c o r hS ok hC hM
    refine ⟨-1, none, (fun l e => by cases e), ?_, fun S1 hM1 q1 => ?_⟩
    · refine AC.n (S1 := S) ?_ (Sm.rf S)
      unfold f_X10_years
      by_cases h1 : y < 1
      · rw [if_pos h1]
      · rw [if_neg h1, if_neg (by
          intro h2
          apply hy
          refine ⟨h1, ?_⟩
          rw [i_lt]; rw [i_le] at h2
          change _ ≤ (nI 60).toInt at h2
          omega)]
    · refine AM.n (S1 := sI S1 122 0 0) ?_ (q00 S1 0)
      unfold f_X11_years
      rw [lt_e, in_1_60, if_neg hy, bd_e, if_pos z00]
