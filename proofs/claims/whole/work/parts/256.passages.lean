/-! passages told: the reference reads -/
def rpF (T T' : St) (j : Nat) : Prop := (∀ o k, o ≠ 129 → (o ≠ 122 ∨ (k ≠ 11 ∧ k ≠ 15)) → gI T' o k = gI T o k) ∧ (∀ k, k < 4 * j → gI T' 129 k = gI T 129 k) ∧ ∀ o k, gL T' o k = gL T o k
theorem rpF.rf (T : St) (j : Nat) : rpF T T j := ⟨fun _ _ _ _ => rfl, fun _ _ => rfl, fun _ _ => rfl⟩
theorem rpF.tr {T T1 T2 : St} {j j' : Nat} (h1 : rpF T T1 j) (h2 : rpF T1 T2 j') (hj : j ≤ j') : rpF T T2 j := ⟨fun o k a b => (h2.1 o k a b).trans (h1.1 o k a b), fun k hk => (h2.2.1 k (by omega)).trans (h1.2.1 k hk), fun o k => (h2.2.2 o k).trans (h1.2.2 o k)⟩
theorem rpF.s9 {T T1 : St} {j k : Nat} {v : Int32} (h : rpF T T1 j) (hk : 4 * j ≤ k) : rpF T (sI T1 129 k v) j := by
  refine ⟨fun o b h1 h2 => ?_, fun b hb => ?_, fun o b => h.2.2 o b⟩
  · rw [gI_s, if_neg h1]; exact h.1 o b h1 h2
  · rw [gI_s, if_pos rfl, if_neg (by omega)]; exact h.2.1 b hb
theorem rpF.s2 {T T1 : St} {j k : Nat} {v : Int32} (h : rpF T T1 j) (hk : k = 11 ∨ k = 15) : rpF T (sI T1 122 k v) j := by
  refine ⟨fun o b h1 h2 => ?_, fun b hb => ?_, fun o b => h.2.2 o b⟩
  · rw [gI_s]
    by_cases e : o = 122
    · rw [if_pos e, if_neg (by omega)]; exact h.1 o b h1 h2
    · rw [if_neg e]; exact h.1 o b h1 h2
  · rw [gI_s, if_neg (by decide)]; exact h.2.1 b hb
theorem x4 (j d : Nat) : nI (4 * j) + nI d = nI (4 * j + d) := nAdd _ _
theorem rp129 {U : St} {j : Nat} {v : Int32} (hj : j ≤ 11) (h15 : gI U 122 15 = nI j) : f_X11_readsPassage_129 (nI (4 * j)) (nI (4 * j) + 3) v U = some (if v < 0 then 0 else 1, sI (sI U 129 (4 * j + 3) v) 122 15 (nI (j + 1))) := by
  unfold f_X11_readsPassage_129
  have e3 : nI (4 * j) + (3 : Int32) = nI (4 * j + 3) := x4 j 3
  have w : inb (nI (4 * j + 3)) 48 := by rw [inb_nI (by omega)]; omega
  have e1 : gI (sI U 129 (4 * j + 3) v) 122 15 = nI j := h15
  have e2 : gI (sI (sI U 129 (4 * j + 3) v) 122 15 (nI (j + 1))) 129 (4 * j + 3) = v := by rw [gI_s, if_neg (by decide), gI_s, if_pos rfl, if_pos rfl]
  rw [e3]
  simp only [if_pos w, nI_t (show 4 * j + 3 < 2147483648 by omega), lt_e, e1, a1, e2]
  by_cases g : v < 0
  · rw [if_pos g, if_pos g]
  · rw [if_neg g, if_neg g]
theorem rp101 {U : St} {j : Nat} {v : Int32} (hj : j ≤ 11) : f_X11_readsPassage_101 (nI (4 * j)) (nI (4 * j) + 2) v U = if 0 ≤ v then bd (f_X11_number (1 : Int32) (sI U 129 (4 * j + 2) v)) (fun r8 S9 => f_X11_readsPassage_129 (nI (4 * j)) (nI (4 * j) + (3 : Int32)) r8 S9) else f_X11_readsPassage_129 (nI (4 * j)) (nI (4 * j) + (3 : Int32)) (-1 : Int32) (sI U 129 (4 * j + 2) v) := by
  unfold f_X11_readsPassage_101
  have e3 : nI (4 * j) + (2 : Int32) = nI (4 * j + 2) := x4 j 2
  have w : inb (nI (4 * j + 2)) 48 := by rw [inb_nI (by omega)]; omega
  have e2 : gI (sI U 129 (4 * j + 2) v) 129 (4 * j + 2) = v := by rw [gI_s, if_pos rfl, if_pos rfl]
  rw [e3]
  simp only [if_pos w, nI_t (show 4 * j + 2 < 2147483648 by omega), lt_e, e2]
theorem rp70 {U : St} {j : Nat} {v : Int32} (hj : j ≤ 11) : f_X11_readsPassage_70 (nI (4 * j)) (nI (4 * j) + 1) v U = if 0 ≤ v then bd (f_X11_digitIn (1 : Int32) (9 : Int32) (-1 : Int32) (sI U 129 (4 * j + 1) v)) (fun r14 S15 => f_X11_readsPassage_101 (nI (4 * j)) (nI (4 * j) + (2 : Int32)) r14 S15) else f_X11_readsPassage_101 (nI (4 * j)) (nI (4 * j) + (2 : Int32)) (-1 : Int32) (sI U 129 (4 * j + 1) v) := by
  unfold f_X11_readsPassage_70
  have e3 : nI (4 * j) + (1 : Int32) = nI (4 * j + 1) := x4 j 1
  have w : inb (nI (4 * j + 1)) 48 := by rw [inb_nI (by omega)]; omega
  have e2 : gI (sI U 129 (4 * j + 1) v) 129 (4 * j + 1) = v := by rw [gI_s, if_pos rfl, if_pos rfl]
  rw [e3]
  simp only [if_pos w, nI_t (show 4 * j + 1 < 2147483648 by omega), lt_e, e2]
theorem n0m : ¬ (0 : Int32) ≤ -1 := by decide
theorem n0p (d : Nat) (h : d < 2147483648) : (0 : Int32) ≤ nI d := by rw [show (0 : Int32) = nI 0 from rfl, nLe (by omega) h]; omega
theorem nn0 (d : Nat) (h : d < 2147483648) : ¬ nI d < (0 : Int32) := by rw [show (0 : Int32) = nI 0 from rfl, nLt h (by omega)]; omega
theorem rpf3 {T U : St} {j : Nat} (hj : j ≤ 11) (h15 : gI U 122 15 = nI j) (hF : rpF T U j) : ∃ X, f_X11_readsPassage_129 (nI (4 * j)) (nI (4 * j) + 3) (-1) U = some (0, X) ∧ rpF T X j ∧ gI X 122 11 = gI U 122 11 := ⟨_, (rp129 hj h15).trans (by rw [if_pos (show (-1 : Int32) < 0 by decide)]), (hF.s9 (by omega)).s2 (Or.inr rfl), rfl⟩
theorem rpf2 {T U : St} {j : Nat} (hj : j ≤ 11) (h15 : gI U 122 15 = nI j) (hF : rpF T U j) : ∃ X, f_X11_readsPassage_101 (nI (4 * j)) (nI (4 * j) + 2) (-1) U = some (0, X) ∧ rpF T X j ∧ gI X 122 11 = gI U 122 11 := by
  obtain ⟨X, x1, x2, x3⟩ := rpf3 (U := sI U 129 (4 * j + 2) (-1)) hj h15 (hF.s9 (by omega))
  exact ⟨X, by rw [rp101 hj, if_neg n0m]; exact x1, x2, x3⟩
theorem rpf1 {T U : St} {j : Nat} (hj : j ≤ 11) (h15 : gI U 122 15 = nI j) (hF : rpF T U j) : ∃ X, f_X11_readsPassage_70 (nI (4 * j)) (nI (4 * j) + 1) (-1) U = some (0, X) ∧ rpF T X j ∧ gI X 122 11 = gI U 122 11 := by
  obtain ⟨X, x1, x2, x3⟩ := rpf2 (U := sI U 129 (4 * j + 1) (-1)) hj h15 (hF.s9 (by omega))
  exact ⟨X, by rw [rp70 hj, if_neg n0m]; exact x1, x2, x3⟩
/-- i signs of line j are read -/
def RPS (T U : St) (j i to : Nat) (t : Nat → Nat) : Prop := TaM U (5 * j + i) to t ∧ gI U 122 15 = nI j ∧ rpF T U j ∧ ∀ k, k < i → gI U 129 (4 * j + k) = nI (t (5 * j + k) - 48)
theorem RPS.put {T U : St} {j i to : Nat} {t : Nat → Nat} (h : RPS T U j i to t) (hi : 5 * j + i < to) : RPS T (sI (sI U 122 11 (nI (5 * j + i + 1))) 129 (4 * j + i) (nI (t (5 * j + i) - 48))) j (i + 1) to t := by
  obtain ⟨h1, h2, h3, h4⟩ := h
  refine ⟨(h1.at (a' := 5 * j + i + 1) (by omega)).of rfl (by omega) rfl (fun _ _ => rfl), h2, (h3.s2 (Or.inl rfl)).s9 (by omega), fun k hk => ?_⟩
  rw [gI_s, if_pos rfl]
  by_cases e : k = i
  · rw [if_pos (by omega), e]
  · rw [if_neg (by omega), gI_s, if_neg (by decide)]; exact h4 k (by omega)
theorem rp_m {T : St} {j m to : Nat} {t : Nat → Nat} (h : TaM T (5 * j) to t) (h3 : gI T 122 3 = nI m) (h15 : gI T 122 15 = nI j) (hj : j ≤ 11) (hmj : m + j ≤ 12) : ∃ r T', f_X11_readsPassage T = some (flI (decide (r = 4)), T') ∧ r ≤ 4 ∧ (∀ i, i < r → 5 * j + i < to ∧ stN t (12 - m) (5 * j + i) = true) ∧ (r < 4 → 5 * j + r = to ∨ stN t (12 - m) (5 * j + r) = false) ∧ gI T' 122 11 = nI (5 * j + r) ∧ (r = 4 → gI T' 122 15 = nI (j + 1) ∧ ∀ i, i < 4 → gI T' 129 (4 * j + i) = nI (t (5 * j + i) - 48)) ∧ rpF T T' j := by
  have hto := h.2.2.2.1
  unfold f_X11_readsPassage
  rw [h3, h15, nAdd]
  by_cases hm12 : m + j = 12
  · refine ⟨0, T, ?_, by omega, fun i hi => by omega, fun _ => ?_, h.1, fun z => by omega, rpF.rf T j⟩
    · rw [if_pos (by rw [hm12]; rfl)]; rfl
    · refine Or.inr ?_
      rw [Nat.add_zero, st_0]
      exact decide_eq_false (fun z => by omega)
  · have ne : ¬ nI (m + j) = (12 : Int32) := by rw [show (12 : Int32) = nI 12 from rfl, nEq (by omega) (by omega)]; exact hm12
    have e4 : (4 : Int32) * nI j = nI (4 * j) := nMul 4 j
    have w : inb (nI (4 * j)) 48 := by rw [inb_nI (by omega)]; omega
    rw [if_neg ne, lt_e, e4]
    have R0 : RPS T T j 0 to t := ⟨h, h15, rpF.rf T j, fun k hk => by omega⟩
    have D := digIn_m (lo := 0) (hi := 7) (but := -1) h (by omega) (by omega)
    by_cases c0 : 5 * j < to ∧ 48 ≤ t (5 * j) ∧ t (5 * j) ≤ 55
    · have b0 := (h.2.2.2.2 _ c0.1).2
      have D0 : f_X11_digitIn (0 : Int32) (7 : Int32) (-1 : Int32) T = some (nI (t (5 * j) - 48), sI T 122 11 (nI (5 * j + 1))) := D.1 ⟨c0.1, by omega, by omega, nne (by omega)⟩
      have R1 := R0.put c0.1
      rw [Nat.add_zero] at R1
      rw [D0, bd_e]
      simp only [if_pos w, nI_t (show 4 * j < 2147483648 by omega), lt_e]
      generalize hU1 : sI (sI T 122 11 (nI (5 * j + 1))) 129 (4 * j) (nI (t (5 * j) - 48)) = U1 at R1
      have g0 := R1.2.2.2 0 (by omega)
      rw [Nat.add_zero, Nat.add_zero] at g0
      have s0 : stN t (12 - m) (5 * j) = true := by rw [st_0]; exact decide_eq_true ⟨by omega, c0.2⟩
      simp only [g0, if_pos (n0p (t (5 * j) - 48) (by omega))]
      have D' := digIn_m (lo := 0) (hi := 7) (but := nI (t (5 * j) - 48)) (show TaM U1 (5 * j + 1) to t from R1.1) (by omega) (by omega)
      by_cases c1 : 5 * j + 1 < to ∧ 48 ≤ t (5 * j + 1) ∧ t (5 * j + 1) ≤ 55 ∧ t (5 * j + 1) ≠ t (5 * j)
      · have D1 : f_X11_digitIn (0 : Int32) (7 : Int32) (nI (t (5 * j) - 48)) U1 = some (nI (t (5 * j + 1) - 48), sI U1 122 11 (nI (5 * j + 1 + 1))) := D'.1 ⟨c1.1, by omega, by omega, by rw [Ne, nEq (by omega) (by omega)]; omega⟩
        have R2 := R1.put c1.1
        rw [D1, bd_e, rp70 hj, if_pos (n0p _ (by omega))]
        have hU2e : sI (sI U1 122 11 (nI (5 * j + 1 + 1))) 129 (4 * j + 1) (nI (t (5 * j + 1) - 48)) = sI (sI U1 122 11 (nI (5 * j + (0 + 1) + 1))) 129 (4 * j + (0 + 1)) (nI (t (5 * j + (0 + 1)) - 48)) := rfl
        rw [hU2e]
        generalize hU2 : sI (sI U1 122 11 (nI (5 * j + (0 + 1) + 1))) 129 (4 * j + (0 + 1)) (nI (t (5 * j + (0 + 1)) - 48)) = U2 at R2
        have s1 : stN t (12 - m) (5 * j + 1) = true := by rw [st_1]; exact decide_eq_true c1.2
        have E := digIn_m (lo := 1) (hi := 9) (but := -1) R2.1 (by omega) (by omega)
        by_cases c2 : 5 * j + 2 < to ∧ 49 ≤ t (5 * j + 2) ∧ t (5 * j + 2) ≤ 57
        · have E1 : f_X11_digitIn (1 : Int32) (9 : Int32) (-1 : Int32) U2 = some (nI (t (5 * j + 2) - 48), sI U2 122 11 (nI (5 * j + 2 + 1))) := E.1 ⟨c2.1, c2.2.1, c2.2.2, nne (show t (5 * j + 2) - 48 < 2147483648 by omega)⟩
          have R3 := R2.put c2.1
          rw [E1, bd_e, rp101 hj, if_pos (n0p _ (by omega))]
          have hU3e : sI (sI U2 122 11 (nI (5 * j + 2 + 1))) 129 (4 * j + 2) (nI (t (5 * j + 2) - 48)) = sI (sI U2 122 11 (nI (5 * j + (0 + 1 + 1) + 1))) 129 (4 * j + (0 + 1 + 1)) (nI (t (5 * j + (0 + 1 + 1)) - 48)) := rfl
          rw [hU3e]
          generalize hU3 : sI (sI U2 122 11 (nI (5 * j + (0 + 1 + 1) + 1))) 129 (4 * j + (0 + 1 + 1)) (nI (t (5 * j + (0 + 1 + 1)) - 48)) = U3 at R3
          have s2 : stN t (12 - m) (5 * j + 2) = true := by rw [st_2]; exact decide_eq_true c2.2
          by_cases c3 : dgB t to (5 * j + 3) = true
          · have c3' := of_decide_eq_true c3
            have N : f_X11_number (1 : Int32) U3 = some (nI (vlN t (5 * j + 3) 1), sI U3 122 11 (nI (5 * j + 3 + 1))) := num_m (d := 1) (K := 1) R3.1 (by omega) (by omega) (by omega) (fun i hi => by rw [show i = 0 by omega]; exact c3) (Or.inl rfl)
            have ev : vlN t (5 * j + 3) 1 = t (5 * j + 3) - 48 := by
              rw [vlN, vlN, Nat.add_zero]; omega
            have R4 := R3.put c3'.1
            have hU4e : sI (sI U3 122 11 (nI (5 * j + 3 + 1))) 129 (4 * j + 3) (nI (t (5 * j + 3) - 48)) = sI (sI U3 122 11 (nI (5 * j + (0 + 1 + 1 + 1) + 1))) 129 (4 * j + (0 + 1 + 1 + 1)) (nI (t (5 * j + (0 + 1 + 1 + 1)) - 48)) := rfl
            rw [N, ev, bd_e, rp129 (U := sI U3 122 11 (nI (5 * j + 3 + 1))) hj R3.2.1, if_neg (nn0 _ (by omega)), hU4e]
            generalize hU4 : sI (sI U3 122 11 (nI (5 * j + (0 + 1 + 1 + 1) + 1))) 129 (4 * j + (0 + 1 + 1 + 1)) (nI (t (5 * j + (0 + 1 + 1 + 1)) - 48)) = U4 at R4
            have s3 : stN t (12 - m) (5 * j + 3) = true := by rw [st_3]; exact decide_eq_true c3'.2
            refine ⟨4, sI U4 122 15 (nI (j + 1)), rfl, by omega, fun i hi => ?_, fun z => by omega, R4.1.1, fun _ => ⟨rfl, fun i hi => R4.2.2.2 i (by omega)⟩, R4.2.2.1.s2 (Or.inr rfl)⟩
            have : i = 0 ∨ i = 1 ∨ i = 2 ∨ i = 3 := by omega
            rcases this with rfl | rfl | rfl | rfl
            · exact ⟨c0.1, s0⟩
            · exact ⟨c1.1, s1⟩
            · exact ⟨c2.1, s2⟩
            · exact ⟨c3'.1, s3⟩
          · have c3' : dgB t to (5 * j + 3) = false := by simpa using c3
            have N : f_X11_number (1 : Int32) U3 = some (-1, U3) := num_n R3.1 1 c3'
            obtain ⟨X, x1, x2, x3⟩ := rpf3 hj R3.2.1 R3.2.2.1
            rw [N, bd_e]
            refine ⟨3, X, x1, by omega, fun i hi => ?_, fun _ => ?_, x3.trans R3.1.1, fun z => by omega, x2⟩
            · have : i = 0 ∨ i = 1 ∨ i = 2 := by omega
              rcases this with rfl | rfl | rfl
              · exact ⟨c0.1, s0⟩
              · exact ⟨c1.1, s1⟩
              · exact ⟨c2.1, s2⟩
            · by_cases z : 5 * j + 3 < to
              · refine Or.inr ?_
                rw [st_3]
                exact decide_eq_false (fun y => c3 (decide_eq_true ⟨z, y⟩))
              · exact Or.inl (by omega)
        · have E1 : f_X11_digitIn (1 : Int32) (9 : Int32) (-1 : Int32) U2 = some (-1, U2) := E.2 (fun z => c2 ⟨z.1, z.2.1, z.2.2.1⟩)
          obtain ⟨X, x1, x2, x3⟩ := rpf2 hj R2.2.1 R2.2.2.1
          rw [E1, bd_e]
          refine ⟨2, X, x1, by omega, fun i hi => ?_, fun _ => ?_, x3.trans R2.1.1, fun z => by omega, x2⟩
          · have : i = 0 ∨ i = 1 := by omega
            rcases this with rfl | rfl
            · exact ⟨c0.1, s0⟩
            · exact ⟨c1.1, s1⟩
          · by_cases z : 5 * j + 2 < to
            · refine Or.inr ?_
              rw [st_2]
              exact decide_eq_false (fun y => c2 ⟨z, y⟩)
            · exact Or.inl (by omega)
      · have D1 : f_X11_digitIn (0 : Int32) (7 : Int32) (nI (t (5 * j) - 48)) U1 = some (-1, U1) := by
          refine D'.2 (fun z => c1 ⟨z.1, z.2.1, z.2.2.1, fun y => z.2.2.2 ?_⟩)
          rw [y]
        obtain ⟨X, x1, x2, x3⟩ := rpf1 hj R1.2.1 R1.2.2.1
        rw [D1, bd_e]
        refine ⟨1, X, x1, by omega, fun i hi => ?_, fun _ => ?_, x3.trans R1.1.1, fun z => by omega, x2⟩
        · rw [show i = 0 by omega]
          exact ⟨c0.1, s0⟩
        · by_cases z : 5 * j + 1 < to
          · refine Or.inr ?_
            rw [st_1]
            exact decide_eq_false (fun y => c1 ⟨z, y⟩)
          · exact Or.inl (by omega)
    · have D0 : f_X11_digitIn (0 : Int32) (7 : Int32) (-1 : Int32) T = some (-1, T) := D.2 (fun z => c0 ⟨z.1, z.2.1, z.2.2.1⟩)
      obtain ⟨X, x1, x2, x3⟩ := rpf1 (T := T) (U := sI T 129 (4 * j) (-1)) hj h15 ((rpF.rf T j).s9 (by omega))
      have g0 : gI (sI T 129 (4 * j) (-1)) 129 (4 * j) = -1 := by rw [gI_s, if_pos rfl, if_pos rfl]
      rw [D0, bd_e]
      simp only [if_pos w, nI_t (show 4 * j < 2147483648 by omega), lt_e, g0, if_neg n0m]
      refine ⟨0, X, x1, by omega, fun i hi => by omega, fun _ => ?_, x3.trans h.1, fun z => by omega, x2⟩
      by_cases z : 5 * j < to
      · refine Or.inr ?_
        rw [Nat.add_zero, st_0]
        exact decide_eq_false (fun y => c0 ⟨z, y.2⟩)
      · exact Or.inl (by omega)
/-- all lines -/
theorem rl_m {T : St} {m to : Nat} {t : Nat → Nat} (h : TaM T 0 to t) (h3 : gI T 122 3 = nI m) (h15 : gI T 122 15 = 0) (hm : m ≤ 12) (ht : to ≤ 59) (x1 : Int32) (e : Int32 × Int32 → St → Option (Int32 × St)) : ∃ p T', lp (f_X11_passages_29b x1 e) FU ((1 : Int32), (1 : Int32)) T = e (flI (decide (p % 5 = 4)), 0) T' ∧ TaM T' p to t ∧ (∀ i, i < p → stN t (12 - m) i = true) ∧ (p < to → stN t (12 - m) p = false) ∧ rpF T T' 0 ∧ (p % 5 = 4 → gI T' 122 15 = nI (p / 5 + 1) ∧ ∀ l i, l ≤ p / 5 → i < 4 → gI T' 129 (4 * l + i) = nI (t (5 * l + i) - 48)) := by
  have key : ∀ n j v U, 12 - j < n → j ≤ 11 → v = ((1 : Int32), (1 : Int32)) → TaM U (5 * j) to t → gI U 122 15 = nI j → rpF T U 0 → (∀ i, i < 5 * j → stN t (12 - m) i = true) → m + j ≤ 12 → (∀ l i, l < j → i < 4 → gI U 129 (4 * l + i) = nI (t (5 * l + i) - 48)) → ∃ p T', lp (f_X11_passages_29b x1 e) n v U = e (flI (decide (p % 5 = 4)), 0) T' ∧ TaM T' p to t ∧ (∀ i, i < p → stN t (12 - m) i = true) ∧ (p < to → stN t (12 - m) p = false) ∧ rpF T T' 0 ∧ (p % 5 = 4 → gI T' 122 15 = nI (p / 5 + 1) ∧ ∀ l i, l ≤ p / 5 → i < 4 → gI T' 129 (4 * l + i) = nI (t (5 * l + i) - 48)) := by
    intro n
    induction n with
    | zero => intro j v U hn; omega
    | succ n ih =>
      intro j v U hn hj hv hU hU15 hF hst hmj hrd
      subst hv
      have hU3 : gI U 122 3 = nI m := (hF.1 122 3 (by decide) (by decide)).trans h3
      obtain ⟨r, U1, r1, r2, r3, r4, r5, r6, r7⟩ := rp_m hU hU3 hU15 hj hmj
      have h5to : 5 * j + r ≤ to := by
        have := hU.2.2.2.1
        by_cases z : r = 0
        · omega
        · have := (r3 (r - 1) (by omega)).1
          omega
      have hU1 : TaM U1 (5 * j + r) to t := hU.of r5 h5to (r7.1 122 12 (by decide) (by decide)) (fun i _ => r7.1 128 i (by decide) (Or.inl (by decide)))
      have hst1 : ∀ i, i < 5 * j + r → stN t (12 - m) i = true := by
        intro i hi
        by_cases z : i < 5 * j
        · exact hst i z
        · have := (r3 (i - 5 * j) (by omega)).2
          rw [show 5 * j + (i - 5 * j) = i by omega] at this
          exact this
      have hF1 : rpF T U1 0 := hF.tr r7 (by omega)
      have hrd1 : r = 4 → ∀ l i, l ≤ j → i < 4 → gI U1 129 (4 * l + i) = nI (t (5 * l + i) - 48) := by
        intro z l i hl hi
        by_cases y : l = j
        · subst y; exact (r6 z).2 i hi
        · rw [r7.2.1 _ (by omega)]; exact hrd l i (by omega) hi
      show ∃ p T', f_X11_passages_29b x1 e (lp (f_X11_passages_29b x1 e) n) ((1 : Int32), (1 : Int32)) U = _ ∧ _
      have st29 : f_X11_passages_29b x1 e (lp (f_X11_passages_29b x1 e) n) ((1 : Int32), (1 : Int32)) U = (if flI (decide (r = 4)) = 0 then lp (f_X11_passages_29b x1 e) n (flI (decide (r = 4)), 0) U1 else bd (f_X11_takes (59 : Int32) U1) (fun r25 S26 => if r25 = 0 then lp (f_X11_passages_29b x1 e) n (flI (decide (r = 4)), 0) S26 else lp (f_X11_passages_29b x1 e) n (flI (decide (r = 4)), 1) S26)) := by
        unfold f_X11_passages_29b f_X11_passages_55 f_X11_passages_56
        simp only
        rw [if_neg (show ¬ (1 : Int32) = 0 by decide), r1, bd_e]
      have out : ∀ (b : Int32) (V : St), lp (f_X11_passages_29b x1 e) n (b, 0) V = e (b, 0) V := by
        intro b V
        obtain ⟨n', rfl⟩ : ∃ n', n = n' + 1 := ⟨n - 1, by omega⟩
        show f_X11_passages_29b x1 e _ (b, 0) V = _
        unfold f_X11_passages_29b
        rw [if_pos rfl]
      rw [st29]
      by_cases z : r = 4
      · have er : flI (decide (r = 4)) = 1 := by rw [decide_eq_true z]; rfl
        have tk := takesM (s := 59) hU1 (by omega)
        rw [er, if_neg (show ¬ (1 : Int32) = 0 by decide)]
        subst z
        by_cases y : 5 * j + 4 < to ∧ t (5 * j + 4) = 59
        · have t1 : f_X11_takes (59 : Int32) U1 = some (nI 1, sI U1 122 11 (nI (5 * j + 4 + 1))) := tk.1 y
          rw [t1, bd_e, if_neg (show ¬ nI 1 = 0 by decide)]
          have s4 : stN t (12 - m) (5 * j + 4) = true := by rw [st_4]; exact decide_eq_true y.2
          have hj' : 5 * j + 5 ≤ 59 := by omega
          have l0 := (r3 0 (by omega)).2
          rw [Nat.add_zero, st_0] at l0
          have l0 := (of_decide_eq_true l0).1
          refine ih (j + 1) _ _ (by omega) (by omega) rfl ?_ ?_ ?_ ?_ (by omega) ?_
          · rw [show 5 * (j + 1) = 5 * j + 4 + 1 by omega]
            exact hU1.at (by omega)
          · exact (r6 rfl).1
          · exact hF1.s2 (Or.inl rfl)
          · intro i hi
            by_cases x : i < 5 * j + 4
            · exact hst1 i x
            · rw [show i = 5 * j + 4 by omega]; exact s4
          · intro l i hl hi
            exact hrd1 rfl l i (by omega) hi
        · have t1 : f_X11_takes (59 : Int32) U1 = some (nI 0, U1) := tk.2 y
          rw [t1, bd_e, if_pos z00, out]
          refine ⟨5 * j + 4, U1, by rw [decide_eq_true (show (5 * j + 4) % 5 = 4 by omega)]; rfl, hU1, hst1, fun x => ?_, hF1, fun _ => ⟨?_, fun l i hl hi => hrd1 rfl l i (by omega) hi⟩⟩
          · rw [st_4]; exact decide_eq_false (fun w => y ⟨x, w⟩)
          · rw [(r6 rfl).1, show (5 * j + 4) / 5 + 1 = j + 1 by omega]
      · have er : flI (decide (r = 4)) = 0 := by rw [decide_eq_false z]; rfl
        rw [er, if_pos rfl, out]
        have e5 : ¬ (5 * j + r) % 5 = 4 := by omega
        refine ⟨5 * j + r, U1, by rw [decide_eq_false e5]; rfl, hU1, hst1, fun x => ?_, hF1, fun y => absurd y e5⟩
        rcases r4 (by omega) with q | q
        · omega
        · exact q
  exact key FU 0 _ T (by unfold FU; omega) (by omega) rfl h h15 (rpF.rf T 0) (fun i hi => by omega) (by omega) (fun l i hl => by omega)
