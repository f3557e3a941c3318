theorem txt {S : St} (h : RT S) : ∃ n t, n ≤ 80 ∧ gI S 1 1 = nI n ∧ gI S 122 10 = nI n ∧ TxC S t ∧ ∀ i, i < n → gI S 128 i = nI (t i) := by
  obtain ⟨n, n1, n2, n3, n4, n5⟩ := h
  refine ⟨n, fun i => (gI S 2 i).toNatClampNeg, n1, n2, n3, fun i hi => ?_, fun i hi => ?_⟩
  · obtain ⟨a, b, c⟩ := inR_n (n5 i hi) (by omega)
    exact ⟨a, c⟩
  · rw [← n4 i hi]; exact (inR_n (n5 i (by omega)) (by omega)).1
theorem st_48 {t : Nat → Nat} {rm i : Nat} (h : stN t rm i = true) (h4 : i % 5 ≠ 4) : 48 ≤ t i ∧ t i ≤ 57 ∧ (i % 5 ≤ 1 → t i ≤ 55) ∧ (i % 5 = 2 → 49 ≤ t i) ∧ (i % 5 = 1 → t i ≠ t (i - 1)) := by
  unfold stN at h
  by_cases g0 : i % 5 = 0
  · rw [if_pos g0] at h
    have := of_decide_eq_true h
    exact ⟨by omega, by omega, fun _ => by omega, fun _ => by omega, fun _ => by omega⟩
  · rw [if_neg g0] at h
    by_cases g1 : i % 5 = 1
    · rw [if_pos g1] at h
      have := of_decide_eq_true h
      exact ⟨by omega, by omega, fun _ => by omega, fun _ => by omega, fun _ => this.2.2⟩
    · rw [if_neg g1] at h
      by_cases g2 : i % 5 = 2
      · rw [if_pos g2] at h
        have := of_decide_eq_true h
        exact ⟨by omega, by omega, fun _ => by omega, fun _ => by omega, fun _ => by omega⟩
      · rw [if_neg g2] at h
        by_cases g3 : i % 5 = 3
        · rw [if_pos g3] at h
          have := of_decide_eq_true h
          exact ⟨by omega, by omega, fun _ => by omega, fun _ => by omega, fun _ => by omega⟩
        · omega
def bg2 (S1 : St) (n : Nat) : St := sI (bgS (sI S1 122 0 0) (nI (min n 59))) 122 15 0
theorem pr_m {S1 : St} {n m p : Nat} {t : Nat → Nat} (h10 : gI S1 122 10 = nI n) (hn : n ≤ 80) (h0 : 0 < n) (h3 : gI S1 122 3 = nI m) (hm : m ≤ 12) (hx : ∀ i, i < n → gI S1 128 i = nI (t i) ∧ t i ≤ 255) (hp : p ≤ min n 59) (hs : ∀ i, i < p → stN t (12 - m) i = true) (he : p < min n 59 → stN t (12 - m) p = false) : ∃ T', f_X11_passages S1 = (if p = min n 59 ∧ p % 5 = 4 ∧ n ≤ 59 then lp (f_X11_passages_81b (fun v33 S34 => (if (gI S34 122 15) ≤ 0 then f_X11_passages_232 (gI S34 122 28) S34 else f_X11_passages_232 (0 : Int32) S34))) FU (0 : Int32) T' else some (-1 - nI p, T')) ∧ rpF (bg2 S1 n) T' 0 ∧ (p % 5 = 4 → gI T' 122 15 = nI (p / 5 + 1) ∧ ∀ l i, l ≤ p / 5 → i < 4 → gI T' 129 (4 * l + i) = nI (t (5 * l + i) - 48)) := by
  have hA : TaM (bg2 S1 n) 0 (min n 59) t := ⟨rfl, rfl, by omega, by omega, fun i hi => hx i (by omega)⟩
  unfold f_X11_passages
  have em : mnI (nI n) (59 : Int32) = nI (min n 59) := mnNI (a := n) (b := 59) (by omega) (by omega)
  rw [lt_e, begins_m, bd_e, lt_e, show gI (sI S1 122 0 0) 122 10 = nI n from h10, em, if_neg (show ¬ nI n ≤ 0 by rw [lit, nLe (by omega) (by omega)]; omega)]
  unfold f_X11_passages_28
  obtain ⟨p', T', q1, q2, q3, q4, q5, q6⟩ := rl_m hA (show gI (bg2 S1 n) 122 3 = nI m from h3) rfl hm (by omega) (nI n) (fun v28 S29 => bd (f_X11_faultOf (nI n) (59 : Int32) v28.1 S29) (fun r30 S31 => (if 0 ≤ r30 then lp (f_X11_passages_81b (fun v33 S34 => (if (gI S34 122 15) ≤ 0 then f_X11_passages_232 (gI S34 122 28) S34 else f_X11_passages_232 (0 : Int32) S34))) FU (0 : Int32) S31 else some (r30, S31))))
  have ep : p' = p := by
    have := q2.2.2.2.1
    by_cases g1 : p' < p
    · have a1 := hs p' g1
      rw [q4 (by omega)] at a1; cases a1
    · by_cases g2 : p < p'
      · have a1 := q3 p g2
        rw [he (by omega)] at a1; cases a1
      · omega
  subst ep
  refine ⟨T', q1.trans ?_, q5, q6⟩
  dsimp only
  have fl : f_X11_faultOf (nI n) (59 : Int32) (flI (decide (p' % 5 = 4))) T' = some (if decide (p' % 5 = 4) = true ∧ p' = min n 59 ∧ n ≤ 59 then 0 else -1 - nI p', T') := flt_m (most := 59) q2 rfl hn (by omega) _
  by_cases g : p' = min n 59 ∧ p' % 5 = 4 ∧ n ≤ 59
  · rw [if_pos (show decide (p' % 5 = 4) = true ∧ p' = min n 59 ∧ n ≤ 59 from ⟨decide_eq_true g.2.1, g.1, g.2.2⟩)] at fl
    rw [fl, bd_e, if_pos (show (0 : Int32) ≤ 0 by decide), if_pos g]
  · rw [if_neg (fun z : decide (p' % 5 = 4) = true ∧ p' = min n 59 ∧ n ≤ 59 => g ⟨z.2.1, of_decide_eq_true z.1, z.2.2⟩)] at fl
    rw [fl, bd_e, if_neg (ng0 (by omega)), if_neg g]
set_option maxRecDepth 16384 in
theorem eq_passages : EQ1 RelP f_X10_passages f_X11_passages := by
  apply EQ1.of
  intro S hS
  obtain ⟨hT, ⟨m, hC, hO, hH, hK⟩, hN, hR, hF, hE, hU⟩ := id hS
  obtain ⟨n, t, n1, n2, n3, n4, n5⟩ := txt hT
  have hm := hC.1
  by_cases h0 : n = 0
  · subst h0
    have c : f_X10_passages S = some (0, S) := by
      unfold f_X10_passages
      rw [lt_e, n2, if_pos z00]
    refine ⟨0, S, c, ?_⟩
    have e10 : sI (sI S 122 0 0) 122 10 0 = sI S 122 0 0 := sI_0 n3
    have hA : TaM (sI (bgS (sI S 122 0 0) (nI 0)) 122 15 0) 0 0 t := ⟨rfl, rfl, by omega, by omega, fun i hi => by omega⟩
    have hRel : RelP (sI (bgS (sI S 122 0 0) (nI 0)) 122 15 0) := by
      unfold bgS
      rw [e10]
      exact hS.sim ((((((Sim.rf S).sI rfl).sI rfl).sI rfl).sI rfl).sI rfl)
    have fl : f_X11_faultOf (nI 0) (59 : Int32) 1 (sI (bgS (sI S 122 0 0) (nI 0)) 122 15 0) = some (0, sI (bgS (sI S 122 0 0) (nI 0)) 122 15 0) := flt_m (n := 0) (most := 59) hA rfl (by omega) (by omega) true
    have w0 : (0 : Int32) ≤ 0 := by decide
    generalize hE2 : sI (bgS (sI S 122 0 0) (nI 0)) 122 15 0 = E at hRel fl
    have e15 : gI E 122 15 = 0 := by rw [← hE2]; rfl
    refine ⟨0, E, ?_, rfl, hRel⟩
    unfold f_X11_passages
    rw [lt_e, begins_m, bd_e, lt_e, show gI (sI S 122 0 0) 122 10 = nI 0 from n3, show mnI (nI 0) (59 : Int32) = nI 0 by decide, hE2, if_pos (show nI 0 ≤ 0 by decide)]
    unfold f_X11_passages_28
    refine lp_1 (fun k => ?_)
    unfold f_X11_passages_29b
    dsimp only
    rw [if_pos rfl, fl, bd_e, if_pos w0]
    refine lp_1 (fun k => ?_)
    unfold f_X11_passages_81b f_X11_passages_232 f_X11_passages_252
    dsimp only
    rw [e15, if_pos w0, if_pos w0, sI_0 rfl, lt_e, e15, if_pos w0, show f_X11_flag 0 E = some (0, E) from rfl, bd_e, lt_e, sI_0 (show gI E 122 4 = gI E 122 4 + 0 by rw [Int32.add_zero]), e15]
  · obtain ⟨p1', p2, p3⟩ := ld_a (stN t (12 - m)) (min n 59)
    generalize hp : ldN (stN t (12 - m)) (min n 59) = p at p1' p2 p3
    have e12 : (12 : Int32) - nI m = nI (12 - m) := nSub (a := 12) hm
    have fo := fol_c n4 n1 n2 (show 12 - m ≤ 12 by omega) p1' p2 p3
    have en : ¬ nI n = 0 := by rw [lit, nEq (by omega) (by omega)]; exact h0
    by_cases g : p = min n 59 ∧ p % 5 = 4 ∧ n ≤ 59
    · have epn : p = n := by omega
      subst epn
      have sL := p2 (5 * (p / 5)) (by omega)
      rw [st_0] at sL
      have sL := of_decide_eq_true sL
      obtain ⟨o, o1, o2, o3⟩ : ∃ o, 0 ≤ o ∧ o ≤ 2 ^ m - 1 ∧ gI S 6 3 = nI o := hO.2.1
      have om : o < 2 ^ m := by have : 0 < 2 ^ m := Nat.pow_pos (by omega); omega
      have ol := op_lt om (p / 5 + 1)
      have hd := fun i (hi : i < p) (h4 : i % 5 ≠ 4) => st_48 (p2 i hi) h4
      obtain ⟨T1, a1', a2⟩ := pl_c (B := sI S 1 1 0) (m := m) (L := p / 5 + 1) (n := p) (o := o) (t := t) hC.2.1 o3 (fun i hi => n4 i hi) (by omega) (by omega) (by omega) (fun i hi h4 => (hd i hi h4).1) (nI m) (fun v22 S23 => bd (f_X4_lose S23) (fun r24 S25 => some (((gI S25 3 2) - nI m), S25)))
      obtain ⟨S1, b1, b2, b3, b4, b5⟩ := lose_c T1
      have cls : f_X10_passages S = some (nI (p / 5 + 1), S1) := by
        unfold f_X10_passages
        rw [lt_e, n2, if_neg en, hC.2.1, e12, fo, if_pos g, bd_e, lt_e, if_pos rfl, lt_e, show gI (sI S 1 1 0) 3 2 = nI m from hC.2.1]
        refine a1'.trans ?_
        rw [b1, bd_e, b4 3 2 (by decide) (by decide), a2.2.2.1, nSub (by omega), show m + (p / 5 + 1) - m = p / 5 + 1 by omega]
      refine ⟨_, S1, cls, ?_⟩
      -- what of S stands in S1
      have k1 : ∀ a b, a ≠ 4 → a ≠ 5 → a ≠ 7 → a ≠ 8 → a ≠ 9 → a ≠ 91 → (a ≠ 6 ∨ b ≠ 3) → (a ≠ 3 ∨ b ≠ 2) → (a ≠ 12 ∨ b ≠ 2) → (a ≠ 1 ∨ b ≠ 1) → gI S1 a b = gI S a b := by
        intro a b h4 h5 h7 h8 h9 h91 h6 h3 h12 h1
        rw [b4 a b h91 h12, a2.2.2.2.1 a b h4 h5 h7 h8 h9 h6 h3, gI_s]
        by_cases e : a = 1
        · rw [if_pos e, if_neg (by omega)]
        · rw [if_neg e]
      have k2 : ∀ a b, 122 ≤ a → gI S1 a b = gI S a b := fun a b h => k1 a b (by omega) (by omega) (by omega) (by omega) (by omega) (by omega) (by omega) (by omega) (by omega) (by omega)
      have kL : ∀ a b, gL S1 a b = gL S a b := fun a b => (b5 a b).trans (a2.2.2.2.2 a b)
      obtain ⟨T', c1, c2, c3⟩ := pr_m (S1 := S1) (n := p) (m := m) (p := p) (t := t) ((k2 _ _ (by omega)).trans n3) n1 (by omega) ((k2 _ _ (by omega)).trans hC.2.2.1) hm (fun i hi => ⟨(k2 _ _ (by omega)).trans (n5 i hi), (n4 i (by omega)).2⟩) p1' p2 p3
      rw [if_pos g] at c1
      obtain ⟨c4, c5⟩ := c3 g.2.1
      have d1 : ∀ a b, a ≠ 129 → (a ≠ 122 ∨ (b ≠ 0 ∧ b ≠ 10 ∧ b ≠ 11 ∧ b ≠ 12 ∧ b ≠ 13 ∧ b ≠ 15)) → gI T' a b = gI S1 a b := by
        intro a b h1 h2
        rw [c2.1 a b h1 (by omega)]
        unfold bg2 bgS
        by_cases e : a = 122
        · subst e
          rw [gI_s, if_pos rfl, if_neg (by omega), gI_s, if_pos rfl, if_neg (by omega), gI_s, if_pos rfl, if_neg (by omega), gI_s, if_pos rfl, if_neg (by omega), gI_s, if_pos rfl, if_neg (by omega), gI_s, if_pos rfl, if_neg (by omega)]
        · rw [gI_s, if_neg e, gI_s, if_neg e, gI_s, if_neg e, gI_s, if_neg e, gI_s, if_neg e, gI_s, if_neg e]
      have dL : ∀ a b, gL T' a b = gL S1 a b := fun a b => c2.2.2 a b
      have o36 : gI T' 126 36 = nI o := by
        rw [d1 126 36 (by decide) (by decide), k2 126 36 (by omega), ← o3]
        exact hN.2.1.symm
      obtain ⟨c, cc1, cc2, cc3⟩ := hK
      obtain ⟨T3, e1, e2⟩ := pl_m (B := T') (m := m) (L := p / 5 + 1) (o := o) (t := t) (by rw [d1 122 3 (by decide) (by decide), k2 122 3 (by omega)]; exact hC.2.2.1) o36 c4 (by omega) (by omega) (fun l i hl hi => c5 l i (by omega) hi) (fun v33 S34 => (if (gI S34 122 15) ≤ 0 then f_X11_passages_232 (gI S34 122 28) S34 else f_X11_passages_232 (0 : Int32) S34))
      have f15 : gI T3 122 15 = nI (p / 5 + 1) := (e2.2.2.2.2.2.1 122 15 (by decide) (by decide) (by decide) (by decide)).trans c4
      have f4 : gI T3 122 4 = nI c := by rw [e2.2.2.2.2.2.1 122 4 (by decide) (by decide) (by decide) (by decide), d1 122 4 (by decide) (by decide), k2 122 4 (by omega)]; exact cc2
      have npos : ¬ nI (p / 5 + 1) ≤ (0 : Int32) := by rw [lit, nLe (by omega) (by omega)]; omega
      generalize hEE : sI (sI T3 122 28 0) 122 4 (nI (c + 1)) = E
      have ref : f_X11_passages S1 = some (nI (p / 5 + 1), E) := by
        refine c1.trans (e1.trans ?_)
        unfold f_X11_passages_232 f_X11_passages_252
        rw [f15, if_neg npos, lt_e, show gI (sI T3 122 28 0) 122 15 = nI (p / 5 + 1) from f15, if_neg npos, show gI (sI T3 122 28 0) 122 4 = nI c from f4, show f_X11_flag 1 (sI T3 122 28 0) = some (1, sI T3 122 28 0) from rfl, bd_e, lt_e, a1, hEE, ← hEE, show gI (sI (sI T3 122 28 0) 122 4 (nI (c + 1))) 122 15 = nI (p / 5 + 1) from f15]
      refine ⟨_, E, ref, rfl, ?_⟩
      -- what stands in the end
      have s0 : ∀ a b, (a ≠ 122 ∨ (b ≠ 28 ∧ b ≠ 4)) → gI E a b = gI T3 a b := by
        intro a b h
        rw [← hEE, gI_s]
        by_cases e : a = 122
        · rw [if_pos e, if_neg (by omega), gI_s, if_pos e, if_neg (by omega)]
        · rw [if_neg e, gI_s, if_neg e]
      have s1 : ∀ a b, a ≠ 124 → a ≠ 125 → a ≠ 126 → a ≠ 129 → (a ≠ 122 ∨ (b ≠ 0 ∧ b ≠ 3 ∧ b ≠ 4 ∧ b ≠ 10 ∧ b ≠ 11 ∧ b ≠ 12 ∧ b ≠ 13 ∧ b ≠ 15 ∧ b ≠ 28)) → gI E a b = gI S1 a b := by
        intro a b h4 h5 h6 h9 h2
        rw [s0 a b (by omega), e2.2.2.2.2.2.1 a b h4 h5 h6 (by omega), d1 a b h9 (by omega)]
      have s2 : ∀ a b, a ≠ 4 → a ≠ 5 → a ≠ 7 → a ≠ 8 → a ≠ 9 → a ≠ 91 → (a ≠ 6 ∨ b ≠ 3) → (a ≠ 3 ∨ b ≠ 2) → (a ≠ 12 ∨ b ≠ 2) → (a ≠ 1 ∨ b ≠ 1) → a ≠ 124 → a ≠ 125 → a ≠ 126 → a ≠ 129 → (a ≠ 122 ∨ (b ≠ 0 ∧ b ≠ 3 ∧ b ≠ 4 ∧ b ≠ 10 ∧ b ≠ 11 ∧ b ≠ 12 ∧ b ≠ 13 ∧ b ≠ 15 ∧ b ≠ 28)) → gI E a b = gI S a b := fun a b h1 h2 h3 h4 h5 h6 h7 h8 h9 h10 h11 h12 h13 h14 h15 => (s1 a b h11 h12 h13 h14 h15).trans (k1 a b h1 h2 h3 h4 h5 h6 h7 h8 h9 h10)
      have sL' : ∀ a b, gL E a b = gL S a b := fun a b => by
        have : gL E a b = gL T3 a b := by rw [← hEE]; rfl
        rw [this, e2.2.2.2.2.2.2 a b, dL, kL]
      have s3 : ∀ a b, a = 0 ∨ a = 2 ∨ a = 10 ∨ (101 ≤ a ∧ a ≤ 121) ∨ (a = 122 ∧ (b = 1 ∨ b = 18 ∨ b = 39 ∨ b = 42)) ∨ a = 130 ∨ (146 ≤ a ∧ a ≤ 150) ∨ a = 155 ∨ a = 156 → gI E a b = gI S a b := by
        intro a b h
        refine s2 a b ?_ ?_ ?_ ?_ ?_ ?_ ?_ ?_ ?_ ?_ ?_ ?_ ?_ ?_ ?_ <;> omega
      have r4 : ∀ k, gI E 4 k = adF m (p / 5 + 1) 0 t (gI S 4) k := fun k => (s1 4 k (by decide) (by decide) (by decide) (by decide) (Or.inl (by decide))).trans ((b4 4 k (by decide) (Or.inl (by decide))).trans (a2.1 k).1)
      have r5 : ∀ k, gI E 5 k = adF m (p / 5 + 1) 1 t (gI S 5) k := fun k => (s1 5 k (by decide) (by decide) (by decide) (by decide) (Or.inl (by decide))).trans ((b4 5 k (by decide) (Or.inl (by decide))).trans (a2.1 k).2.1)
      have r7 : ∀ k, gI E 7 k = adF m (p / 5 + 1) 2 t (gI S 7) k := fun k => (s1 7 k (by decide) (by decide) (by decide) (by decide) (Or.inl (by decide))).trans ((b4 7 k (by decide) (Or.inl (by decide))).trans (a2.1 k).2.2.1)
      have r8 : ∀ k, gI E 8 k = adF m (p / 5 + 1) 3 t (gI S 8) k := fun k => (s1 8 k (by decide) (by decide) (by decide) (by decide) (Or.inl (by decide))).trans ((b4 8 k (by decide) (Or.inl (by decide))).trans (a2.1 k).2.2.2.1)
      have r9 : ∀ k, gI E 9 k = adZ m (p / 5 + 1) (gI S 9) k := fun k => (s1 9 k (by decide) (by decide) (by decide) (by decide) (Or.inl (by decide))).trans ((b4 9 k (by decide) (Or.inl (by decide))).trans (a2.1 k).2.2.2.2)
      have r63 : gI E 6 3 = nI (opN o m (p / 5 + 1)) := (s1 6 3 (by decide) (by decide) (by decide) (by decide) (by decide)).trans ((b4 6 3 (by decide) (by decide)).trans a2.2.1)
      have r32 : gI E 3 2 = nI (m + (p / 5 + 1)) := (s1 3 2 (by decide) (by decide) (by decide) (by decide) (by decide)).trans ((b4 3 2 (by decide) (by decide)).trans a2.2.2.1)
      have t1 : ∀ a k, a = 124 ∨ a = 125 ∨ a = 126 → gI T' a k = gI S a k := fun a k h => (d1 a k (by omega) (by omega)).trans (k2 a k (by omega))
      have g124 : ∀ k, k < 12 → gI E 124 k = adF m (p / 5 + 1) 0 t (gI S 124) k := fun k hk => by
        rw [s0 124 k (by omega), (e2.1 k hk).1]
        unfold adF
        rw [t1 124 k (by omega)]
      have g125 : ∀ k, k < 12 → gI E 125 k = adF m (p / 5 + 1) 1 t (gI S 125) k := fun k hk => by
        rw [s0 125 k (by omega), (e2.1 k hk).2.1]
        unfold adF
        rw [t1 125 k (by omega)]
      have g126 : ∀ k, k < 12 → gI E 126 k = adF m (p / 5 + 1) 2 t (gI S 126) k := fun k hk => by
        rw [s0 126 k (by omega), (e2.1 k hk).2.2.1]
        unfold adF
        rw [t1 126 k (by omega)]
      have g126b : ∀ k, k < 12 → gI E 126 (12 + k) = adF m (p / 5 + 1) 3 t (fun k => gI S 126 (12 + k)) k := fun k hk => by
        rw [s0 126 _ (by omega), (e2.1 k hk).2.2.2.1]
        unfold adF
        dsimp only
        rw [t1 126 _ (by omega)]
      have g126c : ∀ k, k < 12 → gI E 126 (24 + k) = adZ m (p / 5 + 1) (fun k => gI S 126 (24 + k)) k := fun k hk => by
        rw [s0 126 _ (by omega), (e2.1 k hk).2.2.2.2]
        unfold adZ
        dsimp only
        rw [t1 126 _ (by omega)]
      have bnd : ∀ k q, m ≤ k → k < m + (p / 5 + 1) → q < 4 → 48 ≤ t (5 * (k - m) + q) ∧ t (5 * (k - m) + q) ≤ 57 ∧ (q ≤ 1 → t (5 * (k - m) + q) ≤ 55) ∧ (q = 2 → 49 ≤ t (5 * (k - m) + q)) ∧ (q = 1 → t (5 * (k - m) + q) ≠ t (5 * (k - m) + q - 1)) := by
        intro k q h1 h2 h3
        obtain ⟨x1, x2, x3, x4, x5⟩ := hd (5 * (k - m) + q) (by omega) (by omega)
        exact ⟨x1, x2, fun z => x3 (by omega), fun z => x4 (by omega), fun z => x5 (by omega)⟩
      refine ⟨⟨0, by omega, ?_, ?_, fun i hi => by omega, fun i hi => ?_⟩, ⟨m + (p / 5 + 1), ⟨by omega, r32, ?_, fun i hi => ?_⟩, ⟨fun i hi => ?_, ?_, ?_⟩, ?_, ?_⟩, ⟨fun i hi => ?_, ?_, ?_, ?_⟩, ?_, ?_, ?_, ?_⟩
      · rw [s1 1 1 (by decide) (by decide) (by decide) (by decide) (by decide), b4 1 1 (by decide) (by decide), a2.2.2.2.1 1 1 (by decide) (by decide) (by decide) (by decide) (by decide) (by decide) (by decide)]; rfl
      · rw [s0 122 10 (by decide), e2.2.2.2.2.2.1 122 10 (by decide) (by decide) (by decide) (by decide), c2.1 122 10 (by decide) (by decide)]; rfl
      · rw [s3 2 i (by omega)]; exact ⟨t i, by omega, (n4 i hi).2, (n4 i hi).1⟩
      · rw [s0 122 3 (by decide)]; exact e2.2.2.2.2.1
      · rw [r4, r5, g124 i (by omega), g125 i (by omega)]
        unfold adF
        by_cases z : m ≤ i ∧ i < m + (p / 5 + 1)
        · obtain ⟨x1, x2, x3, _, _⟩ := bnd i 0 z.1 z.2 (by omega)
          obtain ⟨y1, y2, y3, _, y5⟩ := bnd i 1 z.1 z.2 (by omega)
          have x3 := x3 (by omega)
          have y3 := y3 (by omega)
          have y5 := y5 rfl
          rw [show 5 * (i - m) + 1 - 1 = 5 * (i - m) + 0 by omega] at y5
          rw [if_pos z, if_pos z, if_pos z, if_pos z]
          refine ⟨rfl, rfl, ⟨_, by omega, ?_, rfl⟩, ⟨_, by omega, ?_, rfl⟩, ?_⟩
          · omega
          · omega
          · rw [Ne, nEq (by omega) (by omega)]; omega
        · rw [if_neg z, if_neg z, if_neg z, if_neg z]
          exact hC.2.2.2 i (by omega)
      · rw [show gI E (6 + 1) i = _ from r7 i, show gI E (6 + 2) i = _ from r8 i, show gI E (6 + 3) i = _ from r9 i]
        unfold adF adZ
        by_cases z : m ≤ i ∧ i < m + (p / 5 + 1)
        · obtain ⟨x1, x2, _, x4, _⟩ := bnd i 2 z.1 z.2 (by omega)
          obtain ⟨y1, y2, _, _, _⟩ := bnd i 3 z.1 z.2 (by omega)
          have x4 := x4 rfl
          rw [if_pos z, if_pos z, if_pos z]
          refine ⟨⟨_, ?_, ?_, rfl⟩, ⟨_, by omega, ?_, rfl⟩, ⟨0, by omega, by omega, rfl⟩⟩ <;> omega
        · rw [if_neg z, if_neg z, if_neg z]
          exact hO.1 i (by omega)
      · exact ⟨opN o m (p / 5 + 1), by omega, by omega, r63⟩
      · rw [s2 6 5 (by decide) (by decide) (by decide) (by decide) (by decide) (by decide) (by decide) (by decide) (by decide) (by decide) (by decide) (by decide) (by decide) (by decide) (by decide)]
        exact hO.2.2
      · obtain ⟨u, f, u1, u2, u3, u4, u5, u6⟩ := hH
        refine ⟨0, f, by omega, u2, ?_, ?_, ?_, fun j hj => by omega⟩
        · rw [s1 12 2 (by decide) (by decide) (by decide) (by decide) (by decide)]; exact b2
        · rw [← hEE]; rfl
        · rw [s2 12 1 (by decide) (by decide) (by decide) (by decide) (by decide) (by decide) (by decide) (by decide) (by decide) (by decide) (by decide) (by decide) (by decide) (by decide) (by decide)]; exact u5
      · refine ⟨c + 1, by omega, by rw [← hEE]; rfl, fun i hi => ?_⟩
        obtain ⟨x1, x2, ⟨y, y1, y2, y3⟩, x4, x5⟩ := cc3 i hi
        have z91 : gI E 91 i = 0 := (s1 91 i (by decide) (by decide) (by decide) (by decide) (Or.inl (by decide))).trans (b3 i hi)
        rw [z91, s3 155 i (by omega), s3 156 i (by omega)]
        refine ⟨Or.inl rfl, x2, ⟨y, y1, by omega, y3⟩, ⟨fun z => absurd z (by decide), fun z => ?_⟩, fun z => absurd z (by decide)⟩
        have := z.2
        rw [y3, nEq (by omega) (by omega)] at this
        omega
      · obtain ⟨x1, x2, x3⟩ := hN.1 i hi
        rw [show gI E (6 + 1) i = _ from r7 i, show gI E (6 + 2) i = _ from r8 i, show gI E (6 + 3) i = _ from r9 i, Nat.zero_add, g126 i hi, show 0 + 12 + i = 12 + i by omega, g126b i hi, show 0 + 24 + i = 24 + i by omega, g126c i hi]
        rw [show 0 + i = i by omega] at x1
        rw [show 0 + 12 + i = 12 + i by omega] at x2
        rw [show 0 + 24 + i = 24 + i by omega] at x3
        unfold adF adZ
        by_cases z : m ≤ i ∧ i < m + (p / 5 + 1)
        · rw [if_pos z, if_pos z, if_pos z, if_pos z, if_pos z, if_pos z]
          exact ⟨rfl, rfl, rfl⟩
        · rw [if_neg z, if_neg z, if_neg z, if_neg z, if_neg z, if_neg z]
          exact ⟨x1, x2, x3⟩
      · rw [r63, s0 126 _ (by omega)]; exact e2.2.1.symm
      · rw [s2 6 4 (by decide) (by decide) (by decide) (by decide) (by decide) (by decide) (by decide) (by decide) (by decide) (by decide) (by decide) (by decide) (by decide) (by decide) (by decide), s0 126 _ (by omega), hN.2.2.1]
        exact ((e2.2.2.1).trans (t1 126 37 (by omega))).symm
      · rw [s2 6 5 (by decide) (by decide) (by decide) (by decide) (by decide) (by decide) (by decide) (by decide) (by decide) (by decide) (by decide) (by decide) (by decide) (by decide) (by decide), s0 126 _ (by omega), hN.2.2.2]
        exact ((e2.2.2.2.1).trans (t1 126 38 (by omega))).symm
      · exact hR.fr (s3 10 1 (by omega)) (s3 122 1 (by omega)) (fun k => sL' 11 k) (fun k => sL' 123 k)
      · exact hF.fr (s3 101 3 (by omega)) (s3 122 39 (by omega)) (fun k => s3 102 k (by omega)) (fun k => s3 103 k (by omega)) (fun k => s3 146 k (by omega)) (fun k => s3 147 k (by omega))
      · exact hE.fr (s3 104 3 (by omega)) (s3 122 42 (by omega)) (fun k => s3 105 k (by omega)) (fun k => s3 106 k (by omega)) (fun k => s3 107 k (by omega)) (fun k => s3 148 k (by omega)) (fun k => s3 149 k (by omega)) (fun k => s3 150 k (by omega))
      · exact hU.fr (s3 0 8 (by omega)) (s3 0 9 (by omega)) (s3 110 1 (by omega)) (s3 115 1 (by omega)) (s3 122 18 (by omega)) (fun k => s3 111 k (by omega)) (fun k => s3 116 k (by omega)) (fun k => s3 130 k (by omega))
    · have cls : f_X10_passages S = some (-1 - nI p, sI S 1 1 0) := by
        unfold f_X10_passages
        rw [lt_e, n2, if_neg en, hC.2.1, e12, fo, if_neg g, bd_e, lt_e, if_neg (nne (by omega))]
      refine ⟨_, _, cls, ?_⟩
      obtain ⟨T', c1, c2, c3⟩ := pr_m (S1 := sI S 1 1 0) (n := n) (m := m) (p := p) (t := t) n3 n1 (by omega) hC.2.2.1 hm (fun i hi => ⟨n5 i hi, (n4 i (by omega)).2⟩) p1' p2 p3
      rw [if_neg g] at c1
      refine ⟨_, T', c1, rfl, ?_⟩
      have q0 : QM (sI (sI S 1 1 0) 122 10 0) (bg2 (sI S 1 1 0) n) := by
        unfold bg2 bgS
        exact (((smcg (q00 (sI S 1 1 0) 0) 122 10 0).sI rfl).sI rfl |>.sI rfl).sI rfl
      refine relT hS (Sm.rf _) (q0.tr c2.q) rfl (fun _ => rfl) ?_ (fun k => ?_)
      · rw [c2.1 122 1 (by decide) (by decide)]; rfl
      · rw [c2.2.2 123 k]; rfl
