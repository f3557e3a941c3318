/-! undo, keep, again -/
theorem row_l {S : St} (o R n b : Nat) (hn : b + 39 ≤ n) (hR : o ≠ R) (body : (Int32 → St → Option (Int32 × St)) → Int32 → St → Option (Int32 × St)) (out : St → Option (Int32 × St)) (hb : ∀ i T k, i < 39 → (∀ a c, a ≠ o → gI T a c = gI S a c) → body k (nI i) T = k (nI (i + 1)) (sI T o i (gI T R (b + i)))) (h0 : ∀ T k, (∀ a c, a ≠ o → gI T a c = gI S a c) → body k (nI 39) T = out T) : lp body FU (nI 0) S = out (sR S o (fun k => if k < 39 then gI S R (b + k) else gI S o k)) := by
  have e0 : sR S o (fun k => if k < 0 then gI S R (b + k) else gI S o k) = S := sR_0 (fun k => if_neg (by omega))
  have := lp_for (body := body) 39 (fun i => (nI i, sR S o (fun k => if k < i then gI S R (b + k) else gI S o k))) (out := out (sR S o (fun k => if k < 39 then gI S R (b + k) else gI S o k))) (fun i k hi => ?_) (fun k => ?_) FU 0 (by omega) (by unfold FU; omega)
  · simp only [e0] at this; exact this
  · have q : gI (sR S o (fun k => if k < i then gI S R (b + k) else gI S o k)) R (b + i) = gI S R (b + i) := by rw [gI_r, if_neg (fun e => hR e.symm)]
    rw [hb i _ k hi (fun a c ha => by rw [gI_r, if_neg ha]), q, sR_I]
    congr 1
    apply sR_e
    intro j
    by_cases ej : j = i
    · rw [if_pos ej, if_pos (by omega), ej]
    · rw [if_neg ej]
      by_cases ek : j < i
      · rw [if_pos ek, if_pos (by omega)]
      · rw [if_neg ek, if_neg (by omega)]
  · exact h0 _ k (fun a c ha => by rw [gI_r, if_neg ha])
theorem eq_undo : EQ1 RelP f_X10_undo f_X11_undo := by
  apply EQ1.of
  intro S hS
  obtain ⟨m, u, f, hR, hO, hN, hw⟩ := hS.r
  have hm : m ≤ 12 := hR.2.1.1
  obtain ⟨h1, h2, h3, h4, h5, h6⟩ := id hw
  by_cases hu : u = 0
  · subst hu
    unfold f_X10_undo f_X11_undo
    rw [if_pos (show gI S 12 2 = 0 from h3)]
    refine Wp.rt ?_
    rw [lt_e, if_pos (show gI (sI S 122 0 0) 122 28 = 0 from h4)]
    exact Wp.rt ⟨rfl, hS.th⟩
  have z0 : ¬ nI u = 0 := by rw [lit, nEq (by omega) (by omega)]; exact hu
  have hmx : mxI 0 (nI u - 1) = nI (u - 1) := by
    rw [lit, lit, nSub (by omega)]; unfold mxI
    by_cases g : u = 1
    · subst g; rw [if_neg (by decide)]
    · rw [if_pos (by rw [nLt (by omega) (by omega)]; omega)]
  obtain ⟨x1, x2⟩ := h6 (u - 1) (by omega)
  have sl : (f + (u - 1)) % 16 < 16 := by omega
  unfold f_X10_undo f_X4_latest
  rw [h3, if_neg z0, hmx, lt_e]
  have hw1 : f_X4_marked (sI S 12 2 (nI (u - 1))) = some (14 + 4 * ((f + (u - 1)) % 16), sI S 12 2 (nI (u - 1))) := by
    unfold f_X4_marked
    have a1 : gI (sI S 12 2 (nI (u - 1))) 12 1 = nI f := h5
    have a2 : gI (sI S 12 2 (nI (u - 1))) 12 2 = nI (u - 1) := rfl
    simp (disch := omega) only [lt_e, a1, a2, lit, inb_nI, nLt, nLe, nEq, nAdd, nI_t, nMul, nSub, nRem, sl, if_true, zr13 sl]
  rw [hw1, bd_e, if_pos (ist sl), bd_e, if_pos (ist sl), take_e _ _ _ (by omega), bd_e]
  refine Wp.rt ?_
  generalize hs : 14 + 4 * ((f + (u - 1)) % 16) = s at *
  generalize hT : tk (sI S 12 2 (nI (u - 1))) 6 s = T
  have t0 : ∀ o k, (o < 6 ∨ 9 < o) → (o ≠ 12 ∨ k ≠ 2) → gI T o k = gI S o k := by
    intro o k ho hk
    rw [← hT, tk_off (by omega), gI_s]
    by_cases e : o = 12
    · rw [if_pos e, if_neg (by omega)]
    · rw [if_neg e]
  have t2 : gI T 12 2 = nI (u - 1) := by rw [← hT, tk_off (by omega)]; rfl
  have tL : ∀ o k, gL T o k = gL S o k := fun o k => by rw [← hT]; rfl
  unfold f_X11_undo
  have k1 : gI (sI T 122 0 0) 122 28 = nI u := by rw [gI_s, if_pos rfl, if_neg (by omega), t0 _ _ (by omega) (by omega), h4]
  have k2 : nI u - 1 = nI (u - 1) := by rw [lit, nSub (by omega)]
  rw [lt_e, k1, if_neg z0, k2, lt_e]
  generalize hU : sI (sI T 122 0 0) 122 28 (nI (u - 1)) = U
  have u28 : gI U 122 28 = nI (u - 1) := by rw [← hU]; rfl
  have hl := row_l (S := U) 126 137 624 (39 * (u - 1)) (by omega) (by omega) (f_X11_undo_26b (fun v6 S7 => some ((gI S7 122 28), S7))) (fun T => some ((gI T 122 28), T)) (by
    intro i T k hi hT
    unfold f_X11_undo_26b
    have q0 : gI T 122 28 = nI (u - 1) := (hT _ _ (by omega)).trans u28
    have q1 : 39 * (u - 1) + i < 624 := by omega
    simp (disch := omega) only [q0, lit, inb_nI, nLt, nLe, nEq, nAdd, nI_t, nMul, nSub, lt_e, if_true, if_false, q1, hi, show ¬ 39 ≤ i by omega]) (by
    intro T k hT
    unfold f_X11_undo_26b
    simp (disch := omega) only [lit, inb_nI, nLt, nLe, nEq, nAdd, nI_t, nMul, nSub, lt_e, if_true, Nat.le_refl])
  rw [show (0 : Int32) = nI 0 from rfl, hl]
  refine Wp.rt ⟨?_, ?_⟩
  · rw [gI_r, if_neg (by omega), u28, t2]
  generalize hE : sR U 126 _ = E
  have e0 : ∀ o k, o ≠ 126 → (o ≠ 122 ∨ (k ≠ 0 ∧ k ≠ 28)) → gI E o k = gI T o k := by
    intro o k h1 h2
    rw [← hE, gI_r, if_neg h1, ← hU, gI_s]
    by_cases e : o = 122
    · rw [if_pos e, if_neg (by omega), gI_s, if_pos e, if_neg (by omega)]
    · rw [if_neg e, gI_s, if_neg e]
  have e126 : ∀ k, k < 39 → gI E 126 k = gI S 137 (39 * (u - 1) + k) := by
    intro k hk
    rw [← hE, gI_r, if_pos rfl, if_pos hk, ← hU]
    exact t0 137 _ (by omega) (by omega)
  have sE : Same domR S E := by
    rw [← hE, ← hU]
    refine Same.sR (Same.sI (Same.sI ?_ rfl) rfl) (fun _ => rfl)
    refine ⟨fun a b hab => ?_, fun k => ⟨tL _ _, tL _ _⟩⟩
    by_cases q : a < 6 ∨ 9 < a
    · refine t0 a b q ?_
      by_cases q2 : a = 12
      · subst q2; cases hab
      · exact Or.inl q2
    · have : a = 6 ∨ a = 7 ∨ a = 8 ∨ a = 9 := by omega
      rcases this with rfl | rfl | rfl | rfl <;> cases hab
  have x1' : SEq (sI S 12 2 (nI (u - 1))) s 137 (39 * (u - 1)) := x1.fr (fun q k hq => by rw [gI_s, if_neg (by omega)]) (fun k _ _ => rfl)
  have x2' : SOk (sI S 12 2 (nI (u - 1))) m s := x2.fr (fun q k hq => by rw [gI_s, if_neg (by omega)])
  have hq : ∀ q k, q ≤ 3 → gI E (6 + q) k = gI (tk (sI S 12 2 (nI (u - 1))) 6 s) (6 + q) k := by
    intro q k hq
    rw [e0 _ _ (by omega) (by omega), hT]
  refine (hR.sm sE).p (x2'.tk hm hq) (x1'.tk hq (fun k hk => by rw [Nat.zero_add, e126 k hk]; rfl)) ?_
  refine ⟨u - 1, f, by omega, h2, (e0 _ _ (by omega) (by omega)).trans t2, ?_, (e0 _ _ (by omega) (by omega)).trans ((t0 _ _ (by omega) (by omega)).trans h5), fun j hj => ?_⟩
  · rw [← hE, gI_r, if_neg (by omega)]; exact u28
  · obtain ⟨y1, y2⟩ := h6 j (by omega)
    have hh : ∀ q k, q ≤ 3 → gI E (14 + 4 * ((f + j) % 16) + q) k = gI S (14 + 4 * ((f + j) % 16) + q) k := fun q k hq => (e0 _ _ (by omega) (by omega)).trans (t0 _ _ (by omega) (by omega))
    exact ⟨y1.fr hh (fun k _ _ => (e0 _ _ (by omega) (by omega)).trans (t0 _ _ (by omega) (by omega))), y2.fr hh⟩
theorem row_m {S : St} (o R b : Nat) (hR : o ≠ R) (body : (Int32 → St → Option (Int32 × St)) → Int32 → St → Option (Int32 × St)) (out : St → Option (Int32 × St)) (hb : ∀ i T k, i < 39 → (∀ a c, a ≠ o → gI T a c = gI S a c) → body k (nI i) T = k (nI (i + 1)) (sI T o (b + i) (gI T R i))) (h0 : ∀ T k, (∀ a c, a ≠ o → gI T a c = gI S a c) → body k (nI 39) T = out T) : lp body FU (nI 0) S = out (sR S o (fun k => if b ≤ k ∧ k < b + 39 then gI S R (k - b) else gI S o k)) := by
  have e0 : sR S o (fun k => if b ≤ k ∧ k < b + 0 then gI S R (k - b) else gI S o k) = S := sR_0 (fun k => if_neg (by omega))
  have := lp_for (body := body) 39 (fun i => (nI i, sR S o (fun k => if b ≤ k ∧ k < b + i then gI S R (k - b) else gI S o k))) (out := out (sR S o (fun k => if b ≤ k ∧ k < b + 39 then gI S R (k - b) else gI S o k))) (fun i k hi => ?_) (fun k => ?_) FU 0 (by omega) (by unfold FU; omega)
  · simp only [e0] at this; exact this
  · have q : gI (sR S o (fun k => if b ≤ k ∧ k < b + i then gI S R (k - b) else gI S o k)) R i = gI S R i := by rw [gI_r, if_neg (fun e => hR e.symm)]
    rw [hb i _ k hi (fun a c ha => by rw [gI_r, if_neg ha]), q, sR_I]
    congr 1
    apply sR_e
    intro j
    by_cases ej : j = b + i
    · rw [if_pos ej, if_pos (by omega)]; congr 1; omega
    · rw [if_neg ej]
      by_cases ek : b ≤ j ∧ j < b + i
      · rw [if_pos ek, if_pos (by omega)]
      · rw [if_neg ek, if_neg (by omega)]
  · exact h0 _ k (fun a c ha => by rw [gI_r, if_neg ha])
theorem eq_keep (a1 : Int32) : EQ1 RelP (f_X10_keep a1) (f_X11_keep a1) := by
  apply EQ1.of
  intro S hS
  by_cases g : ¬ a1 < nI 0 ∧ ¬ nI 2 < a1
  · obtain ⟨n, hn, rfl⟩ := as_le g.1 g.2
    obtain ⟨hT, ⟨m, hC, hO, hH, hK⟩, hN, hR, hF, hE, hU⟩ := id hS
    have hm : m ≤ 12 := hC.1
    have n3 : n < 3 := by omega
    unfold f_X10_keep f_X4_store
    have tb : vp_nar .boolean (1 : Int32) = nI 1 := rfl
    simp (disch := omega) only [lit, inb_nI, nLt, nLe, nEq, nAdd, nI_t, nMul, nSub, Nat.not_lt_zero, if_false, if_true, n3, zr78 n3, take_e _ (79 + 4 * n) 6 (by omega), lt_e, bd_e]
    simp only [Nat.reduceEqDiff, or_true, if_true, false_or]
    refine Wp.rt ?_
    generalize hA : sI (tk S (79 + 4 * n) 6) 91 n (vp_nar .boolean (nI 1)) = A
    have a0 : ∀ o k, (o < 79 ∨ 91 < o) → gI A o k = gI S o k := by
      intro o k ho
      rw [← hA, gI_s, if_neg (by omega), tk_off (by omega)]
    have a91 : ∀ k, gI A 91 k = if k = n then nI 1 else gI S 91 k := by
      intro k
      rw [← hA, gI_s, if_pos rfl]
      by_cases e : k = n
      · rw [if_pos e, if_pos e]; rfl
      · rw [if_neg e, if_neg e, tk_off (by omega)]
    have aL : ∀ o k, gL A o k = gL S o k := fun o k => by rw [← hA]; rfl
    have aT : ∀ o k, 79 ≤ o → o ≤ 90 → gI A o k = gI (tk S (79 + 4 * n) 6) o k := by
      intro o k h1 h2; rw [← hA, gI_s, if_neg (by omega)]
    unfold f_X11_keep
    simp only [lt_e, bd_e, fl3z, fl2z, fl6z, in0, in2, in_0_2, in_0_3, in_0_4, in_0_5, in_0_7, in_0_9, in_0_10, in_0_20, in_0_60, in_0_255, in_1_9, in_1_6, in_1_60, in_2_9, in_48_57, in_97_104, if_pos g]
    simp (disch := omega) only [lit, inb_nI, nLt, nLe, nEq, nAdd, nI_t, nMul, nSub, if_true, n3, gI_s, Nat.reduceEqDiff, if_false]
    generalize hP : sI (sI (sI A 122 0 (nI 0)) 155 n (vp_nar .boolean (nI 1))) 156 n (gI A 122 4) = P
    have p0 : ∀ o k, o ≠ 155 → o ≠ 156 → (o ≠ 122 ∨ k ≠ 0) → gI P o k = gI A o k := by
      intro o k h1 h2 h3
      rw [← hP, gI_s, if_neg h2, gI_s, if_neg h1, gI_s]
      by_cases e : o = 122
      · rw [if_pos e, if_neg (by omega)]
      · rw [if_neg e]
    have p155 : ∀ k, gI P 155 k = if k = n then nI 1 else gI S 155 k := by
      intro k; rw [← hP]
      show (if k = n then _ else gI A 155 k) = _
      rw [a0 _ _ (by omega)]; rfl
    have p156 : ∀ k, gI P 156 k = if k = n then gI S 122 4 else gI S 156 k := by
      intro k; rw [← hP]
      show (if k = n then gI A 122 4 else gI A 156 k) = _
      rw [a0 _ _ (by omega), a0 _ _ (by omega)]
    have pL : ∀ o k, gL P o k = gL S o k := fun o k => by rw [← hP]; exact aL o k
    have hl := row_m (S := P) 157 126 (39 * n) (by omega) (f_X11_keep_38b (nI n) (fun v12 S13 => some (nI 1, S13))) (fun T => some (nI 1, T)) (by
      intro i T k hi hT
      unfold f_X11_keep_38b
      have q1 : 39 * n + i < 117 := by omega
      simp (disch := omega) only [lit, inb_nI, nLt, nLe, nEq, nAdd, nI_t, nMul, nSub, lt_e, if_true, if_false, q1, hi, show ¬ 39 ≤ i by omega]) (by
      intro T k hT
      unfold f_X11_keep_38b
      simp (disch := omega) only [lit, inb_nI, nLt, nLe, nEq, nAdd, nI_t, nMul, nSub, lt_e, if_true, Nat.le_refl])
    rw [hl]
    refine Wp.rt ⟨rfl, ?_⟩
    generalize hE2 : sR P 157 _ = E
    have e0 : ∀ o k, o ≠ 157 → gI E o k = gI P o k := fun o k h => by rw [← hE2, gI_r, if_neg h]
    have e157 : ∀ k, gI E 157 k = if 39 * n ≤ k ∧ k < 39 * n + 39 then gI S 126 (k - 39 * n) else gI S 157 k := by
      intro k
      rw [← hE2, gI_r, if_pos rfl, p0 _ _ (by omega) (by omega) (by omega), p0 _ _ (by omega) (by omega) (by omega), a0 _ _ (by omega), a0 _ _ (by omega)]
    have eL : ∀ o k, gL E o k = gL S o k := fun o k => by rw [← hE2]; exact pL o k
    have z : ∀ o k, (o < 79 ∨ 91 < o) → o ≠ 155 → o ≠ 156 → o ≠ 157 → (o ≠ 122 ∨ k ≠ 0) → gI E o k = gI S o k := by
      intro o k h1 h2 h3 h4 h5
      rw [e0 _ _ h4, p0 _ _ h2 h3 h5, a0 _ _ h1]
    have zz : ∀ o k, o < 79 → gI E o k = gI S o k := fun o k h => z o k (by omega) (by omega) (by omega) (by omega) (by omega)
    have zm : ∀ o k, 91 < o → o < 155 → o ≠ 122 → gI E o k = gI S o k := fun o k h1 h2 h3 => z o k (by omega) (by omega) (by omega) (by omega) (by omega)
    have zk : ∀ k, k ≠ 0 → gI E 122 k = gI S 122 k := fun k h => z _ k (by omega) (by omega) (by omega) (by omega) (by omega)
    refine ⟨hT.fr (zz _ _ (by omega)) (zk _ (by omega)) (fun k => zz _ _ (by omega)) (fun k => zm _ _ (by omega) (by omega) (by omega)), ⟨m, hC.fr (zz _ _ (by omega)) (zk _ (by omega)) (fun k => zz _ _ (by omega)) (fun k => zz _ _ (by omega)) (fun k => zm _ _ (by omega) (by omega) (by omega)) (fun k => zm _ _ (by omega) (by omega) (by omega)), hO.fr (fun q k hq => zz _ _ (by omega)), ?_, ?_⟩, hN.fr (fun q k hq => zz _ _ (by omega)) (fun k _ _ => zm _ _ (by omega) (by omega) (by omega)), hR.fr (zz _ _ (by omega)) (zk _ (by omega)) (fun k => eL _ _) (fun k => eL _ _), hF.fr (zm _ _ (by omega) (by omega) (by omega)) (zk _ (by omega)) (fun k => zm _ _ (by omega) (by omega) (by omega)) (fun k => zm _ _ (by omega) (by omega) (by omega)) (fun k => zm _ _ (by omega) (by omega) (by omega)) (fun k => zm _ _ (by omega) (by omega) (by omega)), hE.fr (zm _ _ (by omega) (by omega) (by omega)) (zk _ (by omega)) (fun k => zm _ _ (by omega) (by omega) (by omega)) (fun k => zm _ _ (by omega) (by omega) (by omega)) (fun k => zm _ _ (by omega) (by omega) (by omega)) (fun k => zm _ _ (by omega) (by omega) (by omega)) (fun k => zm _ _ (by omega) (by omega) (by omega)) (fun k => zm _ _ (by omega) (by omega) (by omega)), hU.fr (zz _ _ (by omega)) (zz _ _ (by omega)) (zm _ _ (by omega) (by omega) (by omega)) (zm _ _ (by omega) (by omega) (by omega)) (zk _ (by omega)) (fun k => zm _ _ (by omega) (by omega) (by omega)) (fun k => zm _ _ (by omega) (by omega) (by omega)) (fun k => zm _ _ (by omega) (by omega) (by omega))⟩
    · obtain ⟨u, f, u1, u2, u3, u4, u5, u6⟩ := hH
      refine ⟨u, f, u1, u2, (zz _ _ (by omega)).trans u3, (zk _ (by omega)).trans u4, (zz _ _ (by omega)).trans u5, fun j hj => ?_⟩
      obtain ⟨y1, y2⟩ := u6 j hj
      exact ⟨y1.fr (fun q k hq => zz _ _ (by omega)) (fun k _ _ => zm _ _ (by omega) (by omega) (by omega)), y2.fr (fun q k hq => zz _ _ (by omega))⟩
    · obtain ⟨c, c1, c2, c3⟩ := hK
      refine ⟨c, c1, (zk _ (by omega)).trans c2, fun i hi => ?_⟩
      have e91 : gI E 91 i = if i = n then nI 1 else gI S 91 i := by rw [e0 _ _ (by omega), p0 _ _ (by omega) (by omega) (by omega), a91]
      have e155 : gI E 155 i = if i = n then nI 1 else gI S 155 i := by rw [e0 _ _ (by omega), p155]
      have e156 : gI E 156 i = if i = n then gI S 122 4 else gI S 156 i := by rw [e0 _ _ (by omega), p156]
      have eT : ∀ q k, q ≤ 3 → gI E (79 + 4 * i + q) k = gI (tk S (79 + 4 * n) 6) (79 + 4 * i + q) k := by
        intro q k hq
        rw [e0 _ _ (by omega), p0 _ _ (by omega) (by omega) (by omega), aT _ _ (by omega) (by omega)]
      rw [e91, e155, e156]
      by_cases e : i = n
      · subst e
        rw [if_pos rfl, if_pos rfl, if_pos rfl]
        refine ⟨Or.inr rfl, Or.inr rfl, ⟨c, by omega, by omega, c2⟩, ⟨fun _ => ⟨rfl, c2⟩, fun _ => rfl⟩, fun _ => ⟨hN.tk eT (fun k hk => ?_), hO.tk hm eT⟩⟩
        rw [e157, if_pos (by omega)]; congr 1; omega
      · rw [if_neg e, if_neg e, if_neg e]
        obtain ⟨b1, b2, b3, b4, b5⟩ := c3 i hi
        have hh : ∀ q k, q ≤ 3 → gI E (79 + 4 * i + q) k = gI S (79 + 4 * i + q) k := fun q k hq => by
          rw [eT q k hq, tk_off (by omega)]
        exact ⟨b1, b2, b3, b4, fun x => ⟨(b5 x).1.fr hh (fun k _ _ => by rw [e157, if_neg (by omega)]), (b5 x).2.fr hh⟩⟩
  · unfold f_X10_keep f_X4_store f_X11_keep
    have : f_X10_keep a1 S = some (nI 0, S) := by
      unfold f_X10_keep f_X4_store
      simp only [lit]
      by_cases g1 : a1 < nI 0
      · simp only [g1, if_true, bd_e, n01, or_false]
      · have g2 : ¬ a1 < nI 3 := fun q => g ⟨g1, by rw [i_lt, nI_int (by omega)] at q ⊢; omega⟩
        simp only [g1, g2, if_false, if_true, bd_e, n01, or_false]
    unfold f_X10_keep f_X4_store at this
    rw [this]
    refine Wp.rt ?_
    simp only [lt_e, bd_e, fl3z, fl2z, fl6z, in0, in2, in_0_2, in_0_3, in_0_4, in_0_5, in_0_7, in_0_9, in_0_10, in_0_20, in_0_60, in_0_255, in_1_9, in_1_6, in_1_60, in_2_9, in_48_57, in_97_104, if_neg g]
    exact Wp.rt ⟨rfl, hS.th⟩
