/-! sums over passages -/
def sumN (f : Nat → Int32) : Nat → Int32
  | 0 => nI 0
  | n + 1 => sumN f n + f n
theorem sumN_e {f g : Nat → Int32} : ∀ {n : Nat}, (∀ i, i < n → f i = g i) → sumN f n = sumN g n
  | 0, _ => rfl
  | n + 1, h => by
    show sumN f n + f n = sumN g n + g n
    rw [sumN_e (n := n) (fun i hi => h i (by omega)), h n (by omega)]
theorem wear_e {S : St} {m : Nat} (hm : gI S 3 2 = nI m) (h12 : m ≤ 12) : f_X0_wearOfAll S = some (sumN (gI S 9) m, S) := by
  unfold f_X0_wearOfAll
  refine lp_for m (fun i => ((sumN (gI S 9) i, nI i), S)) (fun i k hi => ?_) (fun k => ?_) FU 0 (by omega) (by unfold FU; omega)
  · unfold f_X0_wearOfAll_4b
    simp (disch := omega) only [hm, lit, inb_nI, nLt, nLe, nEq, nAdd, nI_t, nMul, nSub, lt_e, Nat.not_le.mpr hi, if_false, show i < 12 by omega, if_true]
    rfl
  · unfold f_X0_wearOfAll_4b
    simp (disch := omega) only [hm, lit, inb_nI, nLt, nLe, nEq, nAdd, nI_t, nMul, nSub, Nat.le_refl, if_true]
theorem delay_e {S : St} {m : Nat} (hm : gI S 3 2 = nI m) (h12 : m ≤ 12) : f_X0_delayOfAll S = some (sumN (gI S 7) m, S) := by
  unfold f_X0_delayOfAll
  refine lp_for m (fun i => ((sumN (gI S 7) i, nI i), S)) (fun i k hi => ?_) (fun k => ?_) FU 0 (by omega) (by unfold FU; omega)
  · unfold f_X0_delayOfAll_4b
    simp (disch := omega) only [hm, lit, inb_nI, nLt, nLe, nEq, nAdd, nI_t, nMul, nSub, lt_e, Nat.not_le.mpr hi, if_false, show i < 12 by omega, if_true]
    rfl
  · unfold f_X0_delayOfAll_4b
    simp (disch := omega) only [hm, lit, inb_nI, nLt, nLe, nEq, nAdd, nI_t, nMul, nSub, Nat.le_refl, if_true]
theorem sumOf_e {S : St} {m ar b : Nat} (hm : gI S 122 3 = nI m) (hb : b + m ≤ 39) : f_X11_sumOf ar (nI b) S = some (sumN (fun i => gI S ar (b + i)) m, S) := by
  unfold f_X11_sumOf
  refine lp_for m (fun i => ((sumN (fun i => gI S ar (b + i)) i, nI i), S)) (fun i k hi => ?_) (fun k => ?_) FU 0 (by omega) (by unfold FU; omega)
  · unfold f_X11_sumOf_5b
    simp (disch := omega) only [hm, lit, inb_nI, nLt, nLe, nEq, nAdd, nI_t, nMul, nSub, lt_e, Nat.not_le.mpr hi, if_false, show b + i < 39 by omega, if_true]
    rfl
  · unfold f_X11_sumOf_5b
    simp (disch := omega) only [hm, lit, inb_nI, nLt, nLe, nEq, nAdd, nI_t, nMul, nSub, Nat.le_refl, if_true]
def bC (x : Int32) : Int32 := match f_J6_bitCount_0f7a4 x ((fun _ _ => 0), (fun _ _ => 0)) with
  | some r => r.1
  | none => 0
theorem bc_e (x : Int32) (S : St) : f_J6_bitCount_0f7a4 x S = some (bC x, S) := rfl
theorem eq_count (a1 : Int32) : EQ1 RelP (f_X10_count a1) (f_X11_count a1) := by
  apply EQ1.of
  intro S hS
  obtain ⟨hT, ⟨m, hC, hO, hH, hK⟩, hN, hR, hF, hE, hU⟩ := id hS
  obtain ⟨c1, c2, c3, c4⟩ := id hC
  obtain ⟨s1, s2, s3, s4⟩ := id hN
  obtain ⟨_, _, t2, t3, _⟩ := id hT
  obtain ⟨_, _, f2, f3, _⟩ := id hF
  obtain ⟨_, _, e2, e3, _⟩ := id hE
  obtain ⟨_, _, r2, r3, _⟩ := id hR
  obtain ⟨_, _, _, _, u3, u4, _⟩ := id hH
  have w1 : sumN (gI S 9) m = sumN (fun i => gI S 126 (24 + i)) m := sumN_e (fun i hi => (s1 i (by omega)).2.2.trans (by rw [Nat.zero_add]))
  have w2 : sumN (gI S 7) m = sumN (fun i => gI S 126 (0 + i)) m := sumN_e (fun i hi => (s1 i (by omega)).1)
  have x1 := sumOf_e (S := sI S 122 0 (nI 0)) (ar := 126) (b := 24) (m := m) c3 (by omega)
  have x2 := sumOf_e (S := sI S 122 0 (nI 0)) (ar := 126) (b := 0) (m := m) c3 (by omega)
  unfold f_X10_count f_X11_count
  by_cases g0 : a1 = nI 0
  · subst g0
    simp (disch := omega) only [lt_e, bd_e, lit, inb_nI, nLt, nLe, nEq, nAdd, nI_t, nMul, nSub, Nat.reduceEqDiff, if_true, if_false, bc_e, wear_e c2 c1, delay_e c2 c1]
    refine Wp.rt ?_
    try simp (disch := omega) only [lt_e, bd_e, lit, inb_nI, nLt, nLe, nEq, nAdd, nI_t, nMul, nSub, Nat.reduceEqDiff, if_true, if_false, bc_e, x1, x2]
    exact Wp.rt ⟨c3.trans c2.symm, hS.th⟩
  by_cases g1 : a1 = nI 1
  · subst g1
    simp (disch := omega) only [lt_e, bd_e, lit, inb_nI, nLt, nLe, nEq, nAdd, nI_t, nMul, nSub, Nat.reduceEqDiff, if_true, if_false, bc_e, wear_e c2 c1, delay_e c2 c1]
    refine Wp.rt ?_
    try simp (disch := omega) only [lt_e, bd_e, lit, inb_nI, nLt, nLe, nEq, nAdd, nI_t, nMul, nSub, Nat.reduceEqDiff, if_true, if_false, bc_e, x1, x2]
    exact Wp.rt ⟨congrArg bC s2.symm, hS.th⟩
  by_cases g2 : a1 = nI 2
  · subst g2
    simp (disch := omega) only [lt_e, bd_e, lit, inb_nI, nLt, nLe, nEq, nAdd, nI_t, nMul, nSub, Nat.reduceEqDiff, if_true, if_false, bc_e, wear_e c2 c1, delay_e c2 c1]
    refine Wp.rt ?_
    try simp (disch := omega) only [lt_e, bd_e, lit, inb_nI, nLt, nLe, nEq, nAdd, nI_t, nMul, nSub, Nat.reduceEqDiff, if_true, if_false, bc_e, x1, x2]
    exact Wp.rt ⟨s3.symm, hS.th⟩
  by_cases g3 : a1 = nI 3
  · subst g3
    simp (disch := omega) only [lt_e, bd_e, lit, inb_nI, nLt, nLe, nEq, nAdd, nI_t, nMul, nSub, Nat.reduceEqDiff, if_true, if_false, bc_e, wear_e c2 c1, delay_e c2 c1]
    refine Wp.rt ?_
    try simp (disch := omega) only [lt_e, bd_e, lit, inb_nI, nLt, nLe, nEq, nAdd, nI_t, nMul, nSub, Nat.reduceEqDiff, if_true, if_false, bc_e, x1, x2]
    exact Wp.rt ⟨s4.symm, hS.th⟩
  by_cases g4 : a1 = nI 4
  · subst g4
    simp (disch := omega) only [lt_e, bd_e, lit, inb_nI, nLt, nLe, nEq, nAdd, nI_t, nMul, nSub, Nat.reduceEqDiff, if_true, if_false, bc_e, wear_e c2 c1, delay_e c2 c1]
    refine Wp.rt ?_
    try simp (disch := omega) only [lt_e, bd_e, lit, inb_nI, nLt, nLe, nEq, nAdd, nI_t, nMul, nSub, Nat.reduceEqDiff, if_true, if_false, bc_e, x1, x2]
    exact Wp.rt ⟨w1.symm, hS.th⟩
  by_cases g5 : a1 = nI 5
  · subst g5
    simp (disch := omega) only [lt_e, bd_e, lit, inb_nI, nLt, nLe, nEq, nAdd, nI_t, nMul, nSub, Nat.reduceEqDiff, if_true, if_false, bc_e, wear_e c2 c1, delay_e c2 c1]
    refine Wp.rt ?_
    try simp (disch := omega) only [lt_e, bd_e, lit, inb_nI, nLt, nLe, nEq, nAdd, nI_t, nMul, nSub, Nat.reduceEqDiff, if_true, if_false, bc_e, x1, x2]
    exact Wp.rt ⟨w2.symm, hS.th⟩
  by_cases g6 : a1 = nI 6
  · subst g6
    simp (disch := omega) only [lt_e, bd_e, lit, inb_nI, nLt, nLe, nEq, nAdd, nI_t, nMul, nSub, Nat.reduceEqDiff, if_true, if_false, bc_e, wear_e c2 c1, delay_e c2 c1]
    refine Wp.rt ?_
    try simp (disch := omega) only [lt_e, bd_e, lit, inb_nI, nLt, nLe, nEq, nAdd, nI_t, nMul, nSub, Nat.reduceEqDiff, if_true, if_false, bc_e, x1, x2]
    exact Wp.rt ⟨f3.trans f2.symm, hS.th⟩
  by_cases g7 : a1 = nI 7
  · subst g7
    simp (disch := omega) only [lt_e, bd_e, lit, inb_nI, nLt, nLe, nEq, nAdd, nI_t, nMul, nSub, Nat.reduceEqDiff, if_true, if_false, bc_e, wear_e c2 c1, delay_e c2 c1]
    refine Wp.rt ?_
    try simp (disch := omega) only [lt_e, bd_e, lit, inb_nI, nLt, nLe, nEq, nAdd, nI_t, nMul, nSub, Nat.reduceEqDiff, if_true, if_false, bc_e, x1, x2]
    exact Wp.rt ⟨e3.trans e2.symm, hS.th⟩
  by_cases g8 : a1 = nI 8
  · subst g8
    simp (disch := omega) only [lt_e, bd_e, lit, inb_nI, nLt, nLe, nEq, nAdd, nI_t, nMul, nSub, Nat.reduceEqDiff, if_true, if_false, bc_e, wear_e c2 c1, delay_e c2 c1]
    refine Wp.rt ?_
    try simp (disch := omega) only [lt_e, bd_e, lit, inb_nI, nLt, nLe, nEq, nAdd, nI_t, nMul, nSub, Nat.reduceEqDiff, if_true, if_false, bc_e, x1, x2]
    exact Wp.rt ⟨u4.trans u3.symm, hS.th⟩
  by_cases g9 : a1 = nI 9
  · subst g9
    simp (disch := omega) only [lt_e, bd_e, lit, inb_nI, nLt, nLe, nEq, nAdd, nI_t, nMul, nSub, Nat.reduceEqDiff, if_true, if_false, bc_e, wear_e c2 c1, delay_e c2 c1]
    refine Wp.rt ?_
    try simp (disch := omega) only [lt_e, bd_e, lit, inb_nI, nLt, nLe, nEq, nAdd, nI_t, nMul, nSub, Nat.reduceEqDiff, if_true, if_false, bc_e, x1, x2]
    exact Wp.rt ⟨r3.trans r2.symm, hS.th⟩
  by_cases g10 : a1 = nI 10
  · subst g10
    simp (disch := omega) only [lt_e, bd_e, lit, inb_nI, nLt, nLe, nEq, nAdd, nI_t, nMul, nSub, Nat.reduceEqDiff, if_true, if_false, bc_e, wear_e c2 c1, delay_e c2 c1]
    refine Wp.rt ?_
    try simp (disch := omega) only [lt_e, bd_e, lit, inb_nI, nLt, nLe, nEq, nAdd, nI_t, nMul, nSub, Nat.reduceEqDiff, if_true, if_false, bc_e, x1, x2]
    exact Wp.rt ⟨t3.trans t2.symm, hS.th⟩
  simp only [lit, lt_e, g0, g1, g2, g3, g4, g5, g6, g7, g8, g9, g10, if_false]
  exact Wp.rt (Wp.rt ⟨rfl, hS.th⟩)
/-! a State copied into another one -/
def tk (S : St) (o o2 : Nat) : St := sI (sI (sI (sR (sR (sR S (o + 1) (fun j => if j < 12 then gI S (o2 + 1) j else gI S (o + 1) j)) (o + 2) (fun j => if j < 12 then gI S (o2 + 2) j else gI S (o + 2) j)) (o + 3) (fun j => if j < 12 then gI S (o2 + 3) j else gI S (o + 3) j)) o 3 (gI S o2 3)) o 4 (gI S o2 4)) o 5 (gI S o2 5)
theorem take_e (S : St) (o o2 : Nat) (h : o + 4 ≤ o2 ∨ o2 + 4 ≤ o) : f_X7_take o o2 S = some ((), tk S o o2) := by
  unfold f_X7_take tk
  simp only [lt_e, sC_R, gI_r, gI_s]
  simp (disch := omega) only [if_neg, if_pos, if_true]
theorem tk_off {S : St} {o o2 a b : Nat} (h : a < o ∨ o + 3 < a) : gI (tk S o o2) a b = gI S a b := by
  unfold tk
  simp only [gI_r, gI_s]
  simp (disch := omega) only [if_neg]
theorem tk_L (S : St) (o o2 : Nat) (a b : Nat) : gL (tk S o o2) a b = gL S a b := rfl
theorem tk_1 {S : St} {o o2 b : Nat} (h : b < 12) : gI (tk S o o2) (o + 1) b = gI S (o2 + 1) b := by
  unfold tk
  simp only [gI_r, gI_s]
  simp (disch := omega) only [if_neg, if_pos, if_true]
theorem tk_2 {S : St} {o o2 b : Nat} (h : b < 12) : gI (tk S o o2) (o + 2) b = gI S (o2 + 2) b := by
  unfold tk
  simp only [gI_r, gI_s]
  simp (disch := omega) only [if_neg, if_pos, if_true]
theorem tk_3 {S : St} {o o2 b : Nat} (h : b < 12) : gI (tk S o o2) (o + 3) b = gI S (o2 + 3) b := by
  unfold tk
  simp only [gI_r, gI_s]
  simp (disch := omega) only [if_neg, if_pos, if_true]
theorem tk_o3 (S : St) (o o2 : Nat) : gI (tk S o o2) o 3 = gI S o2 3 := by
  unfold tk
  simp only [gI_r, gI_s]
  simp (disch := omega) only [if_neg, if_pos, if_true]
theorem tk_o4 (S : St) (o o2 : Nat) : gI (tk S o o2) o 4 = gI S o2 4 := by
  unfold tk
  simp only [gI_r, gI_s]
  simp (disch := omega) only [if_neg, if_pos, if_true]
theorem tk_o5 (S : St) (o o2 : Nat) : gI (tk S o o2) o 5 = gI S o2 5 := by
  unfold tk
  simp only [gI_r, gI_s]
  simp (disch := omega) only [if_neg, if_pos, if_true]
/-- the copy is what the first one was -/
theorem SEq.tk {S E : St} {o o2 R b R' b' : Nat} (h : SEq S o2 R b) (h12 : ∀ q k, q ≤ 3 → gI E (o + q) k = gI (tk S o o2) (o + q) k) (hR : ∀ k, k < 39 → gI E R' (b' + k) = gI S R (b + k)) : SEq E o R' b' := by
  obtain ⟨a1, a2, a3, a4⟩ := h
  have z : ∀ k, gI E o k = gI (_root_.Jvm.Pilot.CCaveAdviceLaw_law_r4081_87989a.tk S o o2) o k := fun k => h12 0 k (by omega)
  refine ⟨fun i hi => ?_, ?_, ?_, ?_⟩
  · rw [h12 1 i (by omega), h12 2 i (by omega), h12 3 i (by omega), tk_1 hi, tk_2 hi, tk_3 hi, hR i (by omega), Nat.add_assoc, Nat.add_assoc, hR _ (by omega), hR _ (by omega), ← Nat.add_assoc, ← Nat.add_assoc]
    exact a1 i hi
  · rw [z, tk_o3, hR _ (by omega)]; exact a2
  · rw [z, tk_o4, hR _ (by omega)]; exact a3
  · rw [z, tk_o5, hR _ (by omega)]; exact a4
theorem SOk.tk {S E : St} {m o o2 : Nat} (h : SOk S m o2) (hm : m ≤ 12) (h12 : ∀ q k, q ≤ 3 → gI E (o + q) k = gI (tk S o o2) (o + q) k) : SOk E m o := by
  obtain ⟨a1, a2, a3⟩ := h
  have z : ∀ k, gI E o k = gI (_root_.Jvm.Pilot.CCaveAdviceLaw_law_r4081_87989a.tk S o o2) o k := fun k => h12 0 k (by omega)
  refine ⟨fun i hi => ?_, ?_, ?_⟩
  · rw [h12 1 i (by omega), h12 2 i (by omega), h12 3 i (by omega), tk_1 (by omega), tk_2 (by omega), tk_3 (by omega)]
    exact a1 i hi
  · rw [z, tk_o3]; exact a2
  · rw [z, tk_o5]; exact a3
/-! what can be undone -/
def RHw (S : St) (m u f : Nat) : Prop := u ≤ 15 ∧ f < 16 ∧ gI S 12 2 = nI u ∧ gI S 122 28 = nI u ∧ gI S 12 1 = nI f ∧ ∀ j, j < u → SEq S (14 + 4 * ((f + j) % 16)) 137 (39 * j) ∧ SOk S m (14 + 4 * ((f + j) % 16))
theorem zr13 {s : Nat} (h : s < 16) : zr 13 s = 14 + 4 * s := by
  have q : ∀ s, s < 16 → zr 13 s = 14 + 4 * s := by decide +kernel
  exact q s h
theorem zr78 {s : Nat} (h : s < 3) : zr 78 s = 79 + 4 * s := by
  have q : ∀ s, s < 3 → zr 78 s = 79 + 4 * s := by decide +kernel
  exact q s h
theorem ist {s : Nat} (h : s < 16) : isState (14 + 4 * s) := by
  have q : ∀ s, s < 16 → isState (14 + 4 * s) := by decide +kernel
  exact q s h
theorem nDiv {a b : Nat} (ha : a < 2147483648) (hb : b < 2147483648) : nI a / nI b = nI (a / b) := by
  rw [i_eq, Int32.toInt_div, nI_int ha, nI_int hb, nI_int (Nat.lt_of_le_of_lt (Nat.div_le_self _ _) ha)]
  have h : (a : Int).tdiv b = ((a / b : Nat) : Int) := (Int.ofNat_tdiv a b).symm
  have h2 := Nat.div_le_self a b
  rw [h]
  generalize a / b = c at *
  apply Int.bmod_eq_of_le <;> omega
theorem nRem {a b : Nat} (ha : a < 2147483648) (hb : b < 2147483648) : nI a - nI a / nI b * nI b = nI (a % b) := by
  rw [nDiv ha hb, nMul, nSub (Nat.div_mul_le_self a b)]
  congr 1
  have := Nat.div_add_mod a b
  rw [Nat.mul_comm] at this
  omega
theorem marked_e {S : St} {m u f : Nat} (h : RHw S m u f) : f_X4_marked S = some (14 + 4 * ((f + u) % 16), S) := by
  obtain ⟨h1, h2, h3, h4, h5, h6⟩ := h
  unfold f_X4_marked
  have q : (f + u) % 16 < 16 := by omega
  simp (disch := omega) only [lt_e, h3, h5, lit, inb_nI, nLt, nLe, nEq, nAdd, nI_t, nMul, nSub, nRem, q, if_true, zr13 q]
theorem mark_e {S : St} {m u f : Nat} (h : RHw S m u f) : f_X4_mark S = some ((), tk S (14 + 4 * ((f + u) % 16)) 6) := by
  unfold f_X4_mark
  rw [marked_e h, bd_e, if_pos (ist (by omega)), take_e _ _ _ (by omega)]
  rfl
/-- one more that can be undone -/
theorem RHw.d {S E : St} {m u f : Nat} (h : RHw S m u f) (hm : m ≤ 12) (hN : SEq S 6 126 0) (hO : SOk S m 6) (hz : ∀ o k, 14 ≤ o → o ≤ 77 → gI E o k = gI (tk S (14 + 4 * ((f + u) % 16)) 6) o k) (hu : u < 15) (a : gI E 12 2 = nI (u + 1)) (b : gI E 122 28 = nI (u + 1)) (c : gI E 12 1 = nI f) (d : ∀ k, k < 39 * u → gI E 137 k = gI S 137 k) (e : ∀ k, k < 39 → gI E 137 (39 * u + k) = gI S 126 k) : RH E m := by
  obtain ⟨h1, h2, h3, h4, h5, h6⟩ := h
  refine ⟨u + 1, f, by omega, h2, a, b, c, fun j hj => ?_⟩
  by_cases ej : j = u
  · subst ej
    exact ⟨hN.tk (fun q k hq => hz _ _ (by omega) (by omega)) (fun k hk => by rw [e k hk, Nat.zero_add]), hO.tk hm (fun q k hq => hz _ _ (by omega) (by omega))⟩
  · obtain ⟨x1, x2⟩ := h6 j (by omega)
    have hh : ∀ q k, q ≤ 3 → gI E (14 + 4 * ((f + j) % 16) + q) k = gI S (14 + 4 * ((f + j) % 16) + q) k := by
      intro q k hq
      rw [hz _ _ (by omega) (by omega), tk_off (by omega)]
    exact ⟨x1.fr hh (fun k k1 k2 => d k (by omega)), x2.fr hh⟩
/-- the first one is lost for it -/
theorem RHw.f {S E : St} {m f : Nat} (h : RHw S m 15 f) (hm : m ≤ 12) (hN : SEq S 6 126 0) (hO : SOk S m 6) (hz : ∀ o k, 14 ≤ o → o ≤ 77 → gI E o k = gI (tk S (14 + 4 * ((f + 15) % 16)) 6) o k) (a : gI E 12 2 = nI 15) (b : gI E 122 28 = nI 15) (c : gI E 12 1 = nI ((f + 1) % 16)) (d : ∀ k, k < 546 → gI E 137 k = gI S 137 (k + 39)) (e : ∀ k, k < 39 → gI E 137 (546 + k) = gI S 126 k) : RH E m := by
  obtain ⟨h1, h2, h3, h4, h5, h6⟩ := h
  refine ⟨15, (f + 1) % 16, by omega, by omega, a, b, c, fun j hj => ?_⟩
  by_cases ej : j = 14
  · subst ej
    have q1 : ((f + 1) % 16 + 14) % 16 = (f + 15) % 16 := by omega
    rw [q1]
    exact ⟨hN.tk (fun q k hq => hz _ _ (by omega) (by omega)) (fun k hk => by rw [e k hk, Nat.zero_add]), hO.tk hm (fun q k hq => hz _ _ (by omega) (by omega))⟩
  · obtain ⟨x1, x2⟩ := h6 (j + 1) (by omega)
    have q1 : ((f + 1) % 16 + j) % 16 = (f + (j + 1)) % 16 := by omega
    rw [q1]
    have hh : ∀ q k, q ≤ 3 → gI E (14 + 4 * ((f + (j + 1)) % 16) + q) k = gI S (14 + 4 * ((f + (j + 1)) % 16) + q) k := by
      intro q k hq
      rw [hz _ _ (by omega) (by omega), tk_off (by omega)]
    refine ⟨?_, x2.fr hh⟩
    obtain ⟨y1, y2, y3, y4⟩ := x1
    have z : ∀ k, gI E (14 + 4 * ((f + (j + 1)) % 16)) k = gI S (14 + 4 * ((f + (j + 1)) % 16)) k := fun k => hh 0 k (by omega)
    have d' : ∀ k, k < 39 → gI E 137 (39 * j + k) = gI S 137 (39 * (j + 1) + k) := fun k hk => by rw [d _ (by omega)]; congr 1; omega
    refine ⟨fun i hi => ?_, ?_, ?_, ?_⟩
    · obtain ⟨z1, z2, z3⟩ := y1 i hi
      refine ⟨(hh 1 i (by omega)).trans (z1.trans (d' i (by omega)).symm), (hh 2 i (by omega)).trans (z2.trans ?_), (hh 3 i (by omega)).trans (z3.trans ?_)⟩
      · rw [Nat.add_assoc, Nat.add_assoc (39 * j)]; exact (d' _ (by omega)).symm
      · rw [Nat.add_assoc, Nat.add_assoc (39 * j)]; exact (d' _ (by omega)).symm
    · rw [z, d' _ (by omega)]; exact y2
    · rw [z, d' _ (by omega)]; exact y3
    · rw [z, d' _ (by omega)]; exact y4
/-- nothing more -/
theorem RHw.n {S E : St} {m u f : Nat} (h : RHw S m u f) (hz : ∀ o k, 14 ≤ o → o ≤ 77 → gI E o k = gI (tk S (14 + 4 * ((f + u) % 16)) 6) o k) (a : gI E 12 2 = nI u) (b : gI E 122 28 = nI u) (c : gI E 12 1 = nI f) (d : ∀ k, k < 39 * u → gI E 137 k = gI S 137 k) : RH E m := by
  obtain ⟨h1, h2, h3, h4, h5, h6⟩ := h
  refine ⟨u, f, by omega, h2, a, b, c, fun j hj => ?_⟩
  obtain ⟨x1, x2⟩ := h6 j (by omega)
  have hh : ∀ q k, q ≤ 3 → gI E (14 + 4 * ((f + j) % 16) + q) k = gI S (14 + 4 * ((f + j) % 16) + q) k := by
    intro q k hq
    rw [hz _ _ (by omega) (by omega), tk_off (by omega)]
  exact ⟨x1.fr hh (fun k k1 k2 => d k (by omega)), x2.fr hh⟩
/-! the reference's ways of it -/
theorem putsBy_e {S : St} {u : Nat} (h : gI S 122 28 = nI u) (hu : u ≤ 15) : f_X11_putsBy S = some ((), sR S 137 (fun k => if 39 * u ≤ k ∧ k < 39 * u + 39 then gI S 126 (k - 39 * u) else gI S 137 k)) := by
  unfold f_X11_putsBy
  have e0 : sR S 137 (fun k => if 39 * u ≤ k ∧ k < 39 * u + 0 then gI S 126 (k - 39 * u) else gI S 137 k) = S := sR_0 (fun k => if_neg (by omega))
  have := lp_for (body := f_X11_putsBy_2b (fun v4 S5 => some ((), S5))) 39 (fun i => (nI i, sR S 137 (fun k => if 39 * u ≤ k ∧ k < 39 * u + i then gI S 126 (k - 39 * u) else gI S 137 k))) (out := some ((), sR S 137 (fun k => if 39 * u ≤ k ∧ k < 39 * u + 39 then gI S 126 (k - 39 * u) else gI S 137 k))) (fun i k hi => ?_) (fun k => ?_) FU 0 (by omega) (by unfold FU; omega)
  · simp only [e0] at this; exact this
  · unfold f_X11_putsBy_2b
    have q1 : ¬ 39 ≤ i := by omega
    have q2 : 39 * u + i < 624 := by omega
    simp (disch := omega) only [gI_r, Nat.reduceEqDiff, if_false, h, lit, inb_nI, nLt, nLe, nEq, nAdd, nI_t, nMul, nSub, lt_e, q1, hi, if_true, q2]
    rw [sR_I]
    congr 1
    apply sR_e
    intro j
    by_cases ej : j = 39 * u + i
    · rw [if_pos ej, if_pos (by omega)]; congr 1; omega
    · rw [if_neg ej]
      by_cases ek : 39 * u ≤ j ∧ j < 39 * u + i
      · rw [if_pos ek, if_pos (by omega)]
      · rw [if_neg ek, if_neg (by omega)]
  · unfold f_X11_putsBy_2b
    simp (disch := omega) only [lit, inb_nI, nLt, nLe, nEq, nAdd, nI_t, nMul, nSub, Nat.le_refl, if_true]
theorem adds_e {S : St} {u : Nat} (x : Int32) (h : gI S 122 28 = nI u) (hu : u < 15) : f_X11_adds x S = some (x, sI S 122 28 (nI (u + 1))) := by
  unfold f_X11_adds
  have q : u + 1 ≤ 15 := by omega
  simp (disch := omega) only [lt_e, gI_s, h, lit, inb_nI, nLt, nLe, nEq, nAdd, nI_t, nMul, nSub, if_true, q]
theorem adds_l {S : St} (x : Int32) (e : Int32 → St → Option (Int32 × St)) (n : Nat) (hn : n = 585) : lp (f_X11_adds_21b x e) FU (nI 0) S = e (nI n) (sR S 137 (fun k => if k < n then gI S 137 (k + 39) else gI S 137 k)) := by
  have e0 : sR S 137 (fun k => if k < 0 then gI S 137 (k + 39) else gI S 137 k) = S := sR_0 (fun k => if_neg (by omega))
  have := lp_for (body := f_X11_adds_21b x e) n (fun i => (nI i, sR S 137 (fun k => if k < i then gI S 137 (k + 39) else gI S 137 k))) (out := e (nI n) (sR S 137 (fun k => if k < n then gI S 137 (k + 39) else gI S 137 k))) (fun i k hi => ?_) (fun k => ?_) FU 0 (by omega) (by unfold FU; omega)
  · simp only [e0] at this; exact this
  · unfold f_X11_adds_21b
    have q1 : ¬ 585 ≤ i := by omega
    have q2 : i + 39 < 624 := by omega
    have q3 : i < 624 := by omega
    have q4 : ¬ i + 39 < i := by omega
    simp (disch := omega) only [gI_r, Nat.reduceEqDiff, if_false, lit, inb_nI, nLt, nLe, nEq, nAdd, nI_t, nMul, nSub, lt_e, q1, hi, if_true, q2, q3, gI_s, q4]
    rw [sR_I]
    congr 1
    apply sR_e
    intro j
    by_cases ej : j = i
    · rw [if_pos ej, if_pos (by omega), ej]
    · rw [if_neg ej]
      by_cases ek : j < i
      · rw [if_pos ek, if_pos (by omega)]
      · rw [if_neg ek, if_neg (by omega)]
  · unfold f_X11_adds_21b
    have q1 : 585 ≤ n := by omega
    simp (disch := omega) only [lit, inb_nI, nLt, nLe, nEq, nAdd, nI_t, nMul, nSub, q1, if_true]
theorem adds_f {S : St} (x : Int32) (h : gI S 122 28 = nI 15) : f_X11_adds x S = some (x, sI (sR (sI S 122 28 (nI 16)) 137 (fun k => if k < 585 then gI S 137 (k + 39) else gI S 137 k)) 122 28 (nI 15)) := by
  have h1 : gI S 122 28 + 1 = nI 16 := by rw [h, lit, nAdd]
  have h2 : ¬ nI 16 ≤ (15 : Int32) := by decide
  have h3 : nI 16 - (1 : Int32) = nI 15 := by decide
  unfold f_X11_adds
  rw [lt_e, h1]
  refine (if_neg h2).trans ((adds_l x _ 585 rfl).trans ?_)
  rw [lt_e]
  refine congrArg some (Prod.ext rfl ?_)
  exact congrArg (sI _ 122 28) h3
theorem settle_n (S : St) : f_X4_settle (nI 0) S = some ((), S) := rfl
theorem settle_d {S : St} {u : Nat} (h : gI S 12 2 = nI u) (hu : u < 15) : f_X4_settle (nI 1) S = some ((), sI S 12 2 (nI (u + 1))) := by
  unfold f_X4_settle
  have q : ¬ 15 ≤ u := by omega
  simp (disch := omega) only [lt_e, h, lit, inb_nI, nLt, nLe, nEq, nAdd, nI_t, nMul, nSub, if_false, q, Nat.reduceEqDiff]
theorem settle_f {S : St} {f : Nat} (h : gI S 12 2 = nI 15) (h1 : gI S 12 1 = nI f) (hf : f < 16) : f_X4_settle (nI 1) S = some ((), sI S 12 1 (nI ((f + 1) % 16))) := by
  unfold f_X4_settle
  simp (disch := omega) only [lt_e, h, h1, lit, inb_nI, nLt, nLe, nEq, nAdd, nI_t, nMul, nSub, if_false, if_true, Nat.le_refl, Nat.reduceEqDiff, nRem]
