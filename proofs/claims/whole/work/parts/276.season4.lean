theorem acW_y {c : Cv} {kd x y z : Nat} {w : Nat → Int32} (h : kd ≤ 1) : acW c kd x y z w = acW c kd x 0 0 w := by
  unfold acW
  by_cases k0 : kd = 0
  · rw [if_pos k0, if_pos k0]
  · rw [if_neg k0, if_neg k0, if_pos (show kd = 1 by omega), if_pos (show kd = 1 by omega)]
theorem acW_z {c : Cv} {kd x y z : Nat} {w : Nat → Int32} (h : kd ≤ 2) : acW c kd x y z w = acW c kd x y 0 w := by
  unfold acW
  by_cases k0 : kd = 0
  · rw [if_pos k0, if_pos k0]
  · rw [if_neg k0, if_neg k0]
    by_cases k1 : kd = 1
    · rw [if_pos k1, if_pos k1]
    · rw [if_neg k1, if_neg k1, if_pos (show kd = 2 by omega), if_pos (show kd = 2 by omega)]
def actA (c : Cv) (t : Nat → Nat) (n j : Nat) (w : Nat → Int32) : Option (Nat → Int32) := acW c (kdN (t (pS t n j))) (t (pS t n j + 1) - 48) (t (pS t n j + 2) - 48) (t (pS t n j + 3) - 48) w
def wS (c : Cv) (t : Nat → Nat) (n : Nat) (w0 : Nat → Int32) : Nat → Nat → Int32
  | 0 => w0
  | j + 1 => (actA c t n j (wS c t n w0 j)).getD (wS c t n w0 j)
theorem actA_ok {c : Cv} {t : Nat → Nat} {n j : Nat} {w w' : Nat → Int32} (ok : Cok c) (h : OkW (cm c) w) (hA : okA t n (pS t n j)) (e : actA c t n j w = some w') : OkW (cm c) w' := by
  obtain ⟨b1, b2, b3, b4, b5, b6⟩ := hA
  have kd := kd_da b1
  unfold actA at e
  by_cases k1 : kdN (t (pS t n j)) ≤ 1
  · rw [acW_y k1] at e
    exact acW_ok ok h (by omega) (by omega) (by omega) e
  · have b4 := b4 (by omega)
    by_cases k2 : kdN (t (pS t n j)) ≤ 2
    · rw [acW_z k2] at e
      exact acW_ok ok h (by omega) (by omega) (by omega) e
    · have b5 := b5 (by omega)
      exact acW_ok ok h (by omega) (by omega) (by omega) e
theorem wS_ok {c : Cv} {t : Nat → Nat} {n L : Nat} {w0 : Nat → Int32} (ok : Cok c) (h : OkW (cm c) w0) (hA : ∀ j, j < L → pS t n j < n ∧ okA t n (pS t n j)) : ∀ j, j ≤ L → OkW (cm c) (wS c t n w0 j) := by
  intro j
  induction j with
  | zero => intro _; exact h
  | succ j ih =>
    intro hj
    have hi := ih (by omega)
    show OkW (cm c) ((actA c t n j (wS c t n w0 j)).getD (wS c t n w0 j))
    cases g : actA c t n j (wS c t n w0 j) with
    | none => exact hi
    | some w' => exact actA_ok ok hi (hA j (by omega)).2 g
theorem aF.ce {T T' : St} {c : Cv} (h : aF T T') (hE : CE T c) : CE T' c := by
  refine ⟨(h.1 3 2 (by omega) (by omega) (by omega) (by omega) (by omega) (by omega) (by omega)).trans hE.1, fun i hi => ?_⟩
  rw [h.1 4 i (by omega) (by omega) (by omega) (by omega) (by omega) (by omega) (by omega), h.1 5 i (by omega) (by omega) (by omega) (by omega) (by omega) (by omega) (by omega)]
  exact hE.2 i hi
theorem aF.tx {T T' : St} {t : Nat → Nat} (h : aF T T') (hE : TxC T t) : TxC T' t := by
  intro i hi
  rw [h.1 2 i (by omega) (by omega) (by omega) (by omega) (by omega) (by omega) (by omega)]
  exact hE i hi
theorem bF.me {T T' : St} {c : Cv} (h : bF T T') (hE : ME T c) : ME T' c := by
  refine ⟨(h.1 122 3 (by decide) (by decide) (by decide) (by decide)).trans hE.1, fun i hi => ?_⟩
  rw [h.1 124 i (by decide) (by decide) (by decide) (Or.inl (by decide)), h.1 125 i (by decide) (by decide) (by decide) (Or.inl (by decide))]
  exact hE.2 i hi
theorem sc_l {A : St} {c : Cv} {w0 : Nat → Int32} {t : Nat → Nat} {n L d : Nat} (ok : Cok c) (hW : OkW (cm c) w0) (hE : CE A c) (hN : CN A w0) (hx : TxC A t) (hT : gI A 1 1 = nI n) (hn : n ≤ 60) (hL : L ≤ 30) (hP : pS t n L = n) (hA : ∀ j, j < L → pS t n j < n ∧ okA t n (pS t n j)) (hd : d ≤ L) (h1 : ∀ j, j < d → (actA c t n j (wS c t n w0 j)).isSome = true) (h2 : d < L → (actA c t n d (wS c t n w0 d)).isSome = false) (e : Int32 × Int32 × Int32 → St → Option (Int32 × St)) : ∃ T1 z, lp (f_X10_season_46b e) FU ((0 : Int32), (0 : Int32), (0 : Int32)) A = e (nI d, flI (decide (d < L)), z) T1 ∧ aF A T1 ∧ CN T1 (wS c t n w0 d) := by
  -- one act
  have one : ∀ (j : Nat) (S : St) (k : Int32 × Int32 × Int32 → St → Option (Int32 × St)), j < L → aF A S → CN S (wS c t n w0 j) → ∃ (T' : St) (r : Int32), aF A T' ∧ f_X10_season_46b e k (nI j, 0, nI (pS t n j)) S = (if 0 ≤ r then k (nI (j + 1), 0, nI (pS t n (j + 1))) T' else k (nI j, 1, nI (pS t n (j + 1))) T') ∧ (∀ w', actA c t n j (wS c t n w0 j) = some w' → 0 ≤ r ∧ CN T' w') ∧ (actA c t n j (wS c t n w0 j) = none → ¬ 0 ≤ r ∧ CN T' (wS c t n w0 j)) := by
    intro j S k hj hF hC
    obtain ⟨a1', a2⟩ := hA j hj
    obtain ⟨T', r, q1, q2, q3, q4⟩ := da_c (n := n) ok (wS_ok ok hW hA j (by omega)) (hF.ce hE) hC (hF.tx hx) a1' hn a2
    have hF' := hF.tr q2
    have t11 : ∀ U, aF A U → gI U 1 1 = nI n := fun U hU => (hU.1 1 1 (by omega) (by omega) (by omega) (by omega) (by omega) (by omega) (by omega)).trans hT
    have ha := a2.2.1
    have lt2 : pS t n j + 2 ≤ adv t n (pS t n j) := by
      obtain ⟨c1, c2, c3, c4, c5, c6⟩ := a2
      unfold adv
      split
      · omega
      · split <;> omega
    have sg := soa_c (p := pS t n j) (hF'.tx hx) (t11 T' hF') hn a1' a2 (fun hlt => by
      have jl : j + 1 < L := by
        apply Decidable.byContradiction
        intro q
        have : j + 1 = L := by omega
        have e1 : adv t n (pS t n j) = n := by
          have : pS t n (j + 1) = n := by rw [this]; exact hP
          exact this
        omega
      exact da_lt (hA (j + 1) jl).2.1)
    refine ⟨T', r, hF', ?_, q3, q4⟩
    unfold f_X10_season_46b f_X10_season_76 f_X10_season_87
    dsimp only
    rw [t11 S hF, if_neg (show ¬ nI n ≤ nI (pS t n j) by rw [nLe (by omega) (by omega)]; omega), if_pos rfl, q1, bd_e, if_pos (show (0 : Int32) = 0 from rfl), if_neg (show ¬ (1 : Int32) = 0 by decide), sg]
    simp only [lt_e, bd_e]
    rw [a1, Int32.add_zero, show mxI (1 : Int32) (nI (adv t n (pS t n j) - pS t n j)) = nI (adv t n (pS t n j) - pS t n j) by rw [show mxI (1 : Int32) (nI (adv t n (pS t n j) - pS t n j)) = nI (max 1 (adv t n (pS t n j) - pS t n j)) from mxNI (a := 1) (by omega) (by omega), show max 1 (adv t n (pS t n j) - pS t n j) = adv t n (pS t n j) - pS t n j by omega], nAdd, show pS t n j + (adv t n (pS t n j) - pS t n j) = pS t n (j + 1) by show _ = adv t n (pS t n j); omega]
  have sm : ∀ j, j < d → ∀ w', actA c t n j (wS c t n w0 j) = some w' → wS c t n w0 (j + 1) = w' := by
    intro j _ w' hw
    show (actA c t n j (wS c t n w0 j)).getD (wS c t n w0 j) = w'
    rw [hw]; rfl
  by_cases g : d < L
  · have h0 := lp_ex (body := f_X10_season_46b e) (Q := fun w => ∃ T1 z, w = e (nI d, flI (decide (d < L)), z) T1 ∧ aF A T1 ∧ CN T1 (wS c t n w0 d)) (d + 1) (fun j v S => aF A S ∧ ((j ≤ d ∧ v = (nI j, 0, nI (pS t n j)) ∧ CN S (wS c t n w0 j)) ∨ (j = d + 1 ∧ (∃ z, v = (nI d, 1, z)) ∧ CN S (wS c t n w0 d)))) (fun j k v S hj hI => ?_) (fun k v S hI => ?_) FU 0 ((0 : Int32), (0 : Int32), (0 : Int32)) A (by omega) (by unfold FU; omega) ⟨aF.rf A, Or.inl ⟨by omega, rfl, hN⟩⟩
    · exact h0
    · obtain ⟨hF, hI⟩ := hI
      rcases hI with ⟨_, rfl, hC⟩ | ⟨q, _, _⟩
      · obtain ⟨T', r, f1, f2, f3, f4⟩ := one j S k (by omega) hF hC
        by_cases jd : j < d
        · obtain ⟨w', hw⟩ := Option.isSome_iff_exists.mp (h1 j jd)
          obtain ⟨r1, r2⟩ := f3 w' hw
          refine ⟨_, T', by rw [f2, if_pos r1], f1, Or.inl ⟨by omega, rfl, ?_⟩⟩
          rw [sm j jd w' hw]; exact r2
        · obtain rfl : j = d := by omega
          have hnone : actA c t n j (wS c t n w0 j) = none := by
            have := h2 g
            cases z : actA c t n j (wS c t n w0 j) with
            | none => rfl
            | some w' => rw [z] at this; cases this
          obtain ⟨r1, r2⟩ := f4 hnone
          exact ⟨_, T', by rw [f2, if_neg r1], f1, Or.inr ⟨rfl, ⟨_, rfl⟩, r2⟩⟩
      · omega
    · obtain ⟨hF, hI⟩ := hI
      rcases hI with ⟨q, _, _⟩ | ⟨_, ⟨z, rfl⟩, hC⟩
      · omega
      · refine ⟨S, z, ?_, hF, hC⟩
        unfold f_X10_season_46b
        dsimp only
        rw [decide_eq_true g, if_neg (show ¬ (1 : Int32) = 0 by decide)]
        by_cases q : gI S 1 1 ≤ z
        · rw [if_pos q]; rfl
        · rw [if_neg q]; rfl
  · have dL : d = L := by omega
    subst dL
    have h0 := lp_ex (body := f_X10_season_46b e) (Q := fun w => ∃ T1 z, w = e (nI d, flI (decide (d < d)), z) T1 ∧ aF A T1 ∧ CN T1 (wS c t n w0 d)) d (fun j v S => aF A S ∧ v = (nI j, 0, nI (pS t n j)) ∧ CN S (wS c t n w0 j)) (fun j k v S hj hI => ?_) (fun k v S hI => ?_) FU 0 ((0 : Int32), (0 : Int32), (0 : Int32)) A (by omega) (by unfold FU; omega) ⟨aF.rf A, rfl, hN⟩
    · exact h0
    · obtain ⟨hF, rfl, hC⟩ := hI
      obtain ⟨T', r, f1, f2, f3, f4⟩ := one j S k hj hF hC
      obtain ⟨w', hw⟩ := Option.isSome_iff_exists.mp (h1 j hj)
      obtain ⟨r1, r2⟩ := f3 w' hw
      refine ⟨_, T', by rw [f2, if_pos r1], f1, rfl, ?_⟩
      rw [sm j hj w' hw]; exact r2
    · obtain ⟨hF, rfl, hC⟩ := hI
      refine ⟨S, nI (pS t n d), ?_, hF, hC⟩
      unfold f_X10_season_46b
      dsimp only
      rw [hF.1 1 1 (by omega) (by omega) (by omega) (by omega) (by omega) (by omega) (by omega), hT, hP, if_pos (show nI n ≤ nI n by rw [nLe (by omega) (by omega)]; omega), decide_eq_false (show ¬ d < d by omega)]
      rfl
theorem sm_l {B0 : St} {c : Cv} {w0 : Nat → Int32} {t : Nat → Nat} {n L d : Nat} (ok : Cok c) (hW : OkW (cm c) w0) (hE : ME B0 c) (hN : MN B0 w0) (h255 : ∀ i, i < n → t i ≤ 255) (hn : n ≤ 60) (hL : L ≤ 30) (h35 : gI B0 122 35 = nI L) (hA : ∀ j, j < L → pS t n j < n ∧ okA t n (pS t n j)) (hD : ∀ j, j < L → dtA B0 t j (pS t n j)) (hd : d ≤ L) (h1 : ∀ j, j < d → (actA c t n j (wS c t n w0 j)).isSome = true) (h2 : d < L → (actA c t n d (wS c t n w0 d)).isSome = false) (e : Int32 → St → Option (Int32 × St)) : ∃ B1, lp (f_X11_season_64b e) FU (0 : Int32) B0 = e (nI d) B1 ∧ bF B0 B1 ∧ MN B1 (wS c t n w0 d) := by
  have one : ∀ (j : Nat) (S : St), j < L → bF B0 S → MN S (wS c t n w0 j) → gI S 122 35 = nI L ∧ ∃ T', f_X11_does (nI j) S = some (flI (actA c t n j (wS c t n w0 j)).isSome, T') ∧ bF B0 T' ∧ MN T' (wS c t n w0 (j + 1)) := by
    intro j S hj hF hM
    have k35 : gI S 122 35 = nI L := (hF.1 122 35 (by decide) (by decide) (by decide) (by decide)).trans h35
    have hd' : dtA S t j (pS t n j) := by
      obtain ⟨d0, d1, d2, d3⟩ := hD j hj
      have o : ∀ a b, 139 ≤ a → a ≤ 142 → gI S a b = gI B0 a b := fun a b q1 q2 => hF.1 a b (by omega) (by omega) (by omega) (by omega)
      exact ⟨(o _ _ (by omega) (by omega)).trans d0, (o _ _ (by omega) (by omega)).trans d1, fun z => (o _ _ (by omega) (by omega)).trans (d2 z), fun z => (o _ _ (by omega) (by omega)).trans (d3 z)⟩
    obtain ⟨T', q1, q2, q3⟩ := does_m (n := n) ok (wS_ok ok hW hA j (by omega)) (hF.me hE) hM hd' (by omega) h255 (hA j hj).1 hn (hA j hj).2
    exact ⟨k35, T', q1, hF.tr q2, q3⟩
  have h0 := lp_ex (body := f_X11_season_64b e) (Q := fun w => ∃ B1, w = e (nI d) B1 ∧ bF B0 B1 ∧ MN B1 (wS c t n w0 d)) d (fun j v S => v = nI j ∧ bF B0 S ∧ MN S (wS c t n w0 j)) (fun j k v S hj hI => ?_) (fun k v S hI => ?_) FU 0 (0 : Int32) B0 (by omega) (by unfold FU; omega) ⟨rfl, bF.rf B0, hN⟩
  · exact h0
  · obtain ⟨rfl, hF, hM⟩ := hI
    obtain ⟨k35, T', q1, q2, q3⟩ := one j S (by omega) hF hM
    refine ⟨_, T', ?_, rfl, q2, q3⟩
    unfold f_X11_season_64b
    rw [k35, if_neg (by rw [nLe (by omega) (by omega)]; omega), q1, h1 j hj, bd_e, if_neg (show ¬ flI true = 0 by decide), a1]
  · obtain ⟨rfl, hF, hM⟩ := hI
    by_cases g : d < L
    · obtain ⟨k35, T', q1, q2, q3⟩ := one d S g hF hM
      have hs := h2 g
      refine ⟨T', ?_, q2, ?_⟩
      · unfold f_X11_season_64b
        rw [k35, if_neg (by rw [nLe (by omega) (by omega)]; omega), q1, hs, bd_e, if_pos (show flI false = 0 from rfl)]
      · have hnone : actA c t n d (wS c t n w0 d) = none := by
          cases z : actA c t n d (wS c t n w0 d) with
          | none => rfl
          | some w' => rw [z] at hs; cases hs
        have : wS c t n w0 (d + 1) = wS c t n w0 d := by
          show (actA c t n d (wS c t n w0 d)).getD (wS c t n w0 d) = _
          rw [hnone]; rfl
        rw [← this]; exact q3
    · refine ⟨S, ?_, hF, hM⟩
      have k35 : gI S 122 35 = nI L := (hF.1 122 35 (by decide) (by decide) (by decide) (by decide)).trans h35
      unfold f_X11_season_64b
      rw [k35, if_pos (by rw [nLe (by omega) (by omega)]; omega)]
