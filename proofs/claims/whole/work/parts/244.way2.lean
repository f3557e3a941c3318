/-! way -/
theorem edg.rev {c : Cv} {o q x y : Nat} (h : edg c o q x y) : edg c o q y x := ⟨h.1, h.2.1, h.2.2.elim (fun z => Or.inr ⟨z.2, z.1⟩) (fun z => Or.inl ⟨z.2, z.1⟩)⟩
theorem WK.rev {c : Cv} {o x y n : Nat} (h : WK c o x y n) : WK c o y x n := by
  obtain ⟨k, h⟩ := h
  revert y n
  induction k with
  | zero => intro y n h; obtain ⟨rfl, rfl⟩ := h; exact WK.nil c o y
  | succ k ih =>
    intro y n h
    obtain ⟨z, n', q, h1, h2, rfl⟩ := h
    have e1 := (WK.nil c o y).snoc h2.rev
    have e2 := e1.app (ih h1)
    rw [show 0 + cd c q + n' = n' + cd c q by omega] at e2
    exact e2
theorem dN_sle {c : Cv} (ok : Cok c) {o x y : Nat} (hy : y < 8) : dN c o y x ≤ dN c o x y := by
  by_cases h : dN c o x y < 1000
  · exact dN_com ok hy (dN_wk h).rev
  · have := dN_le c o y x
    omega
theorem dN_sym {c : Cv} (ok : Cok c) {o x y : Nat} (hx : x < 8) (hy : y < 8) : dN c o x y = dN c o y x := Nat.le_antisymm (dN_sle ok hx) (dN_sle ok hy)
theorem dN_e0 {c : Cv} (ok : Cok c) {o x y : Nat} (h : dN c o x y = 0) : x = y := by
  obtain ⟨k, hk⟩ := dN_wk (c := c) (o := o) (x := x) (y := y) (by omega)
  rw [h] at hk
  cases k with
  | zero => exact hk.1.symm
  | succ k =>
    obtain ⟨z, n', q, h1, h2, h3⟩ := hk
    obtain ⟨_, _, _, d1, d9, _⟩ := ok.2.1 q h2.1
    omega
def wyP (c : Cv) (g x q : Nat) : Bool := (co c).testBit q && (endB c (nI x) q && decide (cd c q + dN c (co c) (xN c q x) g = dN c (co c) x g))
def wyN (c : Cv) (g x : Nat) : Option Nat := lstF (wyP c g x) (cm c)
def wyX (c : Cv) (g x : Nat) : Nat := match wyN c g x with
  | none => x
  | some q => xN c q x
theorem wy_ex {c : Cv} (ok : Cok c) {g x : Nat} (hg : g < 8) (hx : x < 8) (hne : x ≠ g) (hf : dN c (co c) x g < 1000) : ∃ q, wyN c g x = some q ∧ q < cm c ∧ xN c q x < 8 ∧ cd c q + dN c (co c) (xN c q x) g = dN c (co c) x g ∧ 1 ≤ cd c q ∧ cd c q ≤ 9 := by
  have hp : 0 < dN c (co c) x g := by
    apply Decidable.byContradiction
    intro h
    exact hne (dN_e0 (o := co c) ok (by omega))
  have s1 := dN_sym ok (o := co c) hx hg
  obtain ⟨z, q, hz, he, hs⟩ := dN_pre ok (o := co c) (x := g) (y := x) hg (by omega) (by omega)
  have s2 := dN_sym ok (o := co c) hz hg
  obtain ⟨k1, k2, ne, d1, d9, _⟩ := ok.2.1 q he.1
  have ex : xN c q x = z := by
    unfold xN
    rcases he.2.2 with ⟨h1, h2⟩ | ⟨h1, h2⟩
    · rw [if_neg (by omega), h1]
    · rw [if_pos h2, h1]
  have hP : wyP c g x q = true := by
    unfold wyP
    rw [he.2.1, ex, decide_eq_true (by omega)]
    have : endB c (nI x) q = true := by
      unfold endB
      apply decide_eq_true
      rcases he.2.2 with ⟨h1, h2⟩ | ⟨h1, h2⟩
      · exact Or.inr (by rw [h2])
      · exact Or.inl (by rw [h2])
    rw [this]; rfl
  cases e : wyN c g x with
  | none =>
    have := lst_none e q he.1
    rw [hP] at this; cases this
  | some q' =>
    obtain ⟨a1', a2, a3⟩ := lst_some e
    unfold wyP at a2
    simp only [Bool.and_eq_true, decide_eq_true_eq] at a2
    obtain ⟨_, _, _, d1', d9', _⟩ := ok.2.1 q' a1'
    exact ⟨q', rfl, a1', by have := xN_le (x := x) ok a1'; omega, a2.2.2, d1', d9'⟩
def wyI (c : Cv) (g x : Nat) : Nat → Nat := itN (fun _ y => wyX c g y) x
theorem wyI_s (c : Cv) (g x i : Nat) : wyI c g x (i + 1) = wyX c g (wyI c g x i) := rfl
theorem wy_rk {c : Cv} (ok : Cok c) {g x : Nat} (hg : g < 8) (hx : x < 8) (hf : dN c (co c) x g < 1000) : ∀ i, (∀ j, j < i → wyI c g x j ≠ g) → wyI c g x i < 8 ∧ dN c (co c) (wyI c g x i) g < 1000 ∧ rkN c (co c) g (wyI c g x i) + i ≤ 7 := by
  intro i
  induction i with
  | zero => intro _; exact ⟨hx, hf, by have := rk_le (c := c) (o := co c) (x := g) hx; show rkN c (co c) g x + 0 ≤ 7; omega⟩
  | succ i ih =>
    intro h
    obtain ⟨h1, h2, h3⟩ := ih (fun j hj => h j (by omega))
    obtain ⟨q, e1, e2, e3, e4, e5, e6⟩ := wy_ex ok hg h1 (h i (by omega)) h2
    have ex : wyI c g x (i + 1) = xN c q (wyI c g x i) := by
      rw [wyI_s, wyX, e1]
    rw [ex]
    refine ⟨e3, by omega, ?_⟩
    have s1 := dN_sym ok (o := co c) h1 hg
    have s2 := dN_sym ok (o := co c) e3 hg
    have := rk_pre (c := c) (o := co c) (x := g) (y := wyI c g x i) e3 (by omega)
    omega
theorem wy_N {c : Cv} (ok : Cok c) {g x : Nat} (hg : g < 8) (hx : x < 8) (hf : dN c (co c) x g < 1000) : ∃ N, N ≤ 7 ∧ wyI c g x N = g ∧ ∀ j, j < N → wyI c g x j ≠ g := by
  cases e : lstF (fun i => decide (wyI c g x i = g)) 8 with
  | none =>
    have hn := lst_none e
    have := (wy_rk ok hg hx hf 8 (fun j hj => of_decide_eq_false (hn j hj))).2.2
    omega
  | some N =>
    obtain ⟨a1', a2, a3⟩ := lst_some e
    exact ⟨N, by omega, of_decide_eq_true a2, fun j hj => of_decide_eq_false (a3 j hj)⟩
theorem first_s {T : St} {c : Cv} (ok : Cok c) (hC : CC T c) (h : DA T 99 (dN c (co c))) {g x q : Nat} (hg : g < 8) (hx : x < 8) (e : wyN c g x = some q) : f_X9_firstStep (nI x) (nI g) T = some (nI q, T) := by
  have h12 := ok12 ok
  obtain ⟨a1', a2, a3⟩ := lst_some e
  have step : ∀ i, i < cm c → ∀ (e k : Int32 → St → Option (Int32 × St)), f_X9_firstStep_2b (nI x) (nI g) e k (nI i) T = (if wyP c g x i = true then some (nI i, T) else k (nI (i + 1)) T) := by
    intro i hi e k
    obtain ⟨k1, k2, ne, d1, d9, _⟩ := ok.2.1 i hi
    have hx8 := xN_le (x := x) ok hi
    have l1 := dN_le c (co c) (xN c i x) g
    have l2 := dN_le c (co c) x g
    unfold f_X9_firstStep_2b f_X9_firstStep_78 wyP
    rw [hC.1, if_neg (by rw [nLe (by omega) (by omega)]; omega), isOpen_c ok hC (by omega), bd_e]
    simp only [fl3z]
    cases g1 : (co c).testBit i with
    | false => rw [if_neg (by simp), if_neg (by simp), a1]
    | true =>
      rw [if_pos rfl, isEnd_c ok hC hi, bd_e]
      simp only [fl3z]
      by_cases g2 : nI (ca c i) = nI x ∨ nI (cb c i) = nI x
      · have gb : endB c (nI x) i = true := decide_eq_true g2
        rw [if_pos g2, gb, across_c ok hC hi, xN_i ok hi (by omega), bd_e, far_c h (by omega) hg, bd_e, if_pos (show inb (nI i) 12 by rw [inb_nI (by omega)]; omega), far_c h hx hg, bd_e, nI_t (by omega), (hC.2.1 i hi).2.2.1, nAdd]
        by_cases g3 : cd c i + dN c (co c) (xN c i x) g = dN c (co c) x g
        · rw [if_pos (by rw [g3]), if_pos (by rw [decide_eq_true g3]; rfl)]
        · rw [if_neg (by rw [nEq (by omega) (by omega)]; exact g3), if_neg (by rw [decide_eq_false g3]; simp), a1]
      · have gb : endB c (nI x) i = false := decide_eq_false g2
        rw [if_neg g2, gb, if_neg (by simp), a1]
  refine lp_for (body := f_X9_firstStep_2b (nI x) (nI g) (fun v17 S18 => some ((-1 : Int32), S18))) q (fun i => (nI i, T)) (out := some (nI q, T)) (fun i k hi => ?_) (fun k => ?_) FU 0 (by omega) (by unfold FU; omega)
  · rw [step i (by omega), if_neg (by rw [a3 i hi]; simp)]
  · rw [step q a1', if_pos a2]
theorem next_m {T : St} {c : Cv} (ok : Cok c) (hC : CM T 126 c) (h : DA T 136 (dM c (co c))) {g x : Nat} (hg : g < 8) (hx : x < 8) (hf : dN c (co c) x g < 1000) (x1 : Int32) (e : Int32 × Int32 → St → Option (Int32 × St)) (he : ∀ a b b' S, e (a, b) S = e (a, b') S) : lp (f_X11_way_67b x1 (nI g) (nI x) e) FU (-1, nI (cm c) - 1) T = e (optI (wyN c g x), 0) T := by
  have h12 := ok12 ok
  have hO := okO ok
  have := lp_for (body := f_X11_way_67b x1 (nI g) (nI x) e) (cm c) (fun i => ((optI (lstF (fun j => decide (cm c - i ≤ j) && wyP c g x j) (cm c)), nI (cm c - i) - 1), T)) (out := e (optI (wyN c g x), 0) T) (fun i k hi => ?_) (fun k => ?_) FU 0 (by omega) (by unfold FU; omega)
  · rw [lst_no (p := fun j => decide (cm c - 0 ≤ j) && wyP c g x j) (fun j hj => by rw [decide_eq_false (by omega)]; rfl)] at this
    exact this
  · have ej : nI (cm c - i) - 1 = nI (cm c - i - 1) := by rw [lit, nSub (by omega)]
    have st1 := lst_step (p := wyP c g x) (t := cm c - i) (m := cm c) (by omega) (by omega)
    have en : nI (cm c - i - 1) + -1 = nI (cm c - (i + 1)) - 1 := by
      rw [show cm c - (i + 1) = cm c - i - 1 by omega]
      rw [Int32.sub_eq_add_neg]
    rw [show cm c - (i + 1) = cm c - i - 1 by omega] at en ⊢
    rw [st1]
    have hq : cm c - i - 1 < cm c := by omega
    generalize cm c - i - 1 = q at ej en hq
    obtain ⟨k1, k2, ne, d1, d9, _⟩ := ok.2.1 q hq
    have hx8 := xN_le (x := x) ok hq
    have l1 := dN_le c (co c) (xN c q x) g
    unfold f_X11_way_67b f_X11_way_101 f_X11_way_102 f_X11_way_143 f_X11_way_145
    simp only [ej]
    rw [if_neg (not_neg (by omega)), hC.2.2.1, has_m _ (by omega) (by omega), bd_e]
    simp only [fl3z]
    rw [en]
    cases g1 : (co c).testBit q with
    | false =>
      have hw : ¬ wyP c g x q = true := by unfold wyP; rw [g1]; simp
      rw [if_neg (by simp), if_pos trivial, if_neg hw]
    | true =>
      rw [if_pos rfl, isEnd_m ok hC hq, bd_e]
      simp only [fl3z]
      by_cases g2 : nI (ca c q) = nI x ∨ nI (cb c q) = nI x
      · have gb : endB c (nI x) q = true := decide_eq_true g2
        rw [if_pos g2, if_neg (show ¬ (1 : Int32) = 0 by decide), if_pos (show inb (nI q) 39 by rw [inb_nI (by omega)]; omega), beyond_m ok hC hq, xN_i ok hq (by omega), bd_e, far_m h (by omega) hg, bd_e, far_m h hx hg, bd_e, nI_t (by omega), (hC.2.1 q hq).2.2.1, nAdd, show dM c (co c) x g = dN c (co c) x g from dM_n (decide_eq_true hf)]
        by_cases g3 : cd c q + dN c (co c) (xN c q x) g = dN c (co c) x g
        · have hw : wyP c g x q = true := by unfold wyP; rw [g1, gb, decide_eq_true g3]; rfl
          have ez : dM c (co c) (xN c q x) g = dN c (co c) (xN c q x) g := dM_n (decide_eq_true (by omega))
          rw [ez, if_pos (by rw [g3]), if_pos hw]; rfl
        · have hw : ¬ wyP c g x q = true := by unfold wyP; rw [decide_eq_false g3]; simp
          have nz : ¬ cd c q + dM c (co c) (xN c q x) g = dN c (co c) x g := by
            by_cases z : dN c (co c) (xN c q x) g < 1000
            · rw [dM_n (decide_eq_true z)]; exact g3
            · rw [dM_z (decide_eq_false z)]; omega
          have dl := dM_le c (co c) (xN c q x) g
          rw [if_neg (by rw [nEq (by omega) (by omega)]; exact nz), if_neg hw]
      · have gb : endB c (nI x) q = false := decide_eq_false g2
        have hw : ¬ wyP c g x q = true := by unfold wyP; rw [gb]; simp
        rw [if_neg g2, if_pos trivial, if_neg hw]
  · unfold f_X11_way_67b
    have ej : nI (cm c - cm c) - 1 < (0 : Int32) := by rw [Nat.sub_self]; decide
    simp only [ej, if_true]
    rw [he _ _ 0]
    congr 2
    congr 1
    apply lst_eq
    intro j; simp
theorem eq_way : ∀ a1 a2 : Int32, EQ1 RelP (f_X10_way a1 a2) (f_X11_way a1 a2) := by
  intro x y
  apply qr
  intro S c o r hS ok hC hM
  have hO := okO ok
  have h12 := ok12 ok
  by_cases g0 : ¬ x < nI 0 ∧ ¬ nI 7 < x
  · by_cases g1 : ¬ y < nI 0 ∧ ¬ nI 7 < y
    · obtain ⟨a, ha, rfl⟩ := as_le g0.1 g0.2
      obtain ⟨b, hb, rfl⟩ := as_le g1.1 g1.2
      obtain ⟨T1, m1', m2, m3⟩ := meas_c ok hC.1
      have hl := dN_le c (co c) a b
      by_cases hj : dN c (co c) a b < 1000
      · obtain ⟨N, hN7, hN1, hN2⟩ := wy_N ok (show b < 8 by omega) (show a < 8 by omega) hj
        have rk := wy_rk ok (show b < 8 by omega) (show a < 8 by omega) hj
        refine ⟨nI (dN c (co c) a b), some (rowF (fun i => optI (wyN c b (wyI c b a i))) N), (fun l e => by cases e; rw [rowF_l]; omega), ?_, fun S1 hM1 q1 => ?_⟩
        · unfold f_X10_way
          rw [isCav_c, if_pos g0, bd_e, if_neg n1z, isCav_c, if_pos g1, bd_e, if_neg n1z, m1', bd_e, far_c m3 (by omega) (by omega), bd_e, if_neg (show ¬ nI (dN c (co c) a b) = 1000 by rw [lit, nEq (by omega) (by omega)]; omega), begin_e, bd_e]
          have h0 := lp_ex (body := f_X10_way_56b (nI b) (nI (dN c (co c) a b)) (fun v25 S26 => some (nI (dN c (co c) a b), S26))) (Q := fun w => AC w S (nI (dN c (co c) a b)) (some (rowF (fun i => optI (wyN c b (wyI c b a i))) N))) N (fun i v T => v = (nI (wyI c b a i), nI i) ∧ QC S T ∧ DA T 99 (dN c (co c)) ∧ RwC T (rowF (fun i => optI (wyN c b (wyI c b a i))) i)) (fun i k v T hi hI => ?_) (fun k v T hI => ?_) FU 0 (nI a, (0 : Int32)) (sI T1 10 1 0) (by omega) (by unfold FU; omega) ⟨rfl, m2.q.tr (q10 T1 0), m3.p e10, RwC.nil T1⟩
          · exact h0
          · obtain ⟨rfl, w1, w2, w3⟩ := hI
            obtain ⟨r1, r2, r3⟩ := rk i (fun j hj => hN2 j (by omega))
            obtain ⟨q, e1, e2, e3, e4, e5, e6⟩ := wy_ex ok (show b < 8 by omega) r1 (hN2 i hi) r2
            have hCT := (hC.q w1).1
            obtain ⟨T2, p1', p2, p3, p4⟩ := put_e (nI q).toInt64 w3 (by rw [rowF_l]; omega)
            refine ⟨(nI (wyI c b a (i + 1)), nI (i + 1)), T2, ?_, rfl, w1.tr p2, w2.p p4, ?_⟩
            · unfold f_X10_way_56b f_X10_way_110
              simp only
              rw [if_neg (nLe8 (show i < 8 by omega)), if_neg (by rw [nEq (by omega) (by omega)]; exact hN2 i hi), first_s ok hCT w2 (by omega) r1 e1, bd_e, if_neg (nne (by omega)), p1', bd_e, across_c ok (hCT.q p2) e2, xN_i ok e2 (by omega), bd_e, a1, wyI_s, wyX, e1]
            · rw [rowF, e1]; exact p3
          · obtain ⟨rfl, w1, w2, w3⟩ := hI
            refine AC.y (S1 := T) ?_ w1 w3
            unfold f_X10_way_56b
            simp only
            rw [if_neg (nLe8 (show N < 8 by omega)), hN1, if_pos rfl]
        · have hM0 := (hM1.q (q00 S1 0)).1
          obtain ⟨U1, n1', n2, n3⟩ := lays_far ok hM0 hO
          unfold f_X11_way
          rw [lt_e, isCav_m, if_pos g0, bd_e, if_neg n1z, isCav_m, if_pos g1, bd_e, if_neg n1z, hM0.2.2.1, n1', bd_e, areJ_m n3 (by omega) (by omega), bd_e, show jnB c (co c) a b = true from decide_eq_true hj, if_neg (show ¬ flI true = 0 by decide), lt_e]
          have h0 := lp_ex (body := f_X11_way_51b (nI a) (nI b) (fun v40 S41 => bd (f_X11_farOf (nI a) (nI b) S41) (fun r42 S43 => some (r42, S43)))) (Q := fun w => AM w S1 (nI (dN c (co c) a b)) (some (rowF (fun i => optI (wyN c b (wyI c b a i))) N))) N (fun i v T => v = nI (wyI c b a i) ∧ QM S1 T ∧ DA T 136 (dM c (co c)) ∧ RwM T (rowF (fun i => optI (wyN c b (wyI c b a i))) i)) (fun i k v T hi hI => ?_) (fun k v T hI => ?_) FU 0 (nI a) (sI U1 122 1 0) (by omega) (by unfold FU; omega) ⟨rfl, ((q00 S1 0).tr n2.q).tr (q01 U1 0), n3.r e01, RwM.nil U1⟩
          · exact h0
          · obtain ⟨rfl, w1, w2, w3⟩ := hI
            obtain ⟨r1, r2, r3⟩ := rk i (fun j hj => hN2 j (by omega))
            obtain ⟨q, e1, e2, e3, e4, e5, e6⟩ := wy_ex ok (show b < 8 by omega) r1 (hN2 i hi) r2
            have hCT := (hM1.q w1).1
            obtain ⟨T2, p1', p2, p3, p4⟩ := ent_e (nI q).toInt64 w3 (by rw [rowF_l]; omega)
            refine ⟨nI (wyI c b a (i + 1)), T2, ?_, rfl, w1.tr p2, w2.r p4, ?_⟩
            · unfold f_X11_way_51b
              rw [if_neg (by rw [nEq (by omega) (by omega)]; exact hN2 i hi), hCT.1, lt_e]
              refine (next_m ok hCT w2 (by omega) r1 r2 _ _ (fun _ _ _ _ => rfl)).trans ?_
              simp only [e1]
              show bd (f_X11_enters (nI q).toInt64 T) _ = _
              rw [p1', bd_e]
              show bd (f_X11_beyond (nI q) _ T2) _ = _
              rw [beyond_m ok (hCT.q p2) e2, xN_i ok e2 (by omega), bd_e, wyI_s, wyX, e1]
            · rw [rowF, e1]; exact p3
          · obtain ⟨rfl, w1, w2, w3⟩ := hI
            refine AM.y (S1 := T) ?_ w1 w3
            unfold f_X11_way_51b
            rw [hN1, if_pos rfl]
            dsimp only
            rw [far_m w2 (by omega) (by omega), bd_e, show dM c (co c) a b = dN c (co c) a b from dM_n (decide_eq_true hj)]
      · refine ⟨-2, none, (fun l e => by cases e), ?_, fun S1 hM1 q1 => ?_⟩
        · refine AC.n (S1 := T1) ?_ m2.q (m2.1 10 1 rfl) (fun k => m2.2 11 k rfl)
          unfold f_X10_way
          rw [isCav_c, if_pos g0, bd_e, if_neg n1z, isCav_c, if_pos g1, bd_e, if_neg n1z, m1', bd_e, far_c m3 (by omega) (by omega), bd_e, if_pos (show nI (dN c (co c) a b) = 1000 by rw [lit, nEq (by omega) (by omega)]; omega)]
        · have hM0 := (hM1.q (q00 S1 0)).1
          obtain ⟨U1, n1', n2, n3⟩ := lays_far ok hM0 hO
          refine AM.n (S1 := U1) ?_ ((q00 S1 0).tr n2.q) (n2.1 122 1 rfl) (fun k => n2.2 123 k rfl)
          unfold f_X11_way
          rw [lt_e, isCav_m, if_pos g0, bd_e, if_neg n1z, isCav_m, if_pos g1, bd_e, if_neg n1z, hM0.2.2.1, n1', bd_e, areJ_m n3 (by omega) (by omega), bd_e, show jnB c (co c) a b = false from decide_eq_false hj, if_pos (show flI false = 0 from rfl)]
    · refine ⟨-1, none, (fun l e => by cases e), ?_, fun S1 hM1 q1 => ?_⟩
      · refine AC.n (S1 := S) ?_ (Sm.rf S)
        unfold f_X10_way
        rw [isCav_c, if_pos g0, bd_e, if_neg n1z, isCav_c, ncav g1, bd_e, if_pos z00]
      · refine AM.n (S1 := sI S1 122 0 0) ?_ (q00 S1 0)
        unfold f_X11_way
        rw [lt_e, isCav_m, if_pos g0, bd_e, if_neg n1z, isCav_m, ncav g1, bd_e, if_pos z00]
  · refine ⟨-1, none, (fun l e => by cases e), ?_, fun S1 hM1 q1 => ?_⟩
    · refine AC.n (S1 := S) ?_ (Sm.rf S)
      unfold f_X10_way
      rw [isCav_c, ncav g0, bd_e, if_pos z00]
    · refine AM.n (S1 := sI S1 122 0 0) ?_ (q00 S1 0)
      unfold f_X11_way
      rw [lt_e, isCav_m, ncav g0, bd_e, if_pos z00]
