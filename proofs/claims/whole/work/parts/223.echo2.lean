theorem flI_nar (b : Bool) : vp_nar .boolean (flI b) = flI b := by cases b <;> rfl
/-- a step of the reference -/
theorem goM_s {T : St} {c : Cv} {ar : Nat} (ok : Cok c) (h : CM T ar c) (h1 : ar ≠ 134) (h2 : ar ≠ 135) (h3 : ar ≠ 122) {st left q x : Nat} {l : Pth} (hst : st ≤ 7) (hx : x ≤ 7) (hq : q < cm c) (hE : EMs c T l x) (hl : l.length < 12) (hle : left < 4096) (e k : Int32 × Int32 → St → Option (Unit × St)) : ∃ T', f_X11_laysEcho_24b ar (nI st) e k (nI left, nI q) T = k (nI (clrN left q), optI (nx0 c st (clrN left q) (xN c q x))) T' ∧ offM T T' ∧ EMs c T' (l ++ [(q, decide (cb c q = x))]) (xN c q x) := by
  have h12 := ok12 ok
  obtain ⟨k1, k2, _⟩ := ok.2.1 q hq
  obtain ⟨e1, e2, e3, _⟩ := h.2.1 q hq
  obtain ⟨g1, g2, g3, g4⟩ := hE
  have hx' : xN c q x ≤ 7 := by unfold xN; split <;> omega
  have cl := clrN_le left q
  have oE : offM T (sI (sI (sI (sI (sI T 134 l.length (nI q)) 135 l.length (flI (decide (cb c q = x)))) 122 24 (nI (l.length + 1))) 122 26 (nI (sumD c l + cd c q))) 122 25 (nI (xN c q x))) := by
    refine ⟨fun a b n1 n2 n3 => ?_, fun a b => rfl⟩
    by_cases e : a = 122
    · rw [gI_s, if_pos e, if_neg (by omega), gI_s, if_pos e, if_neg (by omega), gI_s, if_pos e, if_neg (by omega), gI_s, if_neg n2, gI_s, if_neg n1]
    · rw [gI_s, if_neg e, gI_s, if_neg e, gI_s, if_neg e, gI_s, if_neg n2, gI_s, if_neg n1]
  have hC' := oE.c h h1 h2 h3
  have oE4 : offM T (sI (sI (sI (sI T 134 l.length (nI q)) 135 l.length (flI (decide (cb c q = x)))) 122 24 (nI (l.length + 1))) 122 26 (nI (sumD c l + cd c q))) := by
    refine ⟨fun a b n1 n2 n3 => ?_, fun a b => rfl⟩
    by_cases e : a = 122
    · rw [gI_s, if_pos e, if_neg (by omega), gI_s, if_pos e, if_neg (by omega), gI_s, if_neg n2, gI_s, if_neg n1]
    · rw [gI_s, if_neg e, gI_s, if_neg e, gI_s, if_neg n2, gI_s, if_neg n1]
  have hC4 := oE4.c h h1 h2 h3
  have ac := beyond_m ok hC4 hq (nI x)
  rw [xN_i ok hq hx] at ac
  have rd : ∀ v w u, gI (sI (sI (sI T 134 l.length v) 135 l.length w) 122 24 u) ar q = nI (cd c q) := by
    intro v w u
    rw [gI_s, if_neg h3, gI_s, if_neg h2, gI_s, if_neg h1, e3]
  have key : ∀ fl : Int32, fl = flI (decide (cb c q = x)) → f_X11_laysEcho_67 ar (nI st) (nI left) (nI q) (nI l.length) fl k e (sI T 134 l.length (nI q)) = k (nI (clrN left q), optI (nx0 c st (clrN left q) (xN c q x))) (sI (sI (sI (sI (sI T 134 l.length (nI q)) 135 l.length (flI (decide (cb c q = x)))) 122 24 (nI (l.length + 1))) 122 26 (nI (sumD c l + cd c q))) 122 25 (nI (xN c q x))) := by
    intro fl hfl
    subst hfl
    unfold f_X11_laysEcho_67
    have l24 : ∀ v w, gI (sI (sI T 134 l.length v) 135 l.length w) 122 24 = nI l.length := fun _ _ => g1
    have l26 : ∀ v w u, gI (sI (sI (sI T 134 l.length v) 135 l.length w) 122 24 u) 122 26 = nI (sumD c l) := fun _ _ _ => g2
    have l25 : ∀ v w u z, gI (sI (sI (sI (sI T 134 l.length v) 135 l.length w) 122 24 u) 122 26 z) 122 25 = nI x := fun _ _ _ _ => g3
    have l3 : ∀ v w u z y, gI (sI (sI (sI (sI (sI T 134 l.length v) 135 l.length w) 122 24 u) 122 26 z) 122 25 y) 122 3 = nI (cm c) := fun _ _ _ _ _ => h.1
    have ecl : nI left &&& (((1 : Int32) <<< (nI q &&& 31)) ^^^ (-1 : Int32)) = nI (clrN left q) := nClr (by omega)
    rw [if_pos (by rw [inb_nI (by omega)]; omega), lt_e, nI_t (by omega), flI_nar, lt_e, l24, show nI l.length + (1 : Int32) = nI (l.length + 1) from nAdd _ _, lt_e, ecl, if_pos (by rw [inb_nI (by omega)]; omega), lt_e, nI_t (by omega), rd, l26, nAdd, l25, ac, bd_e, lt_e, l3, lt_e]
    have hi := inM ok hC' (st := st) (left := clrN left q) (x := xN c q x) hst hx' (by omega) rfl (fun v18 S19 => k (nI (clrN left q), v18.1) S19) (fun _ _ _ _ => rfl)
    exact hi
  refine ⟨_, ?_, oE, ?_⟩
  · unfold f_X11_laysEcho_24b
    have b1 : ∀ v, gI (sI T 134 l.length v) 125 q = nI (cb c q) := fun _ => e2
    have b2 : ∀ v, gI (sI T 134 l.length v) 122 25 = nI x := fun _ => g3
    have b3 : ∀ v, gI (sI T 134 l.length v) 122 24 = nI l.length := fun _ => g1
    rw [if_neg (not_neg (by omega))]
    simp (disch := omega) only [g1, lit, nLe, inb_nI, hl, if_true, if_false, lt_e, nI_t, show q < 12 by omega, b1, b2, b3]
    by_cases g : cb c q = x
    · have g' : nI (cb c q) = nI x := by rw [g]
      simp only [g', if_true]
      exact key _ (by rw [decide_eq_true g]; rfl)
    · have g' : ¬ nI (cb c q) = nI x := by rw [nEq (by omega) (by omega)]; exact g
      simp only [g', if_false]
      exact key _ (by rw [decide_eq_false g]; rfl)
  · refine ⟨?_, ?_, rfl, fun i hi => ?_⟩
    · rw [List.length_append]; rfl
    · rw [sumD_ap]; rfl
    · rw [getP_ap hi]
      show (if i = l.length then nI q else gI T 134 i) = _ ∧ (if i = l.length then flI (decide (cb c q = x)) else gI T 135 i) = _
      by_cases ei : i = l.length
      · rw [if_pos ei, if_pos ei, if_pos ei]; exact ⟨rfl, rfl⟩
      · rw [if_neg ei, if_neg ei, if_neg ei]
        rw [List.length_append, List.length_singleton] at hi
        exact g4 i (by omega)
theorem xN_le {c : Cv} (ok : Cok c) {q x : Nat} (hq : q < cm c) : xN c q x ≤ 7 := by
  obtain ⟨k1, k2, _⟩ := ok.2.1 q hq
  unfold xN; split <;> omega
theorem nx0_s {c : Cv} {st left x k : Nat} (h : nx0 c st left x = some k) : k < cm c ∧ left.testBit k = true := by
  unfold nx0 at h
  by_cases g : x = st
  · rw [if_pos g] at h; cases h
  · rw [if_neg g] at h
    obtain ⟨a, b, _⟩ := lst_some h
    simp at b
    exact ⟨a, b.1⟩
theorem clr_sub {c : Cv} {left q : Nat} (hs : ∀ i, left.testBit i = true → (co c).testBit i = true) : ∀ i, (clrN left q).testBit i = true → (co c).testBit i = true := by
  intro i hi
  apply hs
  unfold clrN at hi
  rw [Nat.testBit_and] at hi
  simp at hi; exact hi.1
theorem goC_l {c : Cv} (ok : Cok c) {st : Nat} (hst : st ≤ 7) : ∀ (f left q x : Nat) (l : Pth) (T : St) (n : Nat), CC T c → x ≤ 7 → q < cm c → ECs c T l x → l.length + f = 12 → bcn left 12 ≤ f → left.testBit q = true → (∀ i, left.testBit i = true → (co c).testBit i = true) → f < n → ∃ T', lp (f_X2_goes_65b (nI st) (fun v33 S34 => some ((1 : Int32), S34))) n (nI left, nI q) T = some (nI 1, T') ∧ offE T T' ∧ ECs c T' (l ++ (ecN c st f left q x).1) (ecN c st f left q x).2 := by
  intro f
  have h12 := ok12 ok
  induction f with
  | zero =>
    intro left q x l T n hC hx hq hE hl hb ht hs hn
    have := bcn_pos ht (n := 12) (by omega)
    omega
  | succ f ih =>
    intro left q x l T n hC hx hq hE hl hb ht hs hn
    obtain ⟨n', rfl⟩ : ∃ n', n = n' + 1 := ⟨n - 1, by omega⟩
    obtain ⟨T1, s1, s2, s3⟩ := goC_s ok hC hst hx hq hE (by omega) hs (fun v33 S34 => some ((1 : Int32), S34)) (lp (f_X2_goes_65b (nI st) (fun v33 S34 => some ((1 : Int32), S34))) n')
    have hb' := bcn_clr ht (n := 12) (by omega) (by omega)
    show ∃ T', f_X2_goes_65b (nI st) (fun v33 S34 => some ((1 : Int32), S34)) (lp (f_X2_goes_65b (nI st) (fun v33 S34 => some ((1 : Int32), S34))) n') (nI left, nI q) T = some (nI 1, T') ∧ _
    rw [s1]
    cases e : nx0 c st (clrN left q) (xN c q x) with
    | none =>
      have ee : ecN c st (f + 1) left q x = ([(q, decide (cb c q = x))], xN c q x) := by
        rw [ecN, e]
      refine ⟨T1, ?_, s2, by rw [ee]; exact s3⟩
      obtain ⟨n2, rfl⟩ : ∃ n2, n' = n2 + 1 := ⟨n' - 1, by omega⟩
      show f_X2_goes_65b (nI st) (fun v33 S34 => some ((1 : Int32), S34)) (lp (f_X2_goes_65b (nI st) (fun v33 S34 => some ((1 : Int32), S34))) n2) (nI (clrN left q), -1) T1 = _
      unfold f_X2_goes_65b
      rw [if_pos rfl]; rfl
    | some k' =>
      have ee : ecN c st (f + 1) left q x = ((q, decide (cb c q = x)) :: (ecN c st f (clrN left q) k' (xN c q x)).1, (ecN c st f (clrN left q) k' (xN c q x)).2) := by
        rw [ecN, e]
      obtain ⟨a1, a2⟩ := nx0_s e
      obtain ⟨T2, r1, r2, r3⟩ := ih (clrN left q) k' (xN c q x) (l ++ [(q, decide (cb c q = x))]) T1 n' (hC.q s2.q) (xN_le ok hq) a1 s3 (by rw [List.length_append, List.length_singleton]; omega) (by omega) a2 (clr_sub hs) (by omega)
      refine ⟨T2, r1, s2.tr r2, ?_⟩
      rw [ee]
      rw [List.append_assoc] at r3
      exact r3
theorem goM_l {c : Cv} {ar : Nat} (ok : Cok c) (h1 : ar ≠ 134) (h2 : ar ≠ 135) (h3 : ar ≠ 122) {st : Nat} (hst : st ≤ 7) : ∀ (f left q x : Nat) (l : Pth) (T : St) (n : Nat), CM T ar c → x ≤ 7 → q < cm c → EMs c T l x → l.length + f = 12 → bcn left 12 ≤ f → left.testBit q = true → left < 4096 → f < n → ∃ T', lp (f_X11_laysEcho_24b ar (nI st) (fun v27 S28 => some ((), S28))) n (nI left, nI q) T = some ((), T') ∧ offM T T' ∧ EMs c T' (l ++ (ecN c st f left q x).1) (ecN c st f left q x).2 := by
  intro f
  have h12 := ok12 ok
  induction f with
  | zero =>
    intro left q x l T n hC hx hq hE hl hb ht hs hn
    have := bcn_pos ht (n := 12) (by omega)
    omega
  | succ f ih =>
    intro left q x l T n hC hx hq hE hl hb ht hs hn
    obtain ⟨n', rfl⟩ : ∃ n', n = n' + 1 := ⟨n - 1, by omega⟩
    obtain ⟨T1, s1, s2, s3⟩ := goM_s ok hC h1 h2 h3 hst hx hq hE (by omega) hs (fun v27 S28 => some ((), S28)) (lp (f_X11_laysEcho_24b ar (nI st) (fun v27 S28 => some ((), S28))) n')
    have hb' := bcn_clr ht (n := 12) (by omega) (by omega)
    show ∃ T', f_X11_laysEcho_24b ar (nI st) (fun v27 S28 => some ((), S28)) (lp (f_X11_laysEcho_24b ar (nI st) (fun v27 S28 => some ((), S28))) n') (nI left, nI q) T = some ((), T') ∧ _
    rw [s1]
    cases e : nx0 c st (clrN left q) (xN c q x) with
    | none =>
      have ee : ecN c st (f + 1) left q x = ([(q, decide (cb c q = x))], xN c q x) := by
        rw [ecN, e]
      refine ⟨T1, ?_, s2, by rw [ee]; exact s3⟩
      obtain ⟨n2, rfl⟩ : ∃ n2, n' = n2 + 1 := ⟨n' - 1, by omega⟩
      show f_X11_laysEcho_24b ar (nI st) (fun v27 S28 => some ((), S28)) (lp (f_X11_laysEcho_24b ar (nI st) (fun v27 S28 => some ((), S28))) n2) (nI (clrN left q), -1) T1 = _
      unfold f_X11_laysEcho_24b
      rw [if_pos (show (-1 : Int32) < 0 by decide)]
    | some k' =>
      have ee : ecN c st (f + 1) left q x = ((q, decide (cb c q = x)) :: (ecN c st f (clrN left q) k' (xN c q x)).1, (ecN c st f (clrN left q) k' (xN c q x)).2) := by
        rw [ecN, e]
      obtain ⟨a1, a2⟩ := nx0_s e
      have cl := clrN_le left q
      obtain ⟨T2, r1, r2, r3⟩ := ih (clrN left q) k' (xN c q x) (l ++ [(q, decide (cb c q = x))]) T1 n' (s2.c hC h1 h2 h3) (xN_le ok hq) a1 s3 (by rw [List.length_append, List.length_singleton]; omega) (by omega) a2 (by omega) (by omega)
      refine ⟨T2, r1, s2.tr r2, ?_⟩
      rw [ee]
      rw [List.append_assoc] at r3
      exact r3
/-- can an echo be made so -/
def echP (c : Cv) (x y : Int32) : Prop := ∃ q st, q < cm c ∧ st ≤ 7 ∧ y = nI q ∧ x = nI st ∧ (co c).testBit q = true ∧ endN c st q
def pth (c : Cv) (st q : Nat) : Pth := (ecN c st 12 (co c) q st).1
def pen (c : Cv) (st q : Nat) : Nat := (ecN c st 12 (co c) q st).2
theorem goes_y {T : St} {c : Cv} (ok : Cok c) (h : CC T c) {st q : Nat} (hst : st ≤ 7) (hq : q < cm c) (ho : (co c).testBit q = true) (he : endN c st q) : ∃ T', f_X2_goes (nI st) (nI q) T = some (nI 1, T') ∧ offE T T' ∧ ECs c T' (pth c st q) (pen c st q) := by
  have h12 := ok12 ok
  unfold f_X2_goes
  rw [has_e h.1 h12, bd_e]
  have p1 : ¬ nI q < nI 0 ∧ nI q < nI (cm c) := by rw [nLt (by omega) (by omega), nLt (by omega) (by omega)]; omega
  have p2 : nI (ca c q) = nI st ∨ nI (cb c q) = nI st := by rw [endB_n ok hq hst]; exact he
  rw [isOpen_c ok h (by omega)]
  simp only [fl3z, if_pos p1, bd_e, isEnd_c ok h hq, if_pos ho, if_pos p2, lt_e]
  have o0 : offE T (sI (sI (sI T 92 3 0) 92 4 0) 92 5 (nI st)) := ⟨fun a b n1 n2 n3 => by rw [gI_s, if_neg n1, gI_s, if_neg n1, gI_s, if_neg n1], fun _ _ => rfl⟩
  have c0 : gI (sI (sI (sI T 92 3 0) 92 4 0) 92 5 (nI st)) 6 3 = nI (co c) := h.2.2.1
  obtain ⟨T', h1, h2, h3⟩ := goC_l ok hst 12 (co c) q st [] (sI (sI (sI T 92 3 0) 92 4 0) 92 5 (nI st)) FU (h.q o0.q) hst hq ⟨rfl, rfl, rfl, fun i hi => absurd hi (by simp)⟩ rfl (bcn_le _ _) ho (fun _ h => h) (by unfold FU; omega)
  rw [c0]
  exact ⟨T', h1, o0.tr h2, h3⟩
theorem goes_n {T : St} {c : Cv} (ok : Cok c) (h : CC T c) {x y : Int32} (hn : ¬ echP c x y) : f_X2_goes x y T = some (nI 0, T) := by
  have h12 := ok12 ok
  unfold f_X2_goes
  rw [has_e h.1 h12, bd_e]
  simp only [fl3z]
  by_cases g1 : ¬ y < nI 0 ∧ y < nI (cm c)
  · rw [if_pos g1]
    obtain ⟨q, hq, rfl⟩ := as_lt g1.1 g1.2
    rw [isOpen_c ok h (by omega), bd_e]
    simp only [fl3z]
    by_cases g2 : (co c).testBit q = true
    · rw [if_pos g2, isEnd_c ok h hq, bd_e]
      simp only [fl3z]
      by_cases g3 : nI (ca c q) = x ∨ nI (cb c q) = x
      · obtain ⟨k1, k2, _⟩ := ok.2.1 q hq
        exfalso
        apply hn
        rcases g3 with g | g
        · exact ⟨q, ca c q, hq, k1, rfl, g.symm, g2, Or.inl rfl⟩
        · exact ⟨q, cb c q, hq, k2, rfl, g.symm, g2, Or.inr rfl⟩
      · rw [if_neg g3]; rfl
    · rw [if_neg g2]; rfl
  · rw [if_neg g1]; rfl
theorem isE_y {T : St} {c : Cv} {ar : Nat} (ok : Cok c) (h : CM T ar c) {st q : Nat} (hst : st ≤ 7) (hq : q < cm c) (ho : (co c).testBit q = true) (he : endN c st q) : f_X11_isEcho ar (nI st) (nI q) T = some (nI 1, T) := by
  have h12 := ok12 ok
  have hO := okO ok
  unfold f_X11_isEcho
  have p0 : ¬ nI st < nI 0 ∧ ¬ nI 7 < nI st := by rw [nLt (by omega) (by omega), nLt (by omega) (by omega)]; omega
  have p1 : ¬ nI q < nI 0 ∧ nI q < nI (cm c) := by rw [nLt (by omega) (by omega), nLt (by omega) (by omega)]; omega
  have p2 : nI (ca c q) = nI st ∨ nI (cb c q) = nI st := by rw [endB_n ok hq hst]; exact he
  simp only [isCav_m, bd_e, fl3z, if_pos p0, isP_e h.1 h12, if_pos p1, h.2.2.1, has_m T (show co c < 2147483648 by omega) (show q < 32 by omega), if_pos ho, isEnd_m ok h hq, if_pos p2]
  rfl
theorem isE_n {T : St} {c : Cv} {ar : Nat} (ok : Cok c) (h : CM T ar c) {x y : Int32} (hn : ¬ echP c x y) : f_X11_isEcho ar x y T = some (nI 0, T) := by
  have h12 := ok12 ok
  have hO := okO ok
  unfold f_X11_isEcho
  simp only [isCav_m, bd_e, fl3z]
  by_cases g0 : ¬ x < nI 0 ∧ ¬ nI 7 < x
  · obtain ⟨st, hst, rfl⟩ := as_le g0.1 g0.2
    rw [if_pos g0, isP_e h.1 h12, bd_e]
    simp only [fl3z]
    by_cases g1 : ¬ y < nI 0 ∧ y < nI (cm c)
    · rw [if_pos g1]
      obtain ⟨q, hq, rfl⟩ := as_lt g1.1 g1.2
      rw [h.2.2.1, has_m T (by omega) (by omega), bd_e]
      simp only [fl3z]
      by_cases g2 : (co c).testBit q = true
      · rw [if_pos g2, isEnd_m ok h hq, bd_e]
        simp only [fl3z]
        by_cases g3 : nI (ca c q) = nI st ∨ nI (cb c q) = nI st
        · exfalso
          apply hn
          rw [endB_n ok hq hst] at g3
          exact ⟨q, st, hq, hst, rfl, rfl, g2, g3⟩
        · rw [if_neg g3]; rfl
      · rw [if_neg g2]; rfl
    · rw [if_neg g1]; rfl
  · rw [if_neg g0]; rfl
theorem lays_m {T : St} {c : Cv} {ar : Nat} (ok : Cok c) (h : CM T ar c) (h1 : ar ≠ 134) (h2 : ar ≠ 135) (h3 : ar ≠ 122) {st q : Nat} (hst : st ≤ 7) (hq : q < cm c) (ho : (co c).testBit q = true) : ∃ T', f_X11_laysEcho ar (nI st) (nI q) T = some ((), T') ∧ offM T T' ∧ EMs c T' (pth c st q) (pen c st q) := by
  have h12 := ok12 ok
  have hO := okO ok
  unfold f_X11_laysEcho
  simp only [lt_e, h.2.2.1]
  have o0 : offM T (sI (sI (sI T 122 24 0) 122 25 (nI st)) 122 26 0) := by
    refine ⟨fun a b n1 n2 n3 => ?_, fun _ _ => rfl⟩
    by_cases e : a = 122
    · rw [gI_s, if_pos e, if_neg (by omega), gI_s, if_pos e, if_neg (by omega), gI_s, if_pos e, if_neg (by omega)]
    · rw [gI_s, if_neg e, gI_s, if_neg e, gI_s, if_neg e]
  obtain ⟨T', r1, r2, r3⟩ := goM_l ok h1 h2 h3 hst 12 (co c) q st [] (sI (sI (sI T 122 24 0) 122 25 (nI st)) 122 26 0) FU (o0.c h h1 h2 h3) hst hq ⟨rfl, rfl, rfl, fun i hi => absurd hi (by simp)⟩ rfl (bcn_le _ _) ho hO (by unfold FU; omega)
  exact ⟨T', r1, o0.tr r2, r3⟩
theorem ecN_ok {c : Cv} (ok : Cok c) {st : Nat} : ∀ f left q x, q < cm c → x ≤ 7 → (ecN c st f left q x).1.length ≤ f ∧ (∀ p, p ∈ (ecN c st f left q x).1 → p.1 < cm c) ∧ (ecN c st f left q x).2 ≤ 7 ∧ sumD c (ecN c st f left q x).1 ≤ 9 * f := by
  intro f
  induction f with
  | zero => intro left q x hq hx; exact ⟨Nat.le_refl _, (fun p hp => absurd hp (by rw [ecN]; simp)), hx, Nat.le_refl _⟩
  | succ f ih =>
    intro left q x hq hx
    obtain ⟨_, _, _, _, d9, _⟩ := ok.2.1 q hq
    rw [ecN]
    cases e : nx0 c st (clrN left q) (xN c q x) with
    | none =>
      refine ⟨by simp, fun p hp => ?_, xN_le ok hq, ?_⟩
      · rw [List.mem_singleton] at hp; subst hp; exact hq
      · show cd c q + 0 ≤ _
        omega
    | some k' =>
      obtain ⟨a1, a2⟩ := nx0_s e
      obtain ⟨b1, b2, b3, b4⟩ := ih (clrN left q) k' (xN c q x) a1 (xN_le ok hq)
      refine ⟨by simp only [List.length_cons]; omega, fun p hp => ?_, b3, ?_⟩
      · rcases List.mem_cons.mp hp with rfl | hp
        · exact hq
        · exact b2 p hp
      · show cd c q + sumD c _ ≤ _
        omega
