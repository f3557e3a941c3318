/-! halves: both programs -/
theorem sh0 : ∀ b, b ≤ 7 → (0 : Int32) <<< (nI b &&& 31) = nI 0 := by decide
theorem btI {X a b : Nat} (hX : X < 2147483648) (ha : a ≤ 7) (hb : b ≤ 7) : ((nI X >>> (nI a &&& 31)) &&& 1) <<< (nI b &&& 31) = nI (bt (X.testBit a) b) := by
  unfold bt
  have h := hasN (j := X) (n := a) hX (by omega)
  cases g : X.testBit a with
  | true =>
    rw [g] at h
    rw [if_pos rfl, show (nI X >>> (nI a &&& 31)) &&& (1 : Int32) = nI 1 from h.mpr rfl]
    exact nShl (by omega)
  | false =>
    have e : (X >>> a) &&& 1 = 0 := by
      have h1 : ¬ (X >>> a) &&& 1 = 1 := by rw [tb1, g]; simp
      rw [Nat.and_one_is_mod] at h1 ⊢
      omega
    rw [if_neg (by simp), show (nI X >>> (nI a &&& 31)) = nI (X >>> a) from nShr hX (by omega), show (1 : Int32) = nI 1 from rfl, nAnd, e]
    exact sh0 b hb
theorem ac_lt {c : Cv} (ok : Cok c) {X q : Nat} (hq : q ≤ cm c) : acA c X q < 256 := by
  show _ < 2 ^ 8
  apply Nat.lt_pow_two_of_testBit
  intro y hy
  cases g : (acA c X q).testBit y with
  | false => rfl
  | true =>
    obtain ⟨q', z, h1, h2, h3⟩ := (ac_tb q hq).mp g
    obtain ⟨k1, k2, _⟩ := ok.2.1 q' h2.1
    have := h2.2.2
    omega
theorem acr_c {T : St} {c : Cv} (ok : Cok c) (hC : CC T c) {X : Nat} (hX : X < 256) : f_X9_acrossOf (nI X) T = some (nI (acA c X (cm c)), T) := by
  have h12 := ok12 ok
  refine lp_for (body := f_X9_acrossOf_4b (nI X) (fun v12 S13 => some (v12.1, S13))) (cm c) (fun q => ((nI (acA c X q), nI q), T)) (out := some (nI (acA c X (cm c)), T)) (fun q k hq => ?_) (fun k => ?_) FU 0 (by omega) (by unfold FU; omega)
  · rw [acA_s c X q]
    unfold f_X9_acrossOf_4b f_X9_acrossOf_78 acQ
    simp only
    obtain ⟨o1, o2, _⟩ := ok.2.1 q hq
    have w : inb (nI q) 12 := by rw [inb_nI (by omega)]; omega
    rw [hC.1, if_neg (by rw [nLe (by omega) (by omega)]; omega), isOpen_c ok hC (by omega), bd_e]
    simp only [fl3z, if_pos w, nI_t (show q < 2147483648 by omega), (hC.2.1 q hq).1, (hC.2.1 q hq).2.1, lt_e]
    cases g : (co c).testBit q with
    | false => rw [if_neg (by simp), if_neg (by simp), a1]
    | true => rw [if_pos rfl, if_pos rfl, btI (by omega) o1 o2, btI (by omega) o2 o1, nOr, nOr, a1]
  · unfold f_X9_acrossOf_4b
    simp only
    rw [hC.1, if_pos (by rw [nLe (by omega) (by omega)]; omega)]
theorem fhI_c {T : St} {c : Cv} (ok : Cok c) (hC : CC T c) {i : Nat} {a : Nat × Nat} (hi : i ≤ 8) (h : hvS c i a) (x1 x4 : Int32) (e : Int32 × Int32 × Int32 → St → Option (Int32 × St)) : lp (f_X9_firstHalf_50b x1 x4 e) FU (nI a.1, nI a.2, 0) T = e (nI (hcT c a 8).1, nI (hcT c a 8).2, nI 8) T := by
  refine lp_for (body := f_X9_firstHalf_50b x1 x4 e) 8 (fun t => ((nI (hcT c a t).1, nI (hcT c a t).2, nI t), T)) (out := e (nI (hcT c a 8).1, nI (hcT c a 8).2, nI 8) T) (fun t k ht => ?_) (fun k => ?_) FU 0 (by omega) (by unfold FU; omega)
  · have hl := (hcT_s h t).lt ok hi
    have hl2 := (hcR_s (hcT_s h t)).lt ok hi
    unfold f_X9_firstHalf_50b
    simp only
    rw [if_neg (nLe8 ht), acr_c ok hC hl.1, bd_e, lt_e, nOr, acr_c ok hC (X := (hcT c a t).2 ||| acA c (hcT c a t).1 (cm c)) hl2.2, bd_e, lt_e, nOr, a1]
    rfl
  · unfold f_X9_firstHalf_50b
    simp only
    rw [if_pos (show (8 : Int32) ≤ nI 8 by decide)]
theorem fh_c {T : St} {c : Cv} (ok : Cok c) (hC : CC T c) : f_X9_firstHalf T = some (if (hcA c 8).1 &&& (hcA c 8).2 = 0 then nI (hcA c 8).1 else -1, T) := by
  unfold f_X9_firstHalf
  rw [ent_c ok hC, bd_e]
  have hl8 := (hcA_i (c := c) 8 (by omega)).1.lt ok (by omega)
  refine lp_for (body := f_X9_firstHalf_15b (nI (etN c)) (fun v16 S17 => (if (v16.1 &&& v16.2.1) = 0 then some (v16.1, S17) else some ((-1 : Int32), S17)))) 8 (fun i => ((nI (hcA c i).1, nI (hcA c i).2, nI i), T)) (out := some (if (hcA c 8).1 &&& (hcA c 8).2 = 0 then nI (hcA c 8).1 else -1, T)) (fun i k hi => ?_) (fun k => ?_) FU 0 (by omega) (by unfold FU; omega)
  · have he : etN c < 256 := orN_lt (etB c) 8
    have tb : (etN c).testBit i = etB c i := by unfold etN; rw [orN_tb, decide_eq_true hi, Bool.true_and]
    generalize hM : (etN c &&& ((hcA c i).1 ^^^ 4294967295)) &&& ((hcA c i).2 ^^^ 4294967295) = M
    have hM2 : M < 2147483648 := by rw [← hM]; exact Nat.lt_of_le_of_lt (Nat.le_trans Nat.and_le_left Nat.and_le_left) (by omega)
    have tM : M.testBit i = hpB c i := by
      rw [← hM, Nat.testBit_and, Nat.testBit_and, Nat.testBit_xor, Nat.testBit_xor, show (4294967295 : Nat) = 2 ^ 32 - 1 from rfl, Nat.testBit_two_pow_sub_one, decide_eq_true (show i < 32 by omega), tb, ← hc_lf ok hi]
      simp
    unfold f_X9_firstHalf_15b f_X9_firstHalf_79
    simp only
    rw [if_neg (nLe8 hi), hcA_s c i, show (-1 : Int32) = nI 4294967295 by decide, nXor, nXor, nAnd, nAnd, hM, lt_e]
    have hh := hasN (j := M) (n := i) hM2 (by omega)
    rw [tM] at hh
    cases g : hpB c i with
    | false =>
      rw [g] at hh
      rw [if_neg (show ¬ (nI M >>> (nI i &&& 31)) &&& (1 : Int32) = (1 : Int32) from fun z => by have := hh.mp z; cases this), if_neg (by simp), a1]
    | true =>
      rw [g] at hh
      rw [if_pos (show (nI M >>> (nI i &&& 31)) &&& (1 : Int32) = (1 : Int32) from hh.mpr rfl), if_pos rfl, lt_e, show (nI (hcA c i).1 ||| ((1 : Int32) <<< (nI i &&& 31))) = nI ((hcA c i).1 ||| 2 ^ i) by rw [show (1 : Int32) <<< (nI i &&& 31) = nI (2 ^ i) from nShl (by omega), nOr]]
      have hs := (hcA_i (c := c) i (by omega)).1.ad g
      refine (fhI_c ok hC (a := ((hcA c i).1 ||| 2 ^ i, (hcA c i).2)) (by omega) hs _ _ _).trans ?_
      simp only [a1]
  · unfold f_X9_firstHalf_15b
    simp only
    rw [if_pos (show (8 : Int32) ≤ nI 8 by decide), nAnd]
    have hb : (hcA c 8).1 &&& (hcA c 8).2 < 2147483648 := Nat.lt_of_le_of_lt Nat.and_le_left (by omega)
    by_cases z : (hcA c 8).1 &&& (hcA c 8).2 = 0
    · rw [if_pos (show nI ((hcA c 8).1 &&& (hcA c 8).2) = 0 by rw [z]; rfl), if_pos z]
    · rw [if_neg (show ¬ nI ((hcA c 8).1 &&& (hcA c 8).2) = 0 by rw [lit, nEq hb (by omega)]; exact z), if_neg z]
theorem hi_m {T : St} {c : Cv} (ok : Cok c) (h : DA T 136 (dM c (co c))) (x3 : Int32) (e : Int32 × Int32 → St → Option (Int32 × St)) : lp (f_X11_halves_28b (nI (etN c)) x3 e) FU (0, 0) T = e (nI (orN (hpB c) 8), nI 8) T := by
  have hl : etN c < 256 := orN_lt (etB c) 8
  refine lp_for (body := f_X11_halves_28b (nI (etN c)) x3 e) 8 (fun i => ((nI (orN (hpB c) i), nI i), T)) (out := e (nI (orN (hpB c) 8), nI 8) T) (fun i k hi => ?_) (fun k => ?_) FU 0 (by omega) (by unfold FU; omega)
  · have tb : (etN c).testBit i = etB c i := by unfold etN; rw [orN_tb, decide_eq_true hi, Bool.true_and]
    unfold f_X11_halves_28b f_X11_halves_66 f_X11_halves_67
    simp only
    rw [if_neg (nLe8 hi), has_m T (by omega) (by omega), bd_e, tb, ← orN_s (p := hpB c) (n := i) (by omega)]
    simp only [fl3z]
    cases g : etB c i with
    | false =>
      have hb : hpB c i = false := by unfold hpB; rw [g]; rfl
      rw [if_neg (by simp), lt_e, hb, if_neg (by simp), a1, Int32.or_zero]
    | true =>
      have hb : hpB c i = alN (fun j => !jnB c (co c) i j) i := by unfold hpB; rw [g, Bool.true_and]
      rw [if_pos rfl, join_m h hi, bd_e, tz_e, bd_e, hb]
      by_cases g2 : alN (fun j => !jnB c (co c) i j) i = true
      · rw [if_pos ((ntz_e (co c) i hi).mpr g2), lt_e, if_pos g2, a1]; rfl
      · rw [if_neg (fun z => g2 ((ntz_e (co c) i hi).mp z)), lt_e, if_neg g2, a1, Int32.or_zero]
  · unfold f_X11_halves_28b
    simp only
    rw [if_pos (show (8 : Int32) ≤ nI 8 by decide)]
theorem btF {P a b : Nat} (hP : P < 256) (ha : a ≤ 7) (F : Int32 → Option (Int32 × St)) : (if (nI P &&& nI (2 ^ a)) = 0 then F 0 else F (nI (2 ^ b))) = F (nI (bt (P.testBit a) b)) := by
  have hb : P &&& 2 ^ a < 2147483648 := Nat.lt_of_le_of_lt Nat.and_le_left (by omega)
  have e : (P &&& 2 ^ a = 0) ↔ P.testBit a = false := by
    rw [and_0]
    constructor
    · intro h
      cases g : P.testBit a with
      | false => rfl
      | true => exact (h a g (by rw [Nat.testBit_two_pow]; simp)).elim
    · intro h y h1 h2
      rw [Nat.testBit_two_pow] at h2
      have := of_decide_eq_true h2
      subst this
      rw [h] at h1; cases h1
  rw [nAnd]
  unfold bt
  cases g : P.testBit a with
  | false => rw [if_pos (show nI (P &&& 2 ^ a) = 0 by rw [e.mpr g]; rfl), if_neg (by simp)]; rfl
  | true => rw [if_neg (show ¬ nI (P &&& 2 ^ a) = 0 by rw [lit, nEq hb (by omega), e, g]; simp), if_pos rfl]
theorem hmR_i {T : St} {c : Cv} (ok : Cok c) (hM : CM T 126 c) {a : Nat × Nat} (h : hvS c 8 a) (x4 : Int32) (e : Int32 × Int32 × Int32 → St → Option (Int32 × St)) : lp (f_X11_halves_88b x4 e) FU (nI a.1, nI a.2, 0) T = e (nI (hmR c a (cm c)).1, nI (hmR c a (cm c)).2, nI (cm c)) T := by
  have h12 := ok12 ok
  have hO := okO ok
  refine lp_for (body := f_X11_halves_88b x4 e) (cm c) (fun q => ((nI (hmR c a q).1, nI (hmR c a q).2, nI q), T)) (out := e (nI (hmR c a (cm c)).1, nI (hmR c a (cm c)).2, nI (cm c)) T) (fun q k hq => ?_) (fun k => ?_) FU 0 (by omega) (by unfold FU; omega)
  · have hs := hmR_sn h q (by omega)
    have hl := hs.lt ok (by omega)
    have hl2 := (hmQ_s hq hs).lt ok (by omega)
    obtain ⟨o1, o2, _⟩ := ok.2.1 q hq
    have w : inb (nI q) 12 := by rw [inb_nI (by omega)]; omega
    rw [hmR_s c a q]
    generalize hmR c a q = b at hl hl2
    unfold hmQ at hl2 ⊢
    unfold f_X11_halves_88b
    simp only
    rw [hM.1, if_neg (by rw [nLe (by omega) (by omega)]; omega), hM.2.2.1, has_m T (by omega) (by omega), bd_e]
    simp only [fl3z, if_pos w, nI_t (show q < 2147483648 by omega), (hM.2.1 q hq).1, (hM.2.1 q hq).2.1, lt_e]
    rw [show (1 : Int32) <<< (nI (ca c q) &&& 31) = nI (2 ^ ca c q) from nShl (by omega), show (1 : Int32) <<< (nI (cb c q) &&& 31) = nI (2 ^ cb c q) from nShl (by omega)]
    cases g : (co c).testBit q with
    | false =>
      unfold f_X11_halves_198
      rw [if_neg (by simp), if_neg (by simp), a1]
    | true =>
      rw [g, if_pos rfl] at hl2
      rw [if_pos rfl, if_pos rfl]
      refine (btF hl.1 o1 (fun s => f_X11_halves_148 (nI b.1) x4 (nI q) (nI (2 ^ ca c q)) (nI (2 ^ cb c q)) (nI b.2) s k e T)).trans ?_
      unfold f_X11_halves_148
      rw [lt_e, nOr]
      refine (btF hl.1 o2 (fun s => f_X11_halves_164 (nI b.1) x4 (nI q) (nI (2 ^ ca c q)) (nI (2 ^ cb c q)) (nI (b.2 ||| bt (b.1.testBit (ca c q)) (cb c q))) s k e T)).trans ?_
      unfold f_X11_halves_164
      rw [lt_e, nOr]
      generalize hB : b.2 ||| bt (b.1.testBit (ca c q)) (cb c q) ||| bt (b.1.testBit (cb c q)) (ca c q) = B at hl2 ⊢
      refine (btF (P := B) hl2.2 o1 (fun s => f_X11_halves_180 (nI B) x4 (nI q) (nI (2 ^ ca c q)) (nI (2 ^ cb c q)) (nI b.1) s k e T)).trans ?_
      unfold f_X11_halves_180
      rw [lt_e, nOr]
      refine (btF (P := B) hl2.2 o2 (fun s => f_X11_halves_196 (nI B) x4 (nI q) (nI (b.1 ||| bt (B.testBit (ca c q)) (cb c q))) s k e T)).trans ?_
      unfold f_X11_halves_196 f_X11_halves_198
      rw [lt_e, nOr, a1]
  · unfold f_X11_halves_88b
    simp only
    rw [hM.1, if_pos (by rw [nLe (by omega) (by omega)]; omega)]
theorem hmA_i {T : St} {c : Cv} (ok : Cok c) (hM : CM T 126 c) (e : Int32 × Int32 × Int32 → St → Option (Int32 × St)) : lp (f_X11_halves_78b e) FU (nI (orN (hpB c) 8), 0, 0) T = e (nI (hmA c 8).1, nI (hmA c 8).2, nI 8) T := by
  refine lp_for (body := f_X11_halves_78b e) 8 (fun n => ((nI (hmA c n).1, nI (hmA c n).2, nI n), T)) (out := e (nI (hmA c 8).1, nI (hmA c 8).2, nI 8) T) (fun n k hn => ?_) (fun k => ?_) FU 0 (by omega) (by unfold FU; omega)
  · unfold f_X11_halves_78b
    simp only
    rw [if_neg (nLe8 hn)]
    refine (hmR_i ok hM (hmA_sn c n) _ _).trans ?_
    simp only [a1]
    rfl
  · unfold f_X11_halves_78b
    simp only
    rw [if_pos (show (8 : Int32) ≤ nI 8 by decide)]
theorem eq_halves : EQ1 RelP f_X10_halves f_X11_halves := by
  apply qr
  intro S c o r hS ok hC hM
  have hO := okO ok
  have hf := hvF.eq ok (hcA_f c) (hmA_f c)
  have hl := (hcA_i (c := c) 8 (by omega)).1.lt ok (by omega)
  have hl2 := (hmA_sn c 8).lt ok (by omega)
  by_cases z : (hcA c 8).1 &&& (hcA c 8).2 = 0
  · refine ⟨1, some [(nI (hcA c 8).1).toInt64], (fun l e => by cases e; simp), ?_, fun S1 hM1 q1 => ?_⟩
    · obtain ⟨T1, p1', p2, p3, p4⟩ := put_e (nI (hcA c 8).1).toInt64 (RwC.nil S) (by simp)
      refine AC.y (S1 := T1) ?_ ((q10 S 0).tr p2) p3
      unfold f_X10_halves
      rw [fh_c ok hC.1, if_pos z, bd_e, begin_e, bd_e, if_neg (nne (by omega)), p1', bd_e]
    · have hM0 := (hM1.q (q00 S1 0)).1
      obtain ⟨T0, t1, t2, t3⟩ := lays_far ok hM0 hO
      have hM2 := hM0.q t2.q
      obtain ⟨T1, p1', p2, p3, p4⟩ := ent_e (nI (hcA c 8).1).toInt64 (RwM.nil T0) (by simp)
      refine AM.y (S1 := T1) ?_ ((((q00 S1 0).tr t2.q).tr (q01 T0 0)).tr p2) p3
      unfold f_X11_halves
      rw [lt_e, hM0.2.2.1, t1, bd_e, with_m ok hM2, bd_e]
      refine (hi_m ok t3 _ _).trans ?_
      dsimp only
      refine (hmA_i ok hM2 _).trans ?_
      dsimp only
      rw [lt_e, nAnd, if_pos (show nI ((hmA c 8).1 &&& (hmA c 8).2) = 0 by rw [hf.1.mp z]; rfl), ← hf.2 z, p1', bd_e]
  · refine ⟨0, some [], (fun l e => by cases e; simp), ?_, fun S1 hM1 q1 => ?_⟩
    · refine AC.y (S1 := sI S 10 1 0) ?_ (q10 S 0) (RwC.nil S)
      unfold f_X10_halves
      rw [fh_c ok hC.1, if_neg z, bd_e, begin_e, bd_e, if_pos rfl]
    · have hM0 := (hM1.q (q00 S1 0)).1
      obtain ⟨T0, t1, t2, t3⟩ := lays_far ok hM0 hO
      have hM2 := hM0.q t2.q
      refine AM.y (S1 := sI T0 122 1 0) ?_ (((q00 S1 0).tr t2.q).tr (q01 T0 0)) (RwM.nil T0)
      unfold f_X11_halves
      rw [lt_e, hM0.2.2.1, t1, bd_e, with_m ok hM2, bd_e]
      refine (hi_m ok t3 _ _).trans ?_
      dsimp only
      refine (hmA_i ok hM2 _).trans ?_
      dsimp only
      have hb : (hmA c 8).1 &&& (hmA c 8).2 < 2147483648 := Nat.lt_of_le_of_lt Nat.and_le_left (by omega)
      rw [lt_e, nAnd, if_neg (show ¬ nI ((hmA c 8).1 &&& (hmA c 8).2) = 0 by rw [lit, nEq hb (by omega)]; exact fun y => z (hf.1.mpr y))]
