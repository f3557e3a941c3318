/-! meets -/
def laN (c : Cv) (o a b x : Nat) : Nat := max (dN c o a x) (dN c o b x)
def mtS (c : Cv) (o a b x : Nat) (z : Option (Nat × Nat)) : Option (Nat × Nat) := match z with
  | none => if laN c o a b x < 1000 then some (x, laN c o a b x) else none
  | some (y, l) => if laN c o a b x < l then some (x, laN c o a b x) else some (y, l)
def mtA (c : Cv) (o a b : Nat) : Nat → Option (Nat × Nat) := itN (mtS c o a b) none
theorem mtA_s (c : Cv) (o a b i : Nat) : mtA c o a b (i + 1) = mtS c o a b i (mtA c o a b i) := rfl
theorem mt_in (c : Cv) (o a b : Nat) : ∀ i, (∀ y l, mtA c o a b i = some (y, l) → l = laN c o a b y ∧ y < i ∧ l < 1000) ∧ (mtA c o a b i = none → ∀ j, j < i → ¬ laN c o a b j < 1000) := by
  intro i
  induction i with
  | zero => exact ⟨(fun y l h => by cases h), fun _ j hj => by omega⟩
  | succ i ih =>
    rw [mtA_s]
    cases g : mtA c o a b i with
    | none =>
      simp only [mtS]
      by_cases h : laN c o a b i < 1000
      · rw [if_pos h]
        exact ⟨fun y l e => by cases e; exact ⟨rfl, by omega, h⟩, fun e => by cases e⟩
      · rw [if_neg h]
        refine ⟨(fun y l e => by cases e), fun _ j hj => ?_⟩
        by_cases e : j = i
        · rw [e]; exact h
        · exact ih.2 g j (by omega)
    | some z =>
      obtain ⟨y, l⟩ := z
      obtain ⟨z1, z2, z3⟩ := ih.1 y l g
      simp only [mtS]
      by_cases h : laN c o a b i < l
      · rw [if_pos h]
        exact ⟨fun y l e => by cases e; exact ⟨rfl, by omega, by omega⟩, fun e => by cases e⟩
      · rw [if_neg h]
        exact ⟨fun y l e => by cases e; exact ⟨z1, by omega, z3⟩, fun e => by cases e⟩
def mtC : Option (Nat × Nat) → Nat
  | none => 0
  | some z => z.1
theorem mt_some {c : Cv} {o a b : Nat} (hb : b < 8) (h : dN c o a b < 1000) : ∃ y l, mtA c o a b 8 = some (y, l) ∧ y < 8 := by
  obtain ⟨h1, h2⟩ := mt_in c o a b 8
  cases g : mtA c o a b 8 with
  | none =>
    have := h2 g b hb
    unfold laN at this
    rw [dN_0] at this
    omega
  | some z => obtain ⟨y, l⟩ := z; exact ⟨y, l, rfl, (h1 y l g).2.1⟩
theorem later_c {T : St} {c : Cv} {o : Nat} (h : DA T 99 (dN c o)) {a b x : Nat} (ha : a < 8) (hb : b < 8) (hx : x < 8) : f_X9_laterOf (nI a) (nI b) (nI x) T = some (nI (laN c o a b x), T) := by
  have h1 := dN_le c o a x
  have h2 := dN_le c o b x
  unfold f_X9_laterOf
  rw [far_c h ha hx, bd_e, far_c h hb hx, bd_e, mxNI (by omega) (by omega)]
  rfl
theorem la_le (c : Cv) (o a b x : Nat) : laN c o a b x ≤ 1000 := by
  have h1 := dN_le c o a x
  have h2 := dN_le c o b x
  unfold laN; omega
theorem la_m {c : Cv} {o a b x : Nat} : (laN c o a b x < 1000 → max (dM c o a x) (dM c o b x) = laN c o a b x) ∧ (¬ laN c o a b x < 1000 → max (dM c o a x) (dM c o b x) = 1000000) := by
  have h1 := dN_le c o a x
  have h2 := dN_le c o b x
  unfold laN dM
  refine ⟨fun h => ?_, fun h => ?_⟩
  · rw [if_pos (by omega), if_pos (by omega)]
  · by_cases e1 : dN c o a x < 1000
    · rw [if_pos e1, if_neg (by omega)]; omega
    · rw [if_neg e1]; split <;> omega
theorem dM_le (c : Cv) (o x y : Nat) : dM c o x y ≤ 1000000 := by
  unfold dM; split <;> omega
theorem eq_meets : ∀ a1 a2 : Int32, EQ1 RelP (f_X10_meets a1 a2) (f_X11_meets a1 a2) := by
  intro x y
  apply qr
  intro S c o r hS ok hC hM
  have hO := okO ok
  by_cases g0 : ¬ x < nI 0 ∧ ¬ nI 7 < x
  · by_cases g1 : ¬ y < nI 0 ∧ ¬ nI 7 < y
    · obtain ⟨a, ha, rfl⟩ := as_le g0.1 g0.2
      obtain ⟨b, hb, rfl⟩ := as_le g1.1 g1.2
      obtain ⟨T1, m1', m2, m3⟩ := meas_c ok hC.1
      have hl := dN_le c (co c) a b
      by_cases hj : dN c (co c) a b < 1000
      · obtain ⟨B, l, hB, hB8⟩ := mt_some (o := co c) (show b < 8 by omega) hj
        have fa := dN_le c (co c) a B
        have fb := dN_le c (co c) b B
        have inv := mt_in c (co c) a b
        have dMe : dM c (co c) a B = dN c (co c) a B ∧ dM c (co c) b B = dN c (co c) b B := by
          obtain ⟨z1, z2, z3⟩ := (inv 8).1 B l hB
          unfold laN at z1
          unfold dM
          rw [if_pos (by omega), if_pos (by omega)]; exact ⟨rfl, rfl⟩
        refine ⟨nI B, some [(nI (dN c (co c) a B)).toInt64, (nI (dN c (co c) b B)).toInt64], (fun l e => by cases e; simp), ?_, fun S1 hM1 q1 => ?_⟩
        · obtain ⟨T2, p1', p2, p3, p4⟩ := put_e (nI (dN c (co c) a B)).toInt64 (RwC.nil T1) (by simp)
          obtain ⟨T3, r1, r2, r3, r4⟩ := put_e (nI (dN c (co c) b B)).toInt64 p3 (by simp)
          refine AC.y (S1 := T3) ?_ (((m2.q.tr (q10 T1 0)).tr p2).tr r2) r3
          unfold f_X10_meets
          rw [isCav_c, if_pos g0, bd_e, if_neg n1z, isCav_c, if_pos g1, bd_e, if_neg n1z, m1', bd_e, far_c m3 (by omega) (by omega), bd_e, if_neg (show ¬ nI (dN c (co c) a b) = 1000 by rw [lit, nEq (by omega) (by omega)]; omega)]
          refine lp_for (body := f_X10_meets_46b (nI a) (nI b) (fun v19 S20 => bd (f_X5_begin S20) (fun r21 S22 => bd (f_X9_farOf (nI a) v19.1 S22) (fun r24 S25 => bd (f_X5_put r24.toInt64 S25) (fun r27 S28 => bd (f_X9_farOf (nI b) v19.1 S28) (fun r30 S31 => bd (f_X5_put r30.toInt64 S31) (fun r33 S34 => some (v19.1, S34)))))))) 7 (fun i => ((nI (mtC (mtA c (co c) a b (i + 1))), nI (i + 1)), T1)) (out := some (nI B, T3)) (fun i k hi => ?_) (fun k => ?_) FU 0 (by omega) (by unfold FU; omega) |> fun h => ?_
          · have e0 : mtC (mtA c (co c) a b (0 + 1)) = 0 := by
              rw [mtA_s]
              show mtC (mtS c (co c) a b 0 none) = 0
              simp only [mtS]; split <;> rfl
            simp only [e0] at h
            exact h
          · obtain ⟨i1, i2⟩ := inv (i + 1)
            rw [mtA_s c (co c) a b (i + 1)]
            have lx := la_le c (co c) a b (i + 1)
            unfold f_X10_meets_46b f_X10_meets_80
            simp only
            cases g : mtA c (co c) a b (i + 1) with
            | none =>
              have n0 := i2 g 0 (by omega)
              have l0 := la_le c (co c) a b 0
              show _ = k (nI (mtC (mtS c (co c) a b (i + 1) none)), _) T1
              rw [if_neg (nLe8 (show i + 1 < 8 by omega)), later_c m3 (by omega) (by omega) (by omega), bd_e]
              show bd (f_X9_laterOf (nI a) (nI b) (nI 0) T1) _ = _
              rw [later_c m3 (by omega) (by omega) (by omega), bd_e]
              simp only [mtS]
              by_cases h : laN c (co c) a b (i + 1) < 1000
              · rw [if_neg (by rw [nLe (by omega) (by omega)]; omega), if_pos h, a1]; rfl
              · rw [if_pos (by rw [nLe (by omega) (by omega)]; omega), if_neg h, a1]
            | some z =>
              obtain ⟨yy, ll⟩ := z
              obtain ⟨z1, z2, z3⟩ := i1 yy ll g
              rw [if_neg (nLe8 (show i + 1 < 8 by omega)), later_c m3 (by omega) (by omega) (by omega), bd_e]
              show bd (f_X9_laterOf (nI a) (nI b) (nI yy) T1) _ = _
              rw [later_c m3 (by omega) (by omega) (by omega), bd_e, ← z1]
              simp only [mtS]
              by_cases h : laN c (co c) a b (i + 1) < ll
              · rw [if_neg (by rw [nLe (by omega) (by omega)]; omega), if_pos h, a1]; rfl
              · rw [if_pos (by rw [nLe (by omega) (by omega)]; omega), if_neg h, a1]
          · unfold f_X10_meets_46b
            rw [if_pos (show (8 : Int32) ≤ nI (7 + 1) by decide)]
            dsimp only
            rw [show mtA c (co c) a b (7 + 1) = some (B, l) from hB]
            show bd (f_X5_begin T1) _ = _
            rw [begin_e, bd_e]
            show bd (f_X9_farOf (nI a) (nI B) _) _ = _
            rw [far_c (m3.p e10) (by omega) hB8, bd_e, p1', bd_e]
            show bd (f_X9_farOf (nI b) (nI B) _) _ = _
            rw [far_c ((m3.p e10).p p4) (by omega) hB8, bd_e, r1, bd_e]
            rfl
        · have hM0 := (hM1.q (q00 S1 0)).1
          obtain ⟨U1, n1', n2, n3⟩ := lays_far ok hM0 hO
          obtain ⟨T2, p1', p2, p3, p4⟩ := ent_e (nI (dN c (co c) a B)).toInt64 (RwM.nil U1) (by simp)
          obtain ⟨T3, r1, r2, r3, r4⟩ := ent_e (nI (dN c (co c) b B)).toInt64 p3 (by simp)
          refine AM.y (S1 := T3) ?_ (((((q00 S1 0).tr n2.q).tr (q01 U1 0)).tr p2).tr r2) r3
          unfold f_X11_meets
          rw [lt_e, isCav_m, if_pos g0, bd_e, if_neg n1z, isCav_m, if_pos g1, bd_e, if_neg n1z, hM0.2.2.1, n1', bd_e, areJ_m n3 (by omega) (by omega), bd_e, show jnB c (co c) a b = true from decide_eq_true hj, if_neg (show ¬ flI true = 0 by decide)]
          refine lp_for (body := f_X11_meets_54b (nI a) (nI b) (fun v22 S23 => lt (sI S23 122 1 (0 : Int32)) (fun S24 => bd (f_X11_farOf (nI a) v22.1 S24) (fun r25 S26 => bd (f_X11_enters r25.toInt64 S26) (fun r28 S29 => bd (f_X11_farOf (nI b) v22.1 S29) (fun r31 S32 => bd (f_X11_enters r31.toInt64 S32) (fun r34 S35 => some (v22.1, S35)))))))) 8 (fun i => ((nxB (mtA c (co c) a b i), nI (nxL 1000000 (mtA c (co c) a b i)), nI i), U1)) (out := some (nI B, T3)) (fun i k hi => ?_) (fun k => ?_) FU 0 (by omega) (by unfold FU; omega)
          · obtain ⟨i1, i2⟩ := inv i
            rw [mtA_s c (co c) a b i]
            have d1 := dM_le c (co c) a i
            have d2 := dM_le c (co c) b i
            have lx := la_le c (co c) a b i
            obtain ⟨k1, k2⟩ := la_m (c := c) (o := co c) (a := a) (b := b) (x := i)
            unfold f_X11_meets_54b f_X11_meets_93
            simp only
            rw [if_neg (nLe8 hi), far_m n3 (by omega) (by omega), bd_e, far_m n3 (by omega) (by omega), bd_e, mxNI (by omega) (by omega), lt_e]
            cases g : mtA c (co c) a b i with
            | none =>
              show (if nI 1000000 ≤ _ then _ else _) = _
              simp only [mtS]
              by_cases h : laN c (co c) a b i < 1000
              · rw [k1 h, if_neg (by rw [nLe (by omega) (by omega)]; omega), if_pos h, lt_e]
                show k (nI i, mnI (nI 1000000) _, _) U1 = _
                rw [mnNI (by omega) (by omega), Nat.min_eq_right (by omega), a1]; rfl
              · rw [k2 h, if_pos (show nI 1000000 ≤ nI 1000000 by decide), if_neg h, lt_e]
                show k (_, mnI (nI 1000000) _, _) U1 = _
                rw [mnNI (by omega) (by omega), Nat.min_eq_left (by omega), a1]; rfl
            | some z =>
              obtain ⟨yy, ll⟩ := z
              obtain ⟨z1, z2, z3⟩ := i1 yy ll g
              show (if nI ll ≤ _ then _ else _) = _
              simp only [mtS]
              by_cases h : laN c (co c) a b i < ll
              · rw [k1 (by omega), if_neg (by rw [nLe (by omega) (by omega)]; omega), if_pos h, lt_e]
                show k (nI i, mnI (nI ll) _, _) U1 = _
                rw [mnNI (by omega) (by omega), Nat.min_eq_right (by omega), a1]; rfl
              · have hge : ll ≤ max (dM c (co c) a i) (dM c (co c) b i) := by
                  by_cases h2 : laN c (co c) a b i < 1000
                  · rw [k1 h2]; omega
                  · rw [k2 h2]; omega
                rw [if_pos (by rw [nLe (by omega) (by omega)]; omega), if_neg h, lt_e]
                show k (_, mnI (nI ll) _, _) U1 = _
                rw [mnNI (by omega) (by omega), Nat.min_eq_left hge, a1]; rfl
          · unfold f_X11_meets_54b
            rw [if_pos (show (8 : Int32) ≤ nI 8 by decide)]
            dsimp only
            rw [hB]
            show lt _ _ = _
            rw [lt_e]
            show bd (f_X11_farOf (nI a) (nI B) _) _ = _
            rw [far_m (n3.r e01) (by omega) hB8, bd_e, dMe.1, p1', bd_e]
            show bd (f_X11_farOf (nI b) (nI B) _) _ = _
            rw [far_m ((n3.r e01).r p4) (by omega) hB8, bd_e, dMe.2, r1, bd_e]
            rfl
      · refine ⟨-2, none, (fun l e => by cases e), ?_, fun S1 hM1 q1 => ?_⟩
        · refine AC.n (S1 := T1) ?_ m2.q (m2.1 10 1 rfl) (fun k => m2.2 11 k rfl)
          unfold f_X10_meets
          rw [isCav_c, if_pos g0, bd_e, if_neg n1z, isCav_c, if_pos g1, bd_e, if_neg n1z, m1', bd_e, far_c m3 (by omega) (by omega), bd_e, if_pos (show nI (dN c (co c) a b) = 1000 by rw [lit, nEq (by omega) (by omega)]; omega)]
        · have hM0 := (hM1.q (q00 S1 0)).1
          obtain ⟨U1, n1', n2, n3⟩ := lays_far ok hM0 hO
          refine AM.n (S1 := U1) ?_ ((q00 S1 0).tr n2.q) (n2.1 122 1 rfl) (fun k => n2.2 123 k rfl)
          unfold f_X11_meets
          rw [lt_e, isCav_m, if_pos g0, bd_e, if_neg n1z, isCav_m, if_pos g1, bd_e, if_neg n1z, hM0.2.2.1, n1', bd_e, areJ_m n3 (by omega) (by omega), bd_e, show jnB c (co c) a b = false from decide_eq_false hj, if_pos (show flI false = 0 from rfl)]
    · refine ⟨-1, none, (fun l e => by cases e), ?_, fun S1 hM1 q1 => ?_⟩
      · refine AC.n (S1 := S) ?_ (Sm.rf S)
        unfold f_X10_meets
        rw [isCav_c, if_pos g0, bd_e, if_neg n1z, isCav_c, ncav g1, bd_e, if_pos z00]
      · refine AM.n (S1 := sI S1 122 0 0) ?_ (q00 S1 0)
        unfold f_X11_meets
        rw [lt_e, isCav_m, if_pos g0, bd_e, if_neg n1z, isCav_m, ncav g1, bd_e, if_pos z00]
  · refine ⟨-1, none, (fun l e => by cases e), ?_, fun S1 hM1 q1 => ?_⟩
    · refine AC.n (S1 := S) ?_ (Sm.rf S)
      unfold f_X10_meets
      rw [isCav_c, ncav g0, bd_e, if_pos z00]
    · refine AM.n (S1 := sI S1 122 0 0) ?_ (q00 S1 0)
      unfold f_X11_meets
      rw [lt_e, isCav_m, ncav g0, bd_e, if_pos z00]
