/-! guides -/
theorem ends0 {x a b : Nat} : (x &&& (2 ^ a ||| 2 ^ b) = 0) ↔ (x.testBit a = false ∧ x.testBit b = false) := by
  have tb : ∀ i, (x &&& (2 ^ a ||| 2 ^ b)).testBit i = (x.testBit i && (decide (a = i) || decide (b = i))) := by
    intro i
    rw [Nat.testBit_and, Nat.testBit_or, Nat.testBit_two_pow, Nat.testBit_two_pow]
  constructor
  · intro h
    have h1 := tb a
    have h2 := tb b
    rw [h] at h1 h2
    simp at h1 h2
    exact ⟨h1, h2⟩
  · rintro ⟨h1, h2⟩
    apply Nat.eq_of_testBit_eq
    intro i
    rw [tb, Nat.zero_testBit]
    by_cases e1 : a = i
    · rw [← e1, h1]; rfl
    · by_cases e2 : b = i
      · rw [← e2, h2]; rfl
      · rw [decide_eq_false e1, decide_eq_false e2]; simp
def gdB (c : Cv) (x k : Nat) : Bool := !(co c).testBit k || (x.testBit (ca c k) || x.testBit (cb c k))
def grd (c : Cv) (x : Nat) : Bool := alN (gdB c x) (cm c)
theorem pow7 {a : Nat} (h : a ≤ 7) : 2 ^ a ≤ 128 := Nat.pow_le_pow_right (n := 2) (by omega) h
theorem grd_c {T : St} {c : Cv} (ok : Cok c) (h : CC T c) {x : Nat} (hx : x < 256) : f_X9_guarded (nI x) T = some (flI (grd c x), T) := by
  have h12 := ok12 ok
  obtain ⟨h1, h2, h3⟩ := ld_a (gdB c x) (cm c)
  unfold grd
  rw [al_l]
  have step : ∀ i, i < cm c → ∀ (e k : Int32 → St → Option (Int32 × St)), f_X9_guarded_2b (nI x) e k (nI i) T = (if gdB c x i = true then k (nI (i + 1)) T else some (0, T)) := by
    intro i hi e k
    obtain ⟨k1, k2, _⟩ := ok.2.1 i hi
    have p1 := pow7 k1
    have p2 := pow7 k2
    have hor : 2 ^ ca c i ||| 2 ^ cb c i < 256 := Nat.or_lt_two_pow (n := 8) (by omega) (by omega)
    have ha := Nat.and_le_left (n := x) (m := 2 ^ ca c i ||| 2 ^ cb c i)
    unfold f_X9_guarded_2b f_X9_guarded_39 gdB
    rw [h.1, if_neg (by rw [nLe (by omega) (by omega)]; omega), isOpen_c ok h (by omega), bd_e]
    simp only [fl3z]
    cases g : (co c).testBit i with
    | false => rw [if_neg (by simp), if_pos (by simp), a1]
    | true =>
      rw [if_pos rfl, endsOf_c ok h hi, bd_e, nAnd]
      by_cases g2 : x &&& (2 ^ ca c i ||| 2 ^ cb c i) = 0
      · rw [if_pos (show nI (x &&& (2 ^ ca c i ||| 2 ^ cb c i)) = 0 by rw [g2]; rfl)]
        obtain ⟨z1, z2⟩ := ends0.mp g2
        rw [z1, z2, if_neg (by simp)]
      · rw [if_neg (show ¬ nI (x &&& (2 ^ ca c i ||| 2 ^ cb c i)) = 0 by rw [lit, nEq (by omega) (by omega)]; exact g2)]
        rw [if_pos (by
          cases z1 : x.testBit (ca c i) with
          | true => simp
          | false =>
            cases z2 : x.testBit (cb c i) with
            | true => simp
            | false => exact absurd (ends0.mpr ⟨z1, z2⟩) g2), a1]
  generalize hL : ldN (gdB c x) (cm c) = L at *
  refine lp_for (body := f_X9_guarded_2b (nI x) (fun v7 S8 => some ((1 : Int32), S8))) L (fun i => (nI i, T)) (out := some (flI (decide (cm c ≤ L)), T)) (fun i k hi => ?_) (fun k => ?_) FU 0 (by omega) (by unfold FU; omega)
  · rw [step i (by omega), if_pos (h2 i hi)]
  · by_cases g : cm c ≤ L
    · unfold f_X9_guarded_2b
      rw [h.1, if_pos (by rw [nLe (by omega) (by omega)]; exact g), decide_eq_true g]; rfl
    · rw [step L (by omega), if_neg (by rw [h3 (by omega)]; simp), decide_eq_false g]; rfl
theorem grd_m {T : St} {c : Cv} (ok : Cok c) (h : CM T 126 c) {x : Nat} (hx : x < 256) (b : Bool) (x1 : Int32) (e : Int32 × Int32 → St → Option (Int32 × St)) : lp (f_X11_guides_25b x1 (nI x) e) FU (flI b, 0) T = e (flI (b && grd c x), nI (cm c)) T := by
  have h12 := ok12 ok
  have hO := okO ok
  have h0 := lp_for (body := f_X11_guides_25b x1 (nI x) e) (cm c) (fun i => ((flI (b && alN (gdB c x) i), nI i), T)) (out := e (flI (b && grd c x), nI (cm c)) T) (fun i k hi => ?_) (fun k => ?_) FU 0 (by omega) (by unfold FU; omega)
  · have eb : (b && alN (gdB c x) 0) = b := by rw [alN]; simp
    simp only [eb] at h0
    exact h0
  · obtain ⟨k1, k2, _⟩ := ok.2.1 i hi
    obtain ⟨e1, e2, _⟩ := h.2.1 i hi
    have wi : inb (nI i) 12 := by rw [inb_nI (by omega)]; omega
    have es : (b && alN (gdB c x) (i + 1)) = ((b && alN (gdB c x) i) && gdB c x i) := by rw [alN, Bool.and_assoc]
    unfold f_X11_guides_25b f_X11_guides_81 f_X11_guides_85 f_X11_guides_86
    simp only [es]
    rw [h.1, if_neg (by rw [nLe (by omega) (by omega)]; omega), a1]
    cases g : (b && alN (gdB c x) i) with
    | false => rw [if_pos (show flI false = 0 from rfl)]; rfl
    | true =>
      rw [if_neg (show ¬ flI true = 0 by decide), h.2.2.1, has_m T (by omega) (by omega), bd_e]
      simp only [fl3z, if_pos wi, nI_t (show i < 2147483648 by omega), e1, e2]
      unfold gdB
      cases g1 : (co c).testBit i with
      | false => rw [if_neg (by simp)]; rfl
      | true =>
        rw [if_pos rfl, has_m T (by omega) (by omega), bd_e]
        simp only [fl3z]
        cases g2 : x.testBit (ca c i) with
        | true => rw [if_pos rfl]; rfl
        | false =>
          rw [if_neg (by simp), e2, has_m T (by omega) (by omega), bd_e]
          simp only [fl3z]
          cases g3 : x.testBit (cb c i) with
          | true => rw [if_pos rfl]; rfl
          | false => rw [if_neg (by simp)]; rfl
  · unfold f_X11_guides_25b
    simp only
    rw [h.1, if_pos (by rw [nLe (by omega) (by omega)]; omega)]
    rfl
def bcN (x : Nat) : Nat := cntN (fun i => x.testBit i) 12
theorem bcN_le (x : Nat) : bcN x ≤ 12 := cnt_le _ _
theorem bcN_255 : ∀ x, x < 255 → bcN x < 8 := by decide +kernel
theorem bcN_8 : bcN 255 = 8 := by decide +kernel
def guS (c : Cv) (x : Nat) (a : Option Nat) : Option Nat := match a with
  | none => if grd c x = true then some x else none
  | some y => if bcN x < bcN y ∧ grd c x = true then some x else some y
def guA (c : Cv) : Nat → Option Nat := itN (guS c) none
theorem guA_lt (c : Cv) : ∀ i y, guA c i = some y → y < i := by
  intro i
  induction i with
  | zero => intro y h; cases h
  | succ i ih =>
    intro y h
    have e : guA c (i + 1) = guS c i (guA c i) := rfl
    rw [e] at h
    cases g : guA c i with
    | none =>
      rw [g] at h
      simp only [guS] at h
      split at h
      · cases h; omega
      · cases h
    | some z =>
      rw [g] at h
      simp only [guS] at h
      split at h
      · cases h; omega
      · cases h; have := ih _ g; omega
theorem grd_255 {c : Cv} (ok : Cok c) : grd c 255 = true := by
  apply al_t
  intro k hk
  obtain ⟨k1, k2, _⟩ := ok.2.1 k hk
  have q : ∀ a, a ≤ 7 → (255 : Nat).testBit a = true := by decide
  unfold gdB
  rw [q _ k1]; simp
theorem guA_s (c : Cv) (i : Nat) : guA c (i + 1) = guS c i (guA c i) := rfl
theorem gu_some {c : Cv} (ok : Cok c) : ∃ y, guA c 256 = some y ∧ y < 256 := by
  have e : guA c 256 = guS c 255 (guA c 255) := guA_s c 255
  have : ∃ y, guA c 256 = some y := by
    rw [e]
    cases g : guA c 255 with
    | none => simp only [guS]; rw [if_pos (grd_255 ok)]; exact ⟨_, rfl⟩
    | some z => simp only [guS]; split <;> exact ⟨_, rfl⟩
  obtain ⟨y, hy⟩ := this
  exact ⟨y, hy, guA_lt c 256 y hy⟩
theorem eq_guides : EQ1 RelP f_X10_guides f_X11_guides := by
  apply qr
  intro S c o r hS ok hC hM
  obtain ⟨y, hy, hy2⟩ := gu_some ok
  obtain ⟨N, hN⟩ : ∃ N, N = 256 := ⟨256, rfl⟩
  rw [← hN] at hy
  refine ⟨bC (nI y), some [(nI y).toInt64], (fun l e => by cases e; simp), ?_, fun S1 hM1 q1 => ?_⟩
  · obtain ⟨T2, s1, s2, s3, s4⟩ := put_e (nI y).toInt64 (RwC.nil S) (by simp)
    refine AC.y (S1 := T2) ?_ ((q10 S 0).tr s2) s3
    unfold f_X10_guides
    refine lp_for (body := f_X10_guides_6b (fun v10 S11 => bd (f_X5_begin S11) (fun r12 S13 => bd (f_X5_put v10.1.toInt64 S13) (fun r15 S16 => bd (f_J6_bitCount_0f7a4 v10.1 S16) (fun r18 S19 => some (r18, S19)))))) N (fun i => ((nI ((guA c i).getD 255), nI i), S)) (out := some (bC (nI y), T2)) (fun i k hi => ?_) (fun k => ?_) FU 0 (by omega) (by unfold FU; omega)
    · unfold f_X10_guides_6b f_X10_guides_37
      simp only
      have b0 : ∀ z, z < 256 → bC (nI z) = nI (bcN z) := fun z hz => bC_c (by omega)
      have es : guA c (i + 1) = guS c i (guA c i) := rfl
      have l1 := bcN_le i
      rw [if_neg (show ¬ (255 : Int32) < nI i by rw [lit, nLt (by omega) (by omega)]; omega), bc_e, bd_e, bc_e, bd_e, b0 i (by omega), es]
      cases g : guA c i with
      | none =>
        simp only [guS, Option.getD_none]
        rw [b0 255 (by omega), bcN_8]
        by_cases h255 : i = 255
        · subst h255
          rw [bcN_8, if_pos (by decide), if_pos (grd_255 ok), a1]
          rfl
        · have := bcN_255 i (by omega)
          rw [if_neg (by rw [nLe (by omega) (by omega)]; omega), grd_c ok hC.1 (by omega), bd_e, a1]
          cases g2 : grd c i with
          | true => rw [if_neg (show ¬ flI true = 0 by decide), if_pos rfl]; rfl
          | false => rw [if_pos (show flI false = 0 from rfl), if_neg (by simp)]; rfl
      | some z =>
        have hz := guA_lt c i z g
        have l2 := bcN_le z
        simp only [guS, Option.getD_some]
        rw [b0 z (by omega)]
        by_cases g1 : bcN z ≤ bcN i
        · rw [if_pos (by rw [nLe (by omega) (by omega)]; exact g1), if_neg (fun h => by omega), a1]
          rfl
        · rw [if_neg (by rw [nLe (by omega) (by omega)]; exact g1), grd_c ok hC.1 (by omega), bd_e, a1]
          cases g2 : grd c i with
          | true => rw [if_neg (show ¬ flI true = 0 by decide), if_pos ⟨by omega, rfl⟩]; rfl
          | false => rw [if_pos (show flI false = 0 from rfl), if_neg (fun h => by cases h.2)]; rfl
    · unfold f_X10_guides_6b
      rw [if_pos (show (255 : Int32) < nI N by rw [hN]; decide)]
      dsimp only
      rw [hy, Option.getD_some, begin_e, bd_e, s1, bd_e, bc_e, bd_e]
  · obtain ⟨T2, s1, s2, s3, s4⟩ := ent_e (nI y).toInt64 (RwM.nil (sI S1 122 0 0)) (by simp)
    refine AM.y (S1 := T2) ?_ (((q00 S1 0).tr (q01 _ 0)).tr s2) s3
    have hM0 := (hM1.q (q00 S1 0)).1
    unfold f_X11_guides
    rw [lt_e]
    refine lp_for (body := f_X11_guides_9b (fun v18 S19 => lt (sI S19 122 1 (0 : Int32)) (fun S20 => bd (f_X11_enters v18.1.toInt64 S20) (fun r21 S22 => bd (f_J6_bitCount_0f7a4 v18.1 S22) (fun r24 S25 => some (r24, S25)))))) N (fun i => ((optI (guA c i), nI i), sI S1 122 0 0)) (out := some (bC (nI y), T2)) (fun i k hi => ?_) (fun k => ?_) FU 0 (by omega) (by unfold FU; omega)
    · unfold f_X11_guides_9b
      have b0 : ∀ z, z < 256 → bC (nI z) = nI (bcN z) := fun z hz => bC_c (by omega)
      have es : guA c (i + 1) = guS c i (guA c i) := rfl
      have l1 := bcN_le i
      have fw : ∃ b, f_X11_isFewer (nI i) (optI (guA c i)) (sI S1 122 0 0) = some (flI b, sI S1 122 0 0) ∧ (if (b && grd c i) = true then nI i else optI (guA c i)) = optI (guS c i (guA c i)) := by
        unfold f_X11_isFewer f_X11_isFewer_15
        cases g : guA c i with
        | none =>
          refine ⟨true, ?_, ?_⟩
          · rw [if_pos (show optI none < 0 by decide)]; rfl
          · simp only [guS]
            cases g2 : grd c i with
            | true => rw [if_pos (show (true && true) = true from rfl), if_pos rfl]; rfl
            | false => rw [if_neg (by simp), if_neg (by simp)]
        | some z =>
          have hz := guA_lt c i z g
          have l2 := bcN_le z
          have nz : ¬ optI (some z) < 0 := not_neg (by omega)
          refine ⟨decide (bcN i < bcN z), ?_, ?_⟩
          · rw [if_neg nz, bc_e, bd_e]
            show bd (f_J6_bitCount_0f7a4 (nI z) _) _ = _
            rw [bc_e, bd_e, b0 i (by omega), b0 z (by omega)]
            by_cases g1 : bcN z ≤ bcN i
            · rw [if_pos (by rw [nLe (by omega) (by omega)]; exact g1), decide_eq_false (by omega)]; rfl
            · rw [if_neg (by rw [nLe (by omega) (by omega)]; exact g1), decide_eq_true (by omega)]; rfl
          · simp only [guS]
            by_cases g1 : bcN i < bcN z
            · rw [decide_eq_true g1]
              cases g2 : grd c i with
              | true => rw [if_pos (show (true && true) = true from rfl), if_pos ⟨g1, rfl⟩]; rfl
              | false => rw [if_neg (by simp), if_neg (fun h => by cases h.2)]
            · rw [decide_eq_false g1, if_neg (by simp), if_neg (fun h => g1 h.1)]
      obtain ⟨b, f1, f2⟩ := fw
      simp only
      rw [if_neg (show ¬ (256 : Int32) ≤ nI i by rw [lit, nLe (by omega) (by omega)]; omega), f1, bd_e]
      refine (grd_m ok hM0 (by omega) b _ _).trans ?_
      unfold f_X11_guides_102
      simp only
      rw [es, ← f2, a1]
      cases g : (b && grd c i) with
      | true => rw [if_neg (show ¬ flI true = 0 by decide), if_pos rfl]
      | false => rw [if_pos (show flI false = 0 from rfl), if_neg (by simp)]
    · unfold f_X11_guides_9b
      rw [if_pos (show (256 : Int32) ≤ nI N by rw [hN]; decide)]
      dsimp only
      rw [hy]
      show lt _ _ = _
      rw [lt_e]
      show bd (f_X11_enters (nI y).toInt64 _) _ = _
      rw [s1, bd_e]
      show bd (f_J6_bitCount_0f7a4 (nI y) _) _ = _
      rw [bc_e, bd_e]
/-! the start -/
theorem rel0 : RelP S0z := by
  have z : ∀ a b, a ≠ 0 → a ≠ 110 → a ≠ 115 → gI S0z a b = nI 0 := by
    intro a b h1 h2 h3
    show (if a = 0 then _ else if a = 110 then _ else if a = 115 then _ else (0 : Int32)) = _
    rw [if_neg h1, if_neg h2, if_neg h3]; rfl
  have zin : ∀ a b m, a ≠ 0 → a ≠ 110 → a ≠ 115 → inR (gI S0z a b) 0 m := fun a b m h1 h2 h3 => ⟨0, by omega, by omega, z a b h1 h2 h3⟩
  refine ⟨⟨0, by omega, z _ _ (by omega) (by omega) (by omega), z _ _ (by omega) (by omega) (by omega), fun i hi => absurd hi (by omega), fun i _ => zin _ _ _ (by omega) (by omega) (by omega)⟩, ⟨0, ⟨by omega, z _ _ (by omega) (by omega) (by omega), z _ _ (by omega) (by omega) (by omega), fun i hi => absurd hi (by omega)⟩, ⟨fun i hi => absurd hi (by omega), zin _ _ _ (by omega) (by omega) (by omega), zin _ _ _ (by omega) (by omega) (by omega)⟩, ⟨0, 0, by omega, by omega, z _ _ (by omega) (by omega) (by omega), z _ _ (by omega) (by omega) (by omega), z _ _ (by omega) (by omega) (by omega), fun j hj => absurd hj (by omega)⟩, ⟨0, by omega, z _ _ (by omega) (by omega) (by omega), fun i _ => ?_⟩⟩, ⟨fun i _ => ?_, rfl, rfl, rfl⟩, ⟨0, by omega, z _ _ (by omega) (by omega) (by omega), z _ _ (by omega) (by omega) (by omega), fun i hi => absurd hi (by omega)⟩, ⟨0, by omega, z _ _ (by omega) (by omega) (by omega), z _ _ (by omega) (by omega) (by omega), fun i hi => absurd hi (by omega)⟩, ⟨0, by omega, z _ _ (by omega) (by omega) (by omega), z _ _ (by omega) (by omega) (by omega), fun i hi => absurd hi (by omega)⟩, ⟨110, 0, Or.inl rfl, by omega, rfl, rfl, rfl, rfl, fun _ => 0, fun i hi => absurd hi (by omega), fun h => absurd h (by omega)⟩⟩
  · have e91 : gI S0z 91 i = nI 0 := z _ _ (by omega) (by omega) (by omega)
    have e155 : gI S0z 155 i = nI 0 := z _ _ (by omega) (by omega) (by omega)
    have n1 : ¬ nI 0 = (1 : Int32) := by decide
    rw [e91, e155]
    exact ⟨Or.inl rfl, Or.inl rfl, zin _ _ _ (by omega) (by omega) (by omega), ⟨fun h => absurd h n1, fun h => absurd h.1 n1⟩, fun h => absurd h n1⟩
  · exact ⟨rfl, rfl, rfl⟩
