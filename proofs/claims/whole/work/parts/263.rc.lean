/-! the class's reading of a rule: the machine -/
theorem narC {n : Nat} (h : n ≤ 255) : vp_nar .char (nI n) = nI n := by
  have q : ∀ n, n < 256 → vp_nar .char (nI n) = nI n := by decide +kernel
  exact q n (by omega)
def bgN (x : Int32) : Int32 := match f_X6_bindingOf x ((fun _ _ => 0), (fun _ _ => 0)) with
  | some r => r.1
  | none => 0
theorem bg_p (x : Int32) : ∃ v, ∀ S, f_X6_bindingOf x S = some (v, S) := by
  unfold f_X6_bindingOf
  repeat' first | exact ⟨_, fun S => rfl⟩ | apply pu_it
theorem bg_all : ∀ s, s < 256 → bgN (nI s) = nI (bindN s) := by decide +kernel
theorem bnd_c {s : Nat} (hs : s ≤ 255) (S : St) : f_X6_bindingOf (nI s) S = some (nI (bindN s), S) := by
  obtain ⟨v, h⟩ := bg_p (nI s)
  have := bg_all s (by omega)
  unfold bgN at this
  rw [h] at this
  rw [h, ← this]
theorem bal_c {w b : Nat} (hw : w ≤ 255) (hb : b ≤ 3) (S : St) : f_X6_bindsAtLeast (nI w) (nI b) S = some (flI (boB b w), S) := by
  have h3 := bind_le w
  unfold f_X6_bindsAtLeast f_X6_bindsAtLeast_20 boB
  by_cases e1 : w = 126
  · rw [if_pos (show nI w = (126 : Int32) by rw [e1]; rfl), decide_eq_true e1]; rfl
  · rw [if_neg (show ¬ nI w = (126 : Int32) by rw [show (126 : Int32) = nI 126 from rfl, nEq (by omega) (by omega)]; exact e1), decide_eq_false e1, Bool.false_or]
    by_cases e2 : w = 40
    · rw [if_pos (show nI w = (40 : Int32) by rw [e2]; rfl), decide_eq_true e2]; rfl
    · rw [if_neg (show ¬ nI w = (40 : Int32) by rw [show (40 : Int32) = nI 40 from rfl, nEq (by omega) (by omega)]; exact e2), bnd_c hw, bd_e, decide_eq_false e2]
      by_cases e3 : b ≤ bindN w
      · rw [if_neg (by rw [nLt (by omega) (by omega)]; omega), decide_eq_true e3]; rfl
      · rw [if_pos (by rw [nLt (by omega) (by omega)]; omega), decide_eq_false e3]; rfl
def cF (o : Nat) (T T' : St) : Prop := (∀ a b, a ≠ o → a ≠ o + 1 → a ≠ o + 2 → gI T' a b = gI T a b) ∧ ∀ a b, gL T' a b = gL T a b
theorem cF.rf (o : Nat) (T : St) : cF o T T := ⟨fun _ _ _ _ _ => rfl, fun _ _ => rfl⟩
theorem cF.tr {o : Nat} {T T1 T2 : St} (h1 : cF o T T1) (h2 : cF o T1 T2) : cF o T T2 := ⟨fun a b x y z => (h2.1 a b x y z).trans (h1.1 a b x y z), fun a b => (h2.2 a b).trans (h1.2 a b)⟩
theorem cF.s {o q k : Nat} {T T1 : St} {v : Int32} (h : cF o T T1) (hq : q = o ∨ q = o + 1 ∨ q = o + 2) : cF o T (sI T1 q k v) := by
  refine ⟨fun a b x y z => ?_, fun a b => h.2 a b⟩
  rw [gI_s, if_neg (by omega)]; exact h.1 a b x y z
/-- what waits, what is given out -/
def RpW (T : St) (o : Nat) (W O : List Nat) : Prop := gI T o 3 = nI W.length ∧ ArL (gI T (o + 2)) W ∧ gI T o 1 = nI O.length ∧ ArL (gI T (o + 1)) O
def RpX (T : St) (o : Nat) (x : RS) : Prop := gI T o 7 = flI (sw x) ∧ gI T o 4 = nI (sd x) ∧ gI T o 5 = nI (sk x) ∧ gI T o 6 = nI (sg x)
theorem RpX.set {T : St} {o k : Nat} {x y : RS} {v : Int32} (h : RpX T o x) (h7 : (if 7 = k then v else gI T o 7) = flI (sw y)) (h4 : (if 4 = k then v else gI T o 4) = nI (sd y)) (h5 : (if 5 = k then v else gI T o 5) = nI (sk y)) (h6 : (if 6 = k then v else gI T o 6) = nI (sg y)) : RpX (sI T o k v) o y := by
  refine ⟨?_, ?_, ?_, ?_⟩
  · rw [gI_s, if_pos rfl]; exact h7
  · rw [gI_s, if_pos rfl]; exact h4
  · rw [gI_s, if_pos rfl]; exact h5
  · rw [gI_s, if_pos rfl]; exact h6
theorem RpX.fr {T T' : St} {o : Nat} {x : RS} (h : RpX T o x) (hk : ∀ k, 4 ≤ k → gI T' o k = gI T o k) : RpX T' o x := ⟨(hk 7 (by omega)).trans h.1, (hk 4 (by omega)).trans h.2.1, (hk 5 (by omega)).trans h.2.2.1, (hk 6 (by omega)).trans h.2.2.2⟩
theorem RpW.fr {T T' : St} {o : Nat} {W O : List Nat} (h : RpW T o W O) (h1 : gI T' o 1 = gI T o 1) (h3 : gI T' o 3 = gI T o 3) (ha : ∀ k, gI T' (o + 1) k = gI T (o + 1) k) (hb : ∀ k, gI T' (o + 2) k = gI T (o + 2) k) : RpW T' o W O := ⟨h3.trans h.1, ArL.ag (fun i _ => hb i) h.2.1, h1.trans h.2.2.1, ArL.ag (fun i _ => ha i) h.2.2.2⟩
theorem RpW.o {T : St} {o k : Nat} {W O : List Nat} {v : Int32} (h : RpW T o W O) (hk : 4 ≤ k) : RpW (sI T o k v) o W O := by
  refine h.fr ?_ ?_ (fun j => ?_) (fun j => ?_)
  · rw [gI_s, if_pos rfl, if_neg (by omega)]
  · rw [gI_s, if_pos rfl, if_neg (by omega)]
  · rw [gI_s, if_neg (by omega)]
  · rw [gI_s, if_neg (by omega)]
theorem hold_c {T : St} {o c : Nat} {W O : List Nat} (h : RpW T o W O) (hc : c ≤ 255) (hl : W.length < 40) : ∃ T', f_X6_hold o (nI c) T = some ((), T') ∧ RpW T' o (c :: W) O ∧ cF o T T' ∧ ∀ k, 4 ≤ k → gI T' o k = gI T o k := by
  refine ⟨sI (sI T (o + 2) W.length (nI c)) o 3 (nI (W.length + 1)), ?_, ⟨?_, ⟨?_, ?_⟩, ?_, ?_⟩, ((cF.rf o T).s (by omega)).s (by omega), fun k hk => ?_⟩
  · unfold f_X6_hold
    rw [h.1, if_neg (show ¬ (40 : Int32) ≤ nI W.length by rw [show (40 : Int32) = nI 40 from rfl, nLe (by omega) (by omega)]; omega), if_pos (by rw [inb_nI (by omega)]; omega), nI_t (by omega), narC hc, lt_e]
    have e : gI (sI T (o + 2) W.length (nI c)) o 3 = nI W.length := by rw [gI_s, if_neg (by omega)]; exact h.1
    rw [e, a1, lt_e]
  · rw [gI_s, if_pos rfl, if_pos rfl]; rfl
  · rw [gI_s, if_neg (by omega), gI_s, if_pos rfl, if_pos rfl]
  · refine ArL.ag (fun i hi => ?_) h.2.1
    rw [gI_s, if_neg (by omega), gI_s, if_pos rfl, if_neg (by omega)]
  · rw [gI_s, if_pos rfl, if_neg (by omega), gI_s, if_neg (by omega)]; exact h.2.2.1
  · refine ArL.ag (fun i hi => ?_) h.2.2.2
    rw [gI_s, if_neg (by omega), gI_s, if_neg (by omega)]
  · rw [gI_s, if_pos rfl, if_neg (by omega), gI_s, if_neg (by omega)]
theorem emit_c {T : St} {o c : Nat} {W O : List Nat} (h : RpW T o W O) (hl : O.length < 40) : ∃ T', f_X6_emit o (nI c) T = some ((), T') ∧ RpW T' o W (c :: O) ∧ cF o T T' ∧ ∀ k, 4 ≤ k → gI T' o k = gI T o k := by
  refine ⟨sI (sI T (o + 1) O.length (nI c)) o 1 (nI (O.length + 1)), ?_, ⟨?_, ?_, ?_, ?_, ?_⟩, ((cF.rf o T).s (by omega)).s (by omega), fun k hk => ?_⟩
  · unfold f_X6_emit
    rw [h.2.2.1, if_neg (show ¬ (40 : Int32) ≤ nI O.length by rw [show (40 : Int32) = nI 40 from rfl, nLe (by omega) (by omega)]; omega), if_pos (by rw [inb_nI (by omega)]; omega), nI_t (by omega), lt_e]
    have e : gI (sI T (o + 1) O.length (nI c)) o 1 = nI O.length := by rw [gI_s, if_neg (by omega)]; exact h.2.2.1
    rw [e, a1, lt_e]
  · rw [gI_s, if_pos rfl, if_neg (by omega), gI_s, if_neg (by omega)]; exact h.1
  · refine ArL.ag (fun i hi => ?_) h.2.1
    rw [gI_s, if_neg (by omega), gI_s, if_neg (by omega)]
  · rw [gI_s, if_pos rfl, if_pos rfl]; rfl
  · rw [gI_s, if_neg (by omega), gI_s, if_pos rfl, if_pos rfl]
  · refine ArL.ag (fun i hi => ?_) h.2.2.2
    rw [gI_s, if_neg (by omega), gI_s, if_pos rfl, if_neg (by omega)]
  · rw [gI_s, if_pos rfl, if_neg (by omega), gI_s, if_neg (by omega)]
theorem rls_c {o b : Nat} (hb : b ≤ 3) : ∀ (W O : List Nat) (T : St) (n : Nat), RpW T o W O → W.length + O.length ≤ 40 → (∀ w, w ∈ W → w ≤ 255) → W.length < n → ∃ T', lp (f_X6_release_0b o (nI b) (fun v10 S11 => some ((), S11))) n () T = some ((), T') ∧ RpW T' o (rlsN b W O).1 (rlsN b W O).2 ∧ cF o T T' ∧ ∀ k, 4 ≤ k → gI T' o k = gI T o k := by
  intro W
  induction W with
  | nil =>
    intro O T n h hl hw hn
    obtain ⟨n', rfl⟩ : ∃ n', n = n' + 1 := ⟨n - 1, by omega⟩
    refine ⟨T, ?_, h, cF.rf o T, fun _ _ => rfl⟩
    show f_X6_release_0b o (nI b) _ _ () T = _
    unfold f_X6_release_0b
    have e : gI T o 3 = nI 0 := h.1
    rw [e, if_pos (show nI 0 ≤ (0 : Int32) by decide)]
  | cons w W ih =>
    intro O T n h hl hw hn
    obtain ⟨n', rfl⟩ : ∃ n', n = n' + 1 := ⟨n - 1, by omega⟩
    rw [List.length_cons] at hl hn
    have e3 : gI T o 3 = nI (W.length + 1) := h.1
    have ew : gI T (o + 2) W.length = nI w := h.2.1.1
    have w255 := hw w (by simp)
    have bl := bal_c w255 hb T
    have stp : ∀ k, f_X6_release_0b o (nI b) (fun v10 S11 => some ((), S11)) k () T = (if flI (boB b w) = 0 then some ((), T) else lt (sI T o 3 (nI W.length)) (fun S5 => if inb (gI S5 o 3) 40 then bd (f_X6_emit o ((2000 : Int32) + (gI S5 (o + 2) (gI S5 o 3).toNatClampNeg)) S5) (fun r7 S8 => k () S8) else none)) := by
      intro k
      unfold f_X6_release_0b
      rw [e3, if_neg (show ¬ nI (W.length + 1) ≤ 0 by rw [lit, nLe (by omega) (by omega)]; omega), m1_e, if_pos (by rw [inb_nI (by omega)]; omega), nI_t (by omega), ew, bl, bd_e, e3, m1_e]
    show ∃ T', f_X6_release_0b o (nI b) (fun v10 S11 => some ((), S11)) (lp (f_X6_release_0b o (nI b) (fun v10 S11 => some ((), S11))) n') () T = some ((), T') ∧ _
    rw [stp]
    cases g : boB b w with
    | false =>
      rw [if_pos (show flI false = 0 from rfl)]
      refine ⟨T, rfl, ?_, cF.rf o T, fun _ _ => rfl⟩
      have : rlsN b (w :: W) O = (w :: W, O) := by show (if boB b w = true then _ else _) = _; rw [if_neg (by rw [g]; simp)]
      rw [this]; exact h
    | true =>
      rw [if_neg (show ¬ flI true = 0 by decide), lt_e]
      have f3 : gI (sI T o 3 (nI W.length)) o 3 = nI W.length := by rw [gI_s, if_pos rfl, if_pos rfl]
      have f2 : gI (sI T o 3 (nI W.length)) (o + 2) W.length = nI w := by rw [gI_s, if_neg (by omega)]; exact ew
      have h' : RpW (sI T o 3 (nI W.length)) o W O := by
        refine ⟨f3, ArL.ag (fun i _ => ?_) h.2.1.2, ?_, ArL.ag (fun i _ => ?_) h.2.2.2⟩
        · rw [gI_s, if_neg (by omega)]
        · rw [gI_s, if_pos rfl, if_neg (by omega)]; exact h.2.2.1
        · rw [gI_s, if_neg (by omega)]
      obtain ⟨T1, p1, p2, p3, p4⟩ := emit_c (c := 2000 + w) h' (by omega)
      rw [f3, if_pos (by rw [inb_nI (by omega)]; omega), nI_t (by omega), f2, show (2000 : Int32) + nI w = nI (2000 + w) from nAdd 2000 w, p1, bd_e]
      obtain ⟨T2, q1, q2, q3, q4⟩ := ih ((2000 + w) :: O) T1 n' p2 (by rw [List.length_cons]; omega) (fun z hz => hw z (by simp [hz])) (by omega)
      refine ⟨T2, q1, ?_, (((cF.rf o T).s (by omega)).tr p3).tr q3, fun k hk => ?_⟩
      · have : rlsN b (w :: W) O = rlsN b W ((2000 + w) :: O) := by show (if boB b w = true then _ else _) = _; rw [if_pos g]
        rw [this]; exact q2
      · rw [q4 k hk, p4 k hk, gI_s, if_pos rfl, if_neg (by omega)]
theorem rel_c {o b : Nat} {W O : List Nat} {T : St} (hb : b ≤ 3) (h : RpW T o W O) (hl : W.length + O.length ≤ 40) (hw : ∀ w, w ∈ W → w ≤ 255) : ∃ T', f_X6_release o (nI b) T = some ((), T') ∧ RpW T' o (rlsN b W O).1 (rlsN b W O).2 ∧ cF o T T' ∧ ∀ k, 4 ≤ k → gI T' o k = gI T o k := rls_c hb W O T FU h hl hw (by unfold FU; omega)
/-! what holds of the machine -/
theorem rls_l (b : Nat) : ∀ W O : List Nat, (rlsN b W O).1.length + (rlsN b W O).2.length = W.length + O.length ∧ ∀ w, w ∈ (rlsN b W O).1 → w ∈ W := by
  intro W
  induction W with
  | nil => intro O; exact ⟨rfl, fun w h => h⟩
  | cons w W ih =>
    intro O
    by_cases g : boB b w = true
    · have : rlsN b (w :: W) O = rlsN b W ((2000 + w) :: O) := by show (if boB b w = true then _ else _) = _; rw [if_pos g]
      rw [this]
      obtain ⟨h1, h2⟩ := ih ((2000 + w) :: O)
      refine ⟨?_, fun z hz => by simp [h2 z hz]⟩
      rw [h1, List.length_cons, List.length_cons]; omega
    · have : rlsN b (w :: W) O = (w :: W, O) := by show (if boB b w = true then _ else _) = _; rw [if_neg g]
      rw [this]
      exact ⟨rfl, fun z hz => hz⟩
def InR (x : RS) (p : Nat) : Prop := sd x ≤ 4 ∧ sk x < 32 ∧ sg x ≤ 3 ∧ (sW x).length + (sO x).length ≤ p ∧ ∀ w, w ∈ sW x → w ≤ 255
theorem InR.st {s p : Nat} {x y : RS} (h : InR x p) (hs : s ≤ 255) (e : stR s x = some y) : InR y (p + 1) := by
  obtain ⟨h1, h2, h3, h4, h5⟩ := h
  have mem : ∀ c, c ≤ 255 → ∀ w, w ∈ c :: sW x → w ≤ 255 := by
    intro c hc w hw
    rw [List.mem_cons] at hw
    rcases hw with rfl | hw
    · exact hc
    · exact h5 w hw
  unfold stR at e
  by_cases g : sw x = true
  · rw [if_pos g] at e
    unfold stA at e
    by_cases e1 : s = 45
    · rw [if_pos e1] at e
      obtain rfl := Option.some.inj e
      exact ⟨h1, h2, h3, by show (126 :: sW x).length + (sO x).length ≤ _; rw [List.length_cons]; omega, mem 126 (by omega)⟩
    · rw [if_neg e1] at e
      by_cases e2 : s = 40
      · rw [if_pos e2] at e
        by_cases e3 : sd x = 4
        · rw [if_pos e3] at e; cases e
        · rw [if_neg e3] at e
          obtain rfl := Option.some.inj e
          refine ⟨by show sd x + 1 ≤ 4; omega, Nat.lt_of_le_of_lt (clrN_le _ _) h2, h3, by show (40 :: sW x).length + (sO x).length ≤ _; rw [List.length_cons]; omega, mem 40 (by omega)⟩
      · rw [if_neg e2] at e
        by_cases e3 : 48 ≤ s ∧ s ≤ 57
        · rw [if_pos e3] at e
          obtain rfl := Option.some.inj e
          exact ⟨h1, h2, by show 1 ≤ 3; omega, by show (sW x).length + ((s - 48) :: sO x).length ≤ _; rw [List.length_cons]; omega, h5⟩
        · rw [if_neg e3] at e
          cases hi : ixN 0 s with
          | none => rw [hi] at e; cases e
          | some k =>
            rw [hi] at e
            obtain rfl := Option.some.inj e
            exact ⟨h1, h2, by show 0 ≤ 3; omega, by show (sW x).length + ((1000 + k) :: sO x).length ≤ _; rw [List.length_cons]; omega, h5⟩
  · rw [if_neg g] at e
    unfold stB at e
    by_cases e1 : 48 ≤ s ∧ s ≤ 57
    · rw [if_pos e1] at e
      cases hO : sO x with
      | nil => rw [hO] at e; cases e
      | cons v O =>
        rw [hO] at e h4
        change (if sg x = 0 ∨ sg x = 3 then none else some (false, sd x, sk x, sg x + 1, sW x, (10 * v + (s - 48)) :: O)) = some y at e
        by_cases e2 : sg x = 0 ∨ sg x = 3
        · rw [if_pos e2] at e; cases e
        · rw [if_neg e2] at e
          obtain rfl := Option.some.inj e
          rw [List.length_cons] at h4
          exact ⟨h1, h2, by show sg x + 1 ≤ 3; omega, by show (sW x).length + ((10 * v + (s - 48)) :: O).length ≤ _; rw [List.length_cons]; omega, h5⟩
    · rw [if_neg e1] at e
      by_cases e2 : s = 41
      · rw [if_pos e2] at e
        by_cases e3 : sd x = 0
        · rw [if_pos e3] at e; cases e
        · rw [if_neg e3] at e
          obtain rfl := Option.some.inj e
          obtain ⟨l1, l2⟩ := rls_l 1 (sW x) (sO x)
          refine ⟨by show sd x - 1 ≤ 4; omega, h2, by show 0 ≤ 3; omega, ?_, fun w hw => h5 w (l2 w (List.mem_of_mem_tail hw))⟩
          show (rlsN 1 (sW x) (sO x)).1.tail.length + (rlsN 1 (sW x) (sO x)).2.length ≤ _
          rw [List.length_tail]; omega
      · rw [if_neg e2] at e
        by_cases e3 : bindN s = 0
        · rw [if_pos e3] at e; cases e
        · rw [if_neg e3] at e
          by_cases e4 : bindN s = 1 ∧ (sk x).testBit (sd x) = true
          · rw [if_pos e4] at e; cases e
          · rw [if_neg e4] at e
            obtain rfl := Option.some.inj e
            obtain ⟨l1, l2⟩ := rls_l (bindN s) (sW x) (sO x)
            refine ⟨h1, ?_, by show 0 ≤ 3; omega, ?_, fun w hw => ?_⟩
            · show (if bindN s = 1 then sk x ||| 2 ^ sd x else sk x) < 32
              split
              · exact or_lt (m := 5) h2 (by omega)
              · exact h2
            · show (s :: (rlsN (bindN s) (sW x) (sO x)).1).length + (rlsN (bindN s) (sW x) (sO x)).2.length ≤ _
              rw [List.length_cons]; omega
            · change w ∈ s :: (rlsN (bindN s) (sW x) (sO x)).1 at hw
              rw [List.mem_cons] at hw
              rcases hw with rfl | hw
              · exact hs
              · exact h5 w (l2 w hw)
theorem InR.rn {t : Nat → Nat} {m : Nat} (ht : ∀ i, i < m → t i ≤ 255) : ∀ k y, k ≤ m → rn t 0 k x0 = some y → InR y k := by
  intro k
  induction k with
  | zero =>
    intro y _ e
    obtain rfl := Option.some.inj e
    exact ⟨by show 0 ≤ 4; omega, by show 0 < 32; omega, by show 0 ≤ 3; omega, by show 0 + 0 ≤ 0; omega, fun w hw => by cases hw⟩
  | succ k ih =>
    intro y hk e
    rw [rn_s] at e
    cases g : _root_.Jvm.Pilot.CCaveAdviceLaw_law_r4081_87989a.rn t 0 k x0 with
    | none => rw [g] at e; cases e
    | some z =>
      rw [g] at e
      exact (ih z (by omega) g).st (by rw [Nat.zero_add]; exact ht k (by omega)) e
theorem rn_pre {t : Nat → Nat} {a : Nat} {x : RS} : ∀ d k y, rn t a (k + d) x = some y → ∃ z, rn t a k x = some z := by
  intro d
  induction d with
  | zero => intro k y h; exact ⟨y, h⟩
  | succ d ih =>
    intro k y h
    rw [← Nat.add_assoc, rn_s] at h
    cases g : rn t a (k + d) x with
    | none => rw [g] at h; cases h
    | some z => exact ih k z g
