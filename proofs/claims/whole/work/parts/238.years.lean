/-! years -/
def usN (z : Int32) : Nat := z.toBitVec.toNat / 65536
theorem us_n (z : Int32) : ushr z 16 = nI (usN z) ∧ usN z < 65536 := by
  have hl : z.toBitVec.toNat < 4294967296 := z.toBitVec.isLt
  refine ⟨?_, by unfold usN; omega⟩
  apply bvE
  apply BitVec.eq_of_toNat_eq
  rw [nBV, BitVec.toNat_ofNat, Nat.mod_eq_of_lt (by unfold usN; omega)]
  show (z.toUInt32 >>> (Int32.toUInt32 16 &&& Int32.toUInt32 31)).toNat = _
  rw [show Int32.toUInt32 16 &&& Int32.toUInt32 31 = (16 : UInt32) by decide, UInt32.toNat_shiftRight, Nat.shiftRight_eq_div_pow]
  rfl
def lcg (z : Int32) : Int32 := z * 1103515245 + 12345
def drw (z : Int32) (n : Nat) : Nat := usN (lcg z) % n
theorem drw_e {z : Int32} {n : Nat} (h0 : 0 < n) (hn : n < 1000) : ushr (lcg z) 16 - ushr (lcg z) 16 / nI n * nI n = nI (drw z n) := by
  obtain ⟨h1, h2⟩ := us_n (lcg z)
  rw [h1, nRem (by omega) (by omega)]
  rfl
theorem draw_c {T : St} {z : Int32} {n : Nat} (h0 : 0 < n) (hn : n < 1000) (hz : gI T 0 12 = z) : f_X10_draw (nI n) T = some (nI (drw z n), sI T 0 12 (lcg z)) := by
  unfold f_X10_draw
  rw [hz, lt_e, if_neg (show ¬ nI n ≤ 0 by rw [lit, nLe (by omega) (by omega)]; omega), if_pos (show ¬ nI n = 0 by rw [lit, nEq (by omega) (by omega)]; omega), lt_e, show gI (sI T 0 12 (z * 1103515245 + 12345)) 0 12 = lcg z from rfl, drw_e h0 hn]
  rfl
theorem draw_m {T : St} {z : Int32} {n : Nat} (h0 : 0 < n) (hn : n < 1000) (hz : gI T 122 50 = z) : f_X11_draws (nI n) T = some (nI (drw z n), sI T 122 50 (lcg z)) := by
  unfold f_X11_draws
  rw [hz, lt_e, if_pos (show ¬ nI n = 0 by rw [lit, nEq (by omega) (by omega)]; omega), lt_e, show gI (sI T 122 50 (z * 1103515245 + 12345)) 122 50 = lcg z from rfl, drw_e h0 hn]
  rfl
/-- a cave of other wear, hour, passages open -/
def cvW (c : Cv) (w : Nat → Nat) : Cv := (cm c, ca c, cb c, cd c, cn c, w, co c, ch c)
def cvH (c : Cv) : Cv := (cm c, ca c, cb c, cd c, cn c, fun j => cw c j - 1, co c, ch c + 1)
def cvO (c : Cv) (q : Nat) : Cv := (cm c, ca c, cb c, cd c, cn c, cw c, co c ^^^ 2 ^ q, ch c)
def wrN (l : Pth) (w : Nat → Nat) : Nat → Nat := l.foldl (fun w p => fun j => if j = p.1 then min 9 (w p.1 + 1) else w j) w
theorem wrN_e {m : Nat} : ∀ (l : Pth) (f : Nat → Int32) (w : Nat → Nat), (∀ p, p ∈ l → p.1 < m) → (∀ j, j < m → f j = nI (w j) ∧ w j ≤ 9) → ∀ j, j < m → wrA l f j = nI (wrN l w j) ∧ wrN l w j ≤ 9 := by
  intro l
  induction l with
  | nil => intro f w _ h j hj; exact h j hj
  | cons p l ih =>
    intro f w hl h j hj
    have hp := hl p (by simp)
    show wrA l (upN f p.1 _) j = nI (wrN l (fun j => if j = p.1 then min 9 (w p.1 + 1) else w j) j) ∧ wrN l (fun j => if j = p.1 then min 9 (w p.1 + 1) else w j) j ≤ 9
    refine ih _ _ (fun q hq => hl q (by simp [hq])) (fun i hi => ?_) j hj
    obtain ⟨e1, e2⟩ := h p.1 hp
    show (if i = p.1 then _ else _) = nI (if i = p.1 then _ else _) ∧ (if i = p.1 then _ else _) ≤ 9
    by_cases e : i = p.1
    · rw [if_pos e, if_pos e, e1, a1]
      exact ⟨mnNI (a := 9) (by omega) (by omega), by omega⟩
    · rw [if_neg e, if_neg e]; exact h i hi
theorem wrA_hi {m : Nat} : ∀ (l : Pth) (f : Nat → Int32), (∀ p, p ∈ l → p.1 < m) → ∀ j, m ≤ j → wrA l f j = f j := by
  intro l
  induction l with
  | nil => intro f _ j _; rfl
  | cons p l ih =>
    intro f hl j hj
    have hp := hl p (by simp)
    show wrA l (upN f p.1 _) j = _
    rw [ih _ (fun q hq => hl q (by simp [hq])) j hj]
    show (if j = p.1 then _ else _) = _
    rw [if_neg (by omega)]
theorem Cok.W {c : Cv} (ok : Cok c) {w : Nat → Nat} (h : ∀ j, j < cm c → w j ≤ 9) : Cok (cvW c w) := by
  obtain ⟨h1, h2, h3⟩ := ok
  refine ⟨h1, fun i hi => ?_, h3⟩
  obtain ⟨a, b, d, e, f, g, k⟩ := h2 i hi
  exact ⟨a, b, d, e, f, g, h i hi⟩
theorem Cok.H {c : Cv} (ok : Cok c) : Cok (cvH c) := by
  obtain ⟨h1, h2, h3⟩ := ok
  refine ⟨h1, fun i hi => ?_, h3⟩
  obtain ⟨a, b, d, e, f, g, k⟩ := h2 i hi
  exact ⟨a, b, d, e, f, g, by show cw c i - 1 ≤ 9; omega⟩
theorem Cok.O {c : Cv} (ok : Cok c) {q : Nat} (hq : q < cm c) : Cok (cvO c q) := by
  obtain ⟨h1, h2, h3⟩ := ok
  exact ⟨h1, h2, xor_lt h3 hq⟩
theorem heal1 {w : Nat} (h : w ≤ 9) : healN (nI w) 1 = nI (w - 1) := by
  have q : ∀ w, w ≤ 9 → healN (nI w) 1 = nI (w - 1) := by decide
  exact q w h
/-- one year -/
def yrS (a : Cv × Int32 × Nat) : Cv × Int32 × Nat :=
  if drw a.2.1 4 = 0 then (cvH a.1, lcg a.2.1, a.2.2)
  else if cm a.1 = 0 then (a.1, lcg a.2.1, a.2.2)
  else if drw a.2.1 4 = 3 then (cvO a.1 (drw (lcg a.2.1) (cm a.1)), lcg (lcg a.2.1), a.2.2)
  else if echB a.1 (drw (lcg a.2.1) 8) (drw (lcg (lcg a.2.1)) (cm a.1)) = true then (cvW a.1 (wrN (pth a.1 (drw (lcg a.2.1) 8) (drw (lcg (lcg a.2.1)) (cm a.1))) (cw a.1)), lcg (lcg (lcg a.2.1)), a.2.2 + 1)
  else (a.1, lcg (lcg (lcg a.2.1)), a.2.2)
abbrev oY : St → St → Prop := Sm (fun a b => decide (a ≠ 6) && decide (a ≠ 9) && decide (a ≠ 92) && decide (a ≠ 93) && decide (a ≠ 94) && (decide (a ≠ 0) || decide (b ≠ 12))) (fun _ => true)
abbrev oZ : St → St → Prop := Sm (fun a b => decide (a ≠ 127) && decide (a ≠ 134) && decide (a ≠ 135) && (decide (a ≠ 122) || (decide (b ≠ 24) && decide (b ≠ 25) && decide (b ≠ 26) && decide (b ≠ 50)))) (fun _ => true)
theorem offE.y {T T' : St} (h : offE T T') : oY T T' := ⟨fun a b hab => h.1 a b (by simp at hab; omega) (by simp at hab; omega) (by simp at hab; omega), fun a b _ => h.2 a b⟩
theorem offM.z {T T' : St} (h : offM T T') : oZ T T' := ⟨fun a b hab => h.1 a b (by simp at hab; omega) (by simp at hab; omega) (by simp at hab; omega), fun a b _ => h.2 a b⟩
theorem drw_lt {z : Int32} {n : Nat} (h : 0 < n) : drw z n < n := Nat.mod_lt _ h
/-- what the class's year does -/
theorem year_c {T : St} {a : Cv × Int32 × Nat} (ok : Cok a.1) (h : CC T a.1) (hz : gI T 0 12 = a.2.1) : ∃ T' d, f_X10_liveYear T = some (nI d, T') ∧ oY T T' ∧ (∀ k, 12 ≤ k → gI T' 9 k = gI T 9 k) ∧ CC T' (yrS a).1 ∧ gI T' 0 12 = (yrS a).2.1 ∧ (yrS a).2.2 = a.2.2 + d ∧ d ≤ 1 ∧ Cok (yrS a).1 ∧ cm (yrS a).1 = cm a.1 ∧ ∀ k, k ≠ 3 → k ≠ 4 → k ≠ 5 → gI T' 6 k = gI T 6 k := by
  obtain ⟨c, z, md⟩ := a
  simp only at ok h hz
  have h12 := ok12 ok
  have hO := okO ok
  have l4 := drw_lt (z := z) (n := 4) (by omega)
  have cS : ∀ v, CC (sI T 0 12 v) c := fun v => h
  unfold f_X10_liveYear yrS
  simp only
  rw [show f_X10_draw 4 T = _ from draw_c (n := 4) (by omega) (by omega) hz, bd_e]
  by_cases g0 : drw z 4 = 0
  · rw [if_pos (show nI (drw z 4) = 0 by rw [g0]; rfl), show f_X0_heal 1 (sI T 0 12 (lcg z)) = _ from heal_e 1 (cS _).1 h12, bd_e, if_pos g0]
    refine ⟨_, 0, rfl, ?_, fun k hk => ?_, ⟨?_, fun i hi => ?_, ?_, ?_⟩, rfl, rfl, by omega, ok.H, rfl, fun k k3 k4 k5 => ?_⟩
    · exact (((Sm.rf T).sI rfl).sR (fun _ => rfl)).sI rfl
    · show (if k < cm c then _ else _) = _
      rw [if_neg (by omega)]; rfl
    · exact h.1
    · obtain ⟨e1, e2, e3, e4, e5⟩ := h.2.1 i hi
      obtain ⟨_, _, _, _, _, _, w9⟩ := ok.2.1 i hi
      refine ⟨e1, e2, e3, e4, ?_⟩
      show (if i < cm c then healN (gI T 9 i) 1 else _) = nI (cw c i - 1)
      rw [if_pos (show i < cm c from hi), e5, heal1 w9]
    · exact h.2.2.1
    · show gI T 6 4 + 1 = ch c + 1
      rw [h.2.2.2]
    · rw [gI_s, if_pos rfl, if_neg k4]; rfl
  · rw [if_neg (show ¬ nI (drw z 4) = 0 by rw [lit, nEq (by omega) (by omega)]; exact g0), if_neg g0, (cS _).1]
    by_cases g1 : cm c = 0
    · rw [if_pos (show nI (cm c) = 0 by rw [g1]; rfl), if_pos g1]
      exact ⟨_, 0, rfl, (Sm.rf T).sI rfl, fun k hk => rfl, h, rfl, rfl, by omega, ok, rfl, fun k _ _ _ => rfl⟩
    · rw [if_neg (show ¬ nI (cm c) = 0 by rw [lit, nEq (by omega) (by omega)]; exact g1), if_neg g1]
      by_cases g3 : drw z 4 = 3
      · have lq := drw_lt (z := lcg z) (n := cm c) (by omega)
        rw [if_pos (show nI (drw z 4) = 3 by rw [g3]; rfl), if_pos g3, draw_c (T := sI T 0 12 (lcg z)) (z := lcg z) (by omega) (by omega) rfl, bd_e]
        generalize drw (lcg z) (cm c) = q at lq
        have hC2 : CC (sI (sI T 0 12 (lcg z)) 0 12 (lcg (lcg z))) c := h
        have e : f_X10_turnPassage (nI q) (sI (sI T 0 12 (lcg z)) 0 12 (lcg (lcg z))) = some (bC (nI (co c ^^^ 2 ^ q)), sI (sI (sI T 0 12 (lcg z)) 0 12 (lcg (lcg z))) 6 3 (nI (co c ^^^ 2 ^ q))) := by
          unfold f_X10_turnPassage
          rw [has_e hC2.1 h12, bd_e]
          simp only [fl3z]
          rw [if_pos (by rw [nLt (by omega) (by omega), nLt (by omega) (by omega)]; omega), lt_e, hC2.2.2.1, show (1 : Int32) <<< (nI q &&& 31) = nI (2 ^ q) from nShl (by omega), nXor, bc_e, bd_e]
          rfl
        rw [e, bd_e]
        refine ⟨_, 0, rfl, ((((Sm.rf T).sI rfl).sI rfl).sI rfl), fun k hk => rfl, ⟨h.1, h.2.1, rfl, h.2.2.2⟩, rfl, rfl, by omega, ok.O lq, rfl, fun k k3 k4 k5 => ?_⟩
        rw [gI_s, if_pos rfl, if_neg k3]; rfl
      · have l8 := drw_lt (z := lcg z) (n := 8) (by omega)
        have lq := drw_lt (z := lcg (lcg z)) (n := cm c) (by omega)
        rw [if_neg (show ¬ nI (drw z 4) = 3 by rw [lit, nEq (by omega) (by omega)]; exact g3), if_neg g3, show f_X10_draw 8 (sI T 0 12 (lcg z)) = _ from draw_c (n := 8) (z := lcg z) (by omega) (by omega) rfl, bd_e, show gI (sI (sI T 0 12 (lcg z)) 0 12 (lcg (lcg z))) 3 2 = nI (cm c) from h.1, draw_c (T := sI (sI T 0 12 (lcg z)) 0 12 (lcg (lcg z))) (z := lcg (lcg z)) (by omega) (by omega) rfl, bd_e]
        generalize drw (lcg z) 8 = st at l8
        generalize drw (lcg (lcg z)) (cm c) = q at lq
        generalize hX : sI (sI (sI T 0 12 (lcg z)) 0 12 (lcg (lcg z))) 0 12 (lcg (lcg (lcg z))) = X
        have hCX : CC X c := by rw [← hX]; exact h
        have oX : oY T X := by rw [← hX]; exact ((Sm.rf T).sI rfl).sI rfl |>.sI rfl
        have x12 : gI X 0 12 = lcg (lcg (lcg z)) := by rw [← hX]; rfl
        have x9 : ∀ k, gI X 9 k = gI T 9 k := fun k => by rw [← hX]; rfl
        have x6 : ∀ k, gI X 6 k = gI T 6 k := fun k => by rw [← hX]; rfl
        obtain ⟨T1, g1', g2, g3'⟩ := goes_b ok hCX (show st ≤ 7 by omega) lq
        rw [g1', bd_e]
        have t12 : gI T1 0 12 = lcg (lcg (lcg z)) := (g2.1 0 12 (by omega) (by omega) (by omega)).trans x12
        cases hb : echB c st q with
        | false =>
          rw [if_pos (show flI false = 0 from rfl), if_neg (by simp)]
          exact ⟨T1, 0, rfl, oX.tr g2.y, fun k hk => (g2.1 _ _ (by omega) (by omega) (by omega)).trans (x9 k), hCX.q g2.q, t12, rfl, by omega, ok, rfl, fun k _ _ _ => (g2.1 _ _ (by omega) (by omega) (by omega)).trans (x6 k)⟩
        | true =>
          have hl := pth_ok ok (show st ≤ 7 by omega) lq
          rw [if_neg (show ¬ flI true = 0 by decide), wear_c ok (g3' hb) hl, bd_e, if_pos rfl]
          have hC1 := hCX.q g2.q
          have wn := wrN_e (m := cm c) (pth c st q) (gI T1 9) (cw c) hl.2 (fun j hj => ⟨(hC1.2.1 j hj).2.2.2.2, (ok.2.1 j hj).2.2.2.2.2.2⟩)
          refine ⟨_, 1, rfl, (((oX.tr g2.y).sR (fun _ => rfl)).sI rfl), fun k hk => ?_, ⟨hC1.1, fun i hi => ?_, hC1.2.2.1, hC1.2.2.2⟩, t12, rfl, by omega, ok.W (fun j hj => (wn j hj).2), rfl, fun k k3 k4 k5 => ?_⟩
          · show wrA (pth c st q) (gI T1 9) k = _
            rw [wrA_hi (m := cm c) _ _ hl.2 k (by omega), g2.1 _ _ (by omega) (by omega) (by omega), x9]
          · obtain ⟨e1, e2, e3, e4, e5⟩ := hC1.2.1 i hi
            exact ⟨e1, e2, e3, e4, (wn i hi).1⟩
          · rw [gI_s, if_pos rfl, if_neg k5, gI_r, if_neg (by omega), g2.1 _ _ (by omega) (by omega) (by omega), x6]
theorem offM.c2 {T T' : St} {c : Cv} (h : offM T T') (hc : CM T 127 c) : CM T' 127 c := h.c hc (by omega) (by omega) (by omega)
theorem CM.z {T : St} {c : Cv} (h : CM T 127 c) (v : Int32) : CM (sI T 122 50 v) 127 c := by
  obtain ⟨h1, h2, h3, h4⟩ := h
  exact ⟨h1, h2, h3, h4⟩
/-- what the reference's year does -/
theorem year_m {T : St} {a : Cv × Int32 × Nat} (ok : Cok a.1) (h : CM T 127 a.1) (hz : gI T 122 50 = a.2.1) {n i : Nat} (hn : n ≤ 60) (hi : i < n) (e k : Int32 × Int32 → St → Option (Int32 × St)) : ∃ T', f_X11_years_33b (nI n) e k (nI a.2.2, nI i) T = k (nI (yrS a).2.2, nI (i + 1)) T' ∧ oZ T T' ∧ CM T' 127 (yrS a).1 ∧ gI T' 122 50 = (yrS a).2.1 := by
  obtain ⟨c, z, md⟩ := a
  simp only at ok h hz
  have h12 := ok12 ok
  have hO := okO ok
  have l4 := drw_lt (z := z) (n := 4) (by omega)
  unfold f_X11_years_33b f_X11_years_135 f_X11_years_132 f_X11_years_159 yrS
  simp only
  rw [if_neg (by rw [nLe (by omega) (by omega)]; omega), show f_X11_draws 4 T = _ from draw_m (n := 4) (by omega) (by omega) hz, bd_e, a1]
  by_cases g0 : drw z 4 = 0
  · rw [if_pos (show nI (drw z 4) = 0 by rw [g0]; rfl), show f_X11_hoursGo 127 1 (sI T 122 50 (lcg z)) = _ from hoursGo_e (ar := 127) 1 (h.z _).1 h12 (by omega), bd_e, if_pos g0]
    refine ⟨_, rfl, ?_, ⟨?_, fun j hj => ?_, ?_, ?_⟩, rfl⟩
    · exact ((Sm.rf T).sI rfl).sR (fun _ => rfl)
    · exact h.1
    · obtain ⟨e1, e2, e3, e4, e5⟩ := h.2.1 j hj
      obtain ⟨_, _, _, _, _, _, w9⟩ := ok.2.1 j hj
      have hj' : j < cm c := hj
      refine ⟨e1, e2, ?_, ?_, ?_⟩
      · show (if j = 37 then _ else if 24 ≤ j ∧ j < 24 + cm c then _ else gI T 127 j) = _
        rw [if_neg (by omega), if_neg (by omega)]; exact e3
      · show (if 12 + j = 37 then _ else if 24 ≤ 12 + j ∧ 12 + j < 24 + cm c then _ else gI T 127 (12 + j)) = _
        rw [if_neg (by omega), if_neg (by omega)]; exact e4
      · show (if 24 + j = 37 then _ else if 24 ≤ 24 + j ∧ 24 + j < 24 + cm c then healN (gI T 127 (24 + j)) 1 else _) = nI (cw c j - 1)
        rw [if_neg (by omega), if_pos (by omega), e5, heal1 w9]
    · rw [gI_r, if_pos rfl, if_neg (by omega), if_neg (by omega)]; exact h.2.2.1
    · rw [gI_r, if_pos rfl, if_pos rfl]
      show gI T 127 37 + 1 = ch c + 1
      rw [h.2.2.2]
  · rw [if_neg (show ¬ nI (drw z 4) = 0 by rw [lit, nEq (by omega) (by omega)]; exact g0), if_neg g0, (h.z _).1]
    by_cases g1 : cm c = 0
    · rw [if_pos (show nI (cm c) ≤ 0 by rw [g1]; decide), if_pos (show nI (cm c) ≤ 0 by rw [g1]; decide), if_pos g1]
      exact ⟨_, rfl, (Sm.rf T).sI rfl, h.z _, rfl⟩
    · have np : ¬ nI (cm c) ≤ 0 := by rw [lit, nLe (by omega) (by omega)]; omega
      rw [if_neg np, if_neg np, if_neg g1]
      by_cases g3 : drw z 4 = 3
      · have lq := drw_lt (z := lcg z) (n := cm c) (by omega)
        rw [if_pos (show (3 : Int32) ≤ nI (drw z 4) by rw [g3]; decide), if_pos g3, draw_m (T := sI T 122 50 (lcg z)) (z := lcg z) (by omega) (by omega) rfl, bd_e]
        generalize drw (lcg z) (cm c) = q at lq
        have hC2 : CM (sI (sI T 122 50 (lcg z)) 122 50 (lcg (lcg z))) 127 c := (h.z _).z _
        have ef : f_X11_fallsOne 127 (nI q) (sI (sI T 122 50 (lcg z)) 122 50 (lcg (lcg z))) = some (bC (nI (co c ^^^ 2 ^ q)), sI (sI (sI T 122 50 (lcg z)) 122 50 (lcg (lcg z))) 127 36 (nI (co c ^^^ 2 ^ q))) := by
          unfold f_X11_fallsOne
          rw [isP_e hC2.1 h12, bd_e]
          simp only [fl3z]
          rw [if_pos (by rw [nLt (by omega) (by omega), nLt (by omega) (by omega)]; omega), lt_e, hC2.2.2.1, show (1 : Int32) <<< (nI q &&& 31) = nI (2 ^ q) from nShl (by omega), nXor, bc_e, bd_e]
          rfl
        rw [ef, bd_e]
        refine ⟨_, rfl, ((((Sm.rf T).sI rfl).sI rfl).sI rfl), ⟨h.1, fun j hj => ?_, rfl, h.2.2.2⟩, rfl⟩
        obtain ⟨e1, e2, e3, e4, e5⟩ := h.2.1 j hj
        have hj' : j < cm c := hj
        refine ⟨e1, e2, ?_, ?_, ?_⟩
        · rw [gI_s, if_pos rfl, if_neg (by omega)]; exact e3
        · rw [gI_s, if_pos rfl, if_neg (by omega)]; exact e4
        · rw [gI_s, if_pos rfl, if_neg (by omega)]; exact e5
      · have l8 := drw_lt (z := lcg z) (n := 8) (by omega)
        have lq := drw_lt (z := lcg (lcg z)) (n := cm c) (by omega)
        rw [if_neg (show ¬ (3 : Int32) ≤ nI (drw z 4) by rw [lit, nLe (by omega) (by omega)]; omega), if_neg g3, show f_X11_draws 8 (sI T 122 50 (lcg z)) = _ from draw_m (n := 8) (z := lcg z) (by omega) (by omega) rfl, bd_e, show gI (sI (sI T 122 50 (lcg z)) 122 50 (lcg (lcg z))) 122 3 = nI (cm c) from h.1, draw_m (T := sI (sI T 122 50 (lcg z)) 122 50 (lcg (lcg z))) (z := lcg (lcg z)) (by omega) (by omega) rfl, bd_e]
        generalize drw (lcg z) 8 = st at l8
        generalize drw (lcg (lcg z)) (cm c) = q at lq
        generalize hX : sI (sI (sI T 122 50 (lcg z)) 122 50 (lcg (lcg z))) 122 50 (lcg (lcg (lcg z))) = X
        have hCX : CM X 127 c := by rw [← hX]; exact ((h.z _).z _).z _
        have oX : oZ T X := by rw [← hX]; exact ((Sm.rf T).sI rfl).sI rfl |>.sI rfl
        have x12 : gI X 122 50 = lcg (lcg (lcg z)) := by rw [← hX]; rfl
        rw [isE_b ok hCX (show st ≤ 7 by omega) lq, bd_e]
        cases hb : echB c st q with
        | false =>
          rw [if_pos (show flI false = 0 from rfl), if_neg (by simp)]
          exact ⟨X, rfl, oX, hCX, x12⟩
        | true =>
          have hl := pth_ok ok (show st ≤ 7 by omega) lq
          obtain ⟨T1, g1', g2, g3'⟩ := lays_m ok hCX (by omega) (by omega) (by omega) (show st ≤ 7 by omega) lq (echB_o hb)
          have hC1 := g2.c2 hCX
          rw [if_neg (show ¬ flI true = 0 by decide), g1', bd_e, wears_m (ar := 127) ok g3' hl (by omega) (by omega), bd_e, if_pos rfl]
          have wn := wrN_e (m := cm c) (pth c st q) (fun j => gI T1 127 (24 + j)) (cw c) hl.2 (fun j hj => ⟨(hC1.2.1 j hj).2.2.2.2, (ok.2.1 j hj).2.2.2.2.2.2⟩)
          refine ⟨sI (sR T1 127 (wrM (pth c st q) T1 127)) 127 38 (mnI 999 (gI T1 127 38 + 1)), ?_, (((oX.tr g2.z).sR (fun _ => rfl)).sI rfl), ⟨hC1.1, fun j hj => ?_, ?_, ?_⟩, (g2.1 122 50 (by omega) (by omega) (by omega)).trans x12⟩
          · rw [a1]
          · obtain ⟨e1, e2, e3, e4, e5⟩ := hC1.2.1 j hj
            have hj' : j < cm c := hj
            refine ⟨e1, e2, ?_, ?_, ?_⟩
            · rw [gI_s, if_pos rfl, if_neg (by omega), gI_r, if_pos rfl]; unfold wrM; rw [if_neg (by omega)]; exact e3
            · rw [gI_s, if_pos rfl, if_neg (by omega), gI_r, if_pos rfl]; unfold wrM; rw [if_neg (by omega)]; exact e4
            · rw [gI_s, if_pos rfl, if_neg (by omega), gI_r, if_pos rfl]; unfold wrM; rw [if_pos (by omega), show 24 + j - 24 = j by omega]; exact (wn j hj).1
          · rw [gI_s, if_pos rfl, if_neg (by omega), gI_r, if_pos rfl]; unfold wrM; rw [if_neg (by omega)]; exact hC1.2.2.1
          · rw [gI_s, if_pos rfl, if_neg (by omega), gI_r, if_pos rfl]; unfold wrM; rw [if_neg (by omega)]; exact hC1.2.2.2
theorem copies_m (T : St) : f_X11_copies T = some ((), sR T 127 (fun k => if k < 39 then gI T 126 k else gI T 127 k)) := by
  have h := lp_for (body := f_X11_copies_2b (fun v4 S5 => some ((), S5))) 39 (fun i => (nI i, sR T 127 (fun k => if k < i then gI T 126 k else gI T 127 k))) (out := some ((), sR T 127 (fun k => if k < 39 then gI T 126 k else gI T 127 k))) (fun i k hi => ?_) (fun k => ?_) FU 0 (by omega) (by unfold FU; omega)
  · have e0 : sR T 127 (fun k => if k < 0 then gI T 126 k else gI T 127 k) = T := sR_0 (fun k => if_neg (by omega))
    simp only [e0] at h
    exact h
  · have wi : inb (nI i) 39 := by rw [inb_nI (by omega)]; omega
    unfold f_X11_copies_2b
    simp only
    rw [if_neg (show ¬ (39 : Int32) ≤ nI i by rw [lit, nLe (by omega) (by omega)]; omega)]
    simp only [if_pos wi, nI_t (show i < 2147483648 by omega), lt_e]
    rw [sR_I, a1]
    congr 1
    apply sR_e
    intro j
    by_cases e : j = i
    · rw [if_pos e, if_pos (show j < i + 1 by omega), e]; rfl
    · rw [if_neg e]
      by_cases e2 : j < i
      · rw [if_pos e2, if_pos (show j < i + 1 by omega)]
      · rw [if_neg e2, if_neg (show ¬ j < i + 1 by omega)]
  · unfold f_X11_copies_2b
    rw [if_pos (show (39 : Int32) ≤ nI 39 by decide)]
def yrA (c : Cv) (z : Int32) : Nat → Cv × Int32 × Nat := itN (fun _ a => yrS a) (c, z, 0)
theorem yrA_s (c : Cv) (z : Int32) (i : Nat) : yrA c z (i + 1) = yrS (yrA c z i) := by unfold yrA; rw [itN]
theorem oY.nq {T T' : St} (h : oY T T') (a b : Nat) (h1 : a ≠ 6) (h2 : a ≠ 9) (h3 : PC a b = true) : gI T' a b = gI T a b := by
  apply h.1
  have e1 : a ≠ 92 := by intro e; subst e; cases h3
  have e2 : a ≠ 93 := by intro e; subst e; cases h3
  have e3 : a ≠ 94 := by intro e; subst e; cases h3
  by_cases e4 : a = 0
  · have e5 : b ≠ 12 := by intro e; subst e; subst e4; cases h3
    simp [h1, h2, e1, e2, e3, e5]
  · simp [h1, h2, e1, e2, e3, e4]
theorem oZ.q {T T' : St} (h : oZ T T') : QM T T' := by
  refine ⟨fun a b hab => h.1 a b ?_, fun a b _ => h.2 a b rfl⟩
  have e1 : a ≠ 127 := by intro e; subst e; cases hab
  have e2 : a ≠ 134 := by intro e; subst e; cases hab
  have e3 : a ≠ 135 := by intro e; subst e; cases hab
  by_cases e4 : a = 122
  · have k1 : b ≠ 24 := by intro e; subst e; subst e4; cases hab
    have k2 : b ≠ 25 := by intro e; subst e; subst e4; cases hab
    have k3 : b ≠ 26 := by intro e; subst e; subst e4; cases hab
    have k4 : b ≠ 50 := by intro e; subst e; subst e4; cases hab
    simp [e1, e2, e3, k1, k2, k3, k4]
  · simp [e1, e2, e3, e4]
