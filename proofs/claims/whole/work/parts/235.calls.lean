/-! passages worn by an echo -/
def wrA (l : Pth) (f : Nat → Int32) : Nat → Int32 := l.foldl (fun f p => upN f p.1 (mnI 9 (f p.1 + 1))) f
theorem wrA_s (l : Pth) (f : Nat → Int32) {i : Nat} (h : i < l.length) : wrA (l.take (i + 1)) f = upN (wrA (l.take i) f) (l.getD i (0, false)).1 (mnI 9 (wrA (l.take i) f (l.getD i (0, false)).1 + 1)) := by
  unfold wrA
  rw [List.take_add_one, List.getElem?_eq_getElem h, List.foldl_append]
  simp only [List.getD, List.getElem?_eq_getElem h, Option.toList, Option.getD, List.foldl]
theorem wrA_cg : ∀ (l : Pth) (f g : Nat → Int32), (∀ p, p ∈ l → p.1 < 12) → (∀ j, j < 12 → f j = g j) → ∀ j, j < 12 → wrA l f j = wrA l g j := by
  intro l
  induction l with
  | nil => intro f g _ h j hj; exact h j hj
  | cons p l ih =>
    intro f g hl h j hj
    have hp := hl p (by simp)
    show wrA l (upN f p.1 _) j = wrA l (upN g p.1 _) j
    refine ih _ _ (fun q hq => hl q (by simp [hq])) (fun i hi => ?_) j hj
    show (if i = p.1 then _ else _) = (if i = p.1 then _ else _)
    by_cases e : i = p.1
    · rw [if_pos e, if_pos e, h p.1 hp]
    · rw [if_neg e, if_neg e, h i hi]
theorem wrA_in {m : Nat} : ∀ (l : Pth) (f : Nat → Int32), (∀ p, p ∈ l → p.1 < m) → (∀ j, j < m → inR (f j) 0 9) → ∀ j, j < m → inR (wrA l f j) 0 9 := by
  intro l
  induction l with
  | nil => intro f _ h j hj; exact h j hj
  | cons p l ih =>
    intro f hl h j hj
    have hp := hl p (by simp)
    show inR (wrA l (upN f p.1 _) j) 0 9
    refine ih _ (fun q hq => hl q (by simp [hq])) (fun i hi => ?_) j hj
    show inR (if i = p.1 then _ else _) 0 9
    by_cases e : i = p.1
    · rw [if_pos e]
      obtain ⟨k, h1, h2, h3⟩ := h p.1 hp
      rw [h3, a1]
      exact ⟨min 9 (k + 1), by omega, by omega, mnNI (a := 9) (by omega) (by omega)⟩
    · rw [if_neg e]; exact h i hi
theorem wear_c {T : St} {c : Cv} {l : Pth} {x : Nat} (ok : Cok c) (hE : ECs c T l x) (hl : Pok c l) : f_X0_wearOut T = some ((), sI (sR T 9 (wrA l (gI T 9))) 6 5 (mnI 999 (gI T 6 5 + 1))) := by
  have hl1 := hl.1
  have h12 := ok12 ok
  have h := lp_for (body := f_X0_wearOut_2b (fun v6 S7 => lt (sI S7 6 5 (mnI (999 : Int32) ((gI S7 6 5) + (1 : Int32)))) (fun S8 => some ((), S8)))) l.length (fun i => (nI i, sR T 9 (wrA (l.take i) (gI T 9)))) (out := some ((), sI (sR T 9 (wrA l (gI T 9))) 6 5 (mnI 999 (gI T 6 5 + 1)))) (fun i k hi => ?_) (fun k => ?_) FU 0 (by omega) (by unfold FU; omega)
  · have e0 : sR T 9 (wrA (l.take 0) (gI T 9)) = T := sR_0 (fun _ => rfl)
    simp only [e0] at h
    exact h
  · have hq := pok_g hl hi
    have y1 : ∀ f, gI (sR T 9 f) 92 3 = nI l.length := fun _ => hE.1
    have y2 : ∀ f, gI (sR T 9 f) 93 i = nI (l.getD i (0, false)).1 := fun _ => (hE.2.2.2 i hi).1
    have y3 : ∀ f j, gI (sR T 9 f) 9 j = f j := fun f j => by rw [gI_r, if_pos rfl]
    rw [wrA_s l _ hi]
    generalize (l.getD i (0, false)).1 = q at hq y2
    have wq : inb (nI q) 12 := by rw [inb_nI (by omega)]; omega
    unfold f_X0_wearOut_2b
    simp only
    rw [y1, if_neg (by rw [nLe (by omega) (by omega)]; omega), if_pos (show inb (nI i) 12 by rw [inb_nI (by omega)]; omega), lt_e, nI_t (by omega), y2]
    simp only [if_pos wq, nI_t (show q < 2147483648 by omega), lt_e, y3]
    rw [sR_I, a1]
    rfl
  · unfold f_X0_wearOut_2b
    simp only
    rw [show gI (sR T 9 (wrA (List.take l.length l) (gI T 9))) 92 3 = gI T 92 3 from rfl, hE.1, if_pos (by rw [nLe (by omega) (by omega)]; omega), List.take_length, lt_e]
    rfl
def wrM (l : Pth) (T : St) (ar : Nat) : Nat → Int32 := fun k => if 24 ≤ k ∧ k < 36 then wrA l (fun j => gI T ar (24 + j)) (k - 24) else gI T ar k
theorem wears_m {T : St} {c : Cv} {l : Pth} {x ar : Nat} (ok : Cok c) (hE : EMs c T l x) (hl : Pok c l) (h1 : ar ≠ 122) (h2 : ar ≠ 134) : f_X11_wears ar T = some ((), sI (sR T ar (wrM l T ar)) ar 38 (mnI 999 (gI T ar 38 + 1))) := by
  have hl1 := hl.1
  have h12 := ok12 ok
  have h := lp_for (body := f_X11_wears_2b ar (fun v7 S8 => lt (sI S8 ar 38 (mnI (999 : Int32) ((gI S8 ar 38) + (1 : Int32)))) (fun S9 => some ((), S9)))) l.length (fun i => (nI i, sR T ar (wrM (l.take i) T ar))) (out := some ((), sI (sR T ar (wrM l T ar)) ar 38 (mnI 999 (gI T ar 38 + 1)))) (fun i k hi => ?_) (fun k => ?_) FU 0 (by omega) (by unfold FU; omega)
  · have e0 : sR T ar (wrM (l.take 0) T ar) = T := sR_0 (fun k => by
      unfold wrM
      split
      · rw [List.take_zero]; show gI T ar (24 + (k - 24)) = _; congr 1; omega
      · rfl)
    simp only [e0] at h
    exact h
  · have hq := pok_g hl hi
    have y1 : ∀ f, gI (sR T ar f) 122 24 = nI l.length := fun f => by rw [gI_r, if_neg (fun e => h1 e.symm)]; exact hE.1
    have y2 : ∀ f, gI (sR T ar f) 134 i = nI (l.getD i (0, false)).1 := fun f => by rw [gI_r, if_neg (fun e => h2 e.symm)]; exact (hE.2.2.2 i hi).1
    have y3 : ∀ f j, gI (sR T ar f) ar j = f j := fun f j => by rw [gI_r, if_pos rfl]
    have ws : wrM (l.take (i + 1)) T ar = fun j => if j = 24 + (l.getD i (0, false)).1 then mnI 9 (wrM (l.take i) T ar (24 + (l.getD i (0, false)).1) + 1) else wrM (l.take i) T ar j := by
      funext j
      unfold wrM
      by_cases g : 24 ≤ j ∧ j < 36
      · rw [if_pos g, wrA_s l _ hi]
        show (if j - 24 = _ then _ else _) = _
        by_cases e : j = 24 + (l.getD i (0, false)).1
        · rw [if_pos e, if_pos (by omega), if_pos (by omega), show 24 + (l.getD i (0, false)).1 - 24 = (l.getD i (0, false)).1 by omega]
        · rw [if_neg e, if_neg (by omega), if_pos g]
      · rw [if_neg g, if_neg (by omega), if_neg g]
    rw [ws]
    generalize (l.getD i (0, false)).1 = q at hq y2
    have wq : inb (nI (24 + q)) 39 := by rw [inb_nI (by omega)]; omega
    have wi : inb (nI i) 12 := by rw [inb_nI (by omega)]; omega
    have k2 : (24 : Int32) + nI q = nI (24 + q) := nAdd 24 q
    unfold f_X11_wears_2b
    simp only
    rw [y1, if_neg (by rw [nLe (by omega) (by omega)]; omega)]
    simp only [if_pos wi, nI_t (show i < 2147483648 by omega), y2, k2, if_pos wq, nI_t (show 24 + q < 2147483648 by omega), lt_e, y3]
    rw [sR_I, a1]
  · have y1 : ∀ f, gI (sR T ar f) 122 24 = nI l.length := fun f => by rw [gI_r, if_neg (fun e => h1 e.symm)]; exact hE.1
    unfold f_X11_wears_2b
    simp only
    rw [y1, if_pos (by rw [nLe (by omega) (by omega)]; omega), List.take_length, lt_e, gI_r, if_pos rfl]
    rfl
theorem worn {S E : St} {m : Nat} {l : Pth} (hm : m ≤ 12) (hl : ∀ p, p ∈ l → p.1 < m) (hO : SOk S m 6) (hN : SEq S 6 126 0) (e7 : ∀ k, gI E 7 k = gI S 7 k) (e8 : ∀ k, gI E 8 k = gI S 8 k) (e9 : ∀ k, gI E 9 k = wrA l (gI S 9) k) (e63 : gI E 6 3 = gI S 6 3) (e64 : gI E 6 4 = gI S 6 4) (e65 : gI E 6 5 = mnI 999 (gI S 6 5 + 1)) (em : ∀ k, k < 38 → gI E 126 k = wrM l S 126 k) (em8 : gI E 126 38 = mnI 999 (gI S 126 38 + 1)) : SEq E 6 126 0 ∧ SOk E m 6 := by
  obtain ⟨o1, o2, o3⟩ := hO
  obtain ⟨n1, n2, n3, n4⟩ := hN
  refine ⟨⟨fun i hi => ?_, ?_, ?_, ?_⟩, fun i hi => ?_, ?_, ?_⟩
  · obtain ⟨a, b, d⟩ := n1 i hi
    rw [Nat.zero_add] at a b d
    rw [Nat.zero_add, e7, e8, e9, em _ (by omega), em _ (by omega), em _ (by omega)]
    refine ⟨?_, ?_, ?_⟩
    · unfold wrM; rw [if_neg (by omega)]; exact a
    · unfold wrM; rw [if_neg (by omega)]; exact b
    · unfold wrM; rw [if_pos (by omega), show 24 + i - 24 = i by omega]
      exact wrA_cg l _ _ (fun p hp => by have := hl p hp; omega) (fun j hj => (n1 j hj).2.2) i hi
  · rw [e63, em _ (by omega)]; unfold wrM; rw [if_neg (by omega)]; exact n2
  · rw [e64, em _ (by omega)]; unfold wrM; rw [if_neg (by omega)]; exact n3
  · rw [e65, em8, n4]
  · rw [e7, e8, e9]
    exact ⟨(o1 i hi).1, (o1 i hi).2.1, wrA_in l _ hl (fun j hj => (o1 j hj).2.2) i hi⟩
  · rw [e63]; exact o2
  · rw [e65]
    obtain ⟨k, h1, h2, h3⟩ := o3
    rw [h3, a1]
    exact ⟨min 999 (k + 1), by omega, by omega, mnNI (a := 999) (by omega) (by omega)⟩
/-! the end of an act that reads a text and tells a row -/
theorem dom_scr {a b : Nat} (h : domR a b = true) : scr a b = false := by
  unfold domR at h
  simp only [Bool.or_eq_true, Bool.and_eq_true, decide_eq_true_eq] at h
  rcases h with ((((h | h) | h) | h) | h) | h
  · have q : ∀ a, a < 160 → domO.contains a = true → scrO.contains a = false ∧ a ≠ 122 ∧ a ≠ 0 ∧ a ≠ 104 ∧ a ≠ 110 ∧ a ≠ 115 := by decide +kernel
    have hlt : a < 160 := by
      apply Decidable.byContradiction
      intro hge
      unfold domO at h
      simp at h
      omega
    obtain ⟨q1, q2, q3, q4, q5, q6⟩ := q a hlt h
    unfold scr
    rw [q1, decide_eq_false q2, decide_eq_false q3, decide_eq_false q4, decide_eq_false q5, decide_eq_false q6]; rfl
  · exact scr_st (by omega) (by omega)
  · obtain ⟨rfl, h2⟩ := h
    rcases h2 with rfl | rfl <;> decide +kernel
  · obtain ⟨h1, rfl⟩ := h
    rcases h1 with rfl | rfl <;> decide +kernel
  · obtain ⟨rfl, rfl⟩ := h; decide +kernel
  · obtain ⟨rfl, h2⟩ := h
    unfold domM at h2
    simp at h2
    rcases h2 with rfl | rfl | rfl | rfl | rfl | rfl | rfl <;> decide +kernel
theorem dom_no {a b : Nat} (h : domR a b = true) : a ≠ 6 ∧ a ≠ 7 ∧ a ≠ 8 ∧ a ≠ 9 ∧ a ≠ 12 ∧ ¬ (14 ≤ a ∧ a ≤ 77) ∧ a ≠ 126 ∧ a ≠ 137 ∧ (a ≠ 122 ∨ b ≠ 28) := by
  refine ⟨?_, ?_, ?_, ?_, ?_, ?_, ?_, ?_, ?_⟩
  · intro e; subst e; cases h
  · intro e; subst e; cases h
  · intro e; subst e; cases h
  · intro e; subst e; cases h
  · intro e; subst e; cases h
  · intro e; rw [dom_z e.1 e.2] at h; cases h
  · intro e; subst e; cases h
  · intro e; subst e; cases h
  · by_cases e : a = 122
    · refine Or.inr ?_
      intro e2; subst e; subst e2; cases h
    · exact Or.inl e
theorem RelR.fin {S E : St} {m : Nat} (hR : RelR S m) (hr : RR E) (h1 : gI E 1 1 = 0) (h2 : gI E 122 10 = 0) (hs : ∀ a b, domR a b = true → scr2 a b = false → (a ≠ 1 ∨ b ≠ 1) → (a ≠ 122 ∨ b ≠ 10) → gI E a b = gI S a b) : RelR E m := by
  have h0 : RelR (sQ (sQ (sI (sI (sI (sI S 1 1 0) 122 10 0) 10 1 (gI E 10 1)) 122 1 (gI E 122 1)) 11 (gL E 11)) 123 (gL E 123)) m := by
    obtain ⟨hT, hC, hK, hRR, hF, hE, hU⟩ := hR
    obtain ⟨n, n1, n2, n3, n4, n5⟩ := hT
    exact ⟨⟨0, by omega, rfl, rfl, fun i hi => absurd hi (by omega), n5⟩, hC.fr, hK.fr, hr.fr, hF.fr, hE.fr, hU.fr⟩
  refine h0.sm ⟨fun a b hab => ?_, fun k => ⟨rfl, rfl⟩⟩
  show gI E a b = gI (sI (sI (sI (sI S 1 1 0) 122 10 0) 10 1 (gI E 10 1)) 122 1 (gI E 122 1)) a b
  rw [gI_s]
  by_cases q1 : a = 122
  · rw [if_pos q1]
    by_cases q2 : b = 1
    · rw [if_pos q2, q1, q2]
    · rw [if_neg q2, gI_s, if_neg (by omega), gI_s, if_pos q1]
      by_cases q3 : b = 10
      · rw [if_pos q3, q1, q3]; exact h2
      · rw [if_neg q3, gI_s, if_neg (by omega)]
        refine hs a b hab ?_ (by omega) (by omega)
        unfold scr2; rw [dom_scr hab, decide_eq_false (show ¬ a = 10 by omega), decide_eq_false q2]; simp
  · rw [if_neg q1, gI_s]
    by_cases q4 : a = 10
    · rw [if_pos q4]
      by_cases q5 : b = 1
      · rw [if_pos q5, q4, q5]
      · rw [if_neg q5, gI_s, if_neg q1, gI_s, if_neg (by omega)]
        refine hs a b hab ?_ (by omega) (by omega)
        unfold scr2; rw [dom_scr hab, decide_eq_false q1, decide_eq_false q5]; simp
    · rw [if_neg q4, gI_s, if_neg q1, gI_s]
      have hsc : scr2 a b = false := by unfold scr2; rw [dom_scr hab, decide_eq_false q1, decide_eq_false q4]; rfl
      by_cases q6 : a = 1
      · rw [if_pos q6]
        by_cases q7 : b = 1
        · rw [if_pos q7, q6, q7]; exact h1
        · rw [if_neg q7]; exact hs a b hab hsc (by omega) (by omega)
      · rw [if_neg q6]; exact hs a b hab hsc (by omega) (by omega)
theorem RHw.of {S T : St} {m u f : Nat} (h : RHw S m u f) (q12 : ∀ b, gI T 12 b = gI S 12 b) (q28 : gI T 122 28 = gI S 122 28) (q137 : ∀ b, gI T 137 b = gI S 137 b) (qz : ∀ a b, 14 ≤ a → a ≤ 77 → gI T a b = gI S a b) : RHw T m u f := by
  obtain ⟨h1, h2, h3, h4, h5, h6⟩ := h
  refine ⟨h1, h2, (q12 2).trans h3, q28.trans h4, (q12 1).trans h5, fun j hj => ?_⟩
  exact ⟨(h6 j hj).1.fr (fun q k hq => qz _ _ (by omega) (by omega)) (fun k _ _ => q137 k), (h6 j hj).2.fr (fun q k hq => qz _ _ (by omega) (by omega))⟩
theorem CX.of {S T : St} {c : Cv} {o : Nat} {r : Rl} (h : CX S c o r) (q : ∀ a b, (a < 14 ∨ 77 < a) → gI T a b = gI S a b) : CX T c o r := by
  obtain ⟨⟨h1, h2, h4, h5⟩, ⟨b1, b2, b3, b4, b5⟩, h3⟩ := h
  refine ⟨⟨(q _ _ (by omega)).trans h1, fun i hi => ?_, (q _ _ (by omega)).trans h4, (q _ _ (by omega)).trans h5⟩, ⟨b1, b2, (q _ _ (by omega)).trans b3, fun i hi => (q _ _ (by omega)).trans (b4 i hi), b5⟩, (q _ _ (by omega)).trans h3⟩
  rw [q 4 i (by omega), q 5 i (by omega), q 7 i (by omega), q 8 i (by omega), q 9 i (by omega)]
  exact h2 i hi
theorem ECs.of {S T : St} {c : Cv} {l : Pth} {x : Nat} (h : ECs c S l x) (q : ∀ a b, (a < 14 ∨ 77 < a) → gI T a b = gI S a b) : ECs c T l x := by
  obtain ⟨h1, h2, h3, h4⟩ := h
  refine ⟨(q _ _ (by omega)).trans h1, (q _ _ (by omega)).trans h2, (q _ _ (by omega)).trans h3, fun i hi => ?_⟩
  rw [q 93 i (by omega), q 94 i (by omega)]
  exact h4 i hi
theorem puts_c {T : St} {c : Cv} {o : Nat} {r : Rl} {l : Pth} {e n : Nat} {tx : Nat → Int32} {l0 : List Int64} (ok : Cok c) (hC : CX T c o r) (hE : ECs c T l e) (hl : Pok c l) (hn : n ≤ 6) (ht : ∀ i, i < n → gI T 2 i - 97 = tx i) (hw : RwC T l0) (hl0 : l0.length ≤ 2) : ∃ T1, f_X10_putLetters (nI n) T = some ((), T1) ∧ QC T T1 ∧ ECs c T1 l e ∧ RwC T1 (l0 ++ rowF (fun p => cmo c r (nI p) l (tx p)) n) := by
  have h := lp_ex (body := f_X10_putLetters_2b (nI n) (fun v11 S12 => some ((), S12))) (Q := fun w => ∃ T1, w = some ((), T1) ∧ QC T T1 ∧ ECs c T1 l e ∧ RwC T1 (l0 ++ rowF (fun p => cmo c r (nI p) l (tx p)) n)) n (fun i v S => v = nI i ∧ QC T S ∧ ECs c S l e ∧ RwC S (l0 ++ rowF (fun p => cmo c r (nI p) l (tx p)) i) ∧ ∀ i, gI S 2 i = gI T 2 i) (fun i k v S hi hI => ?_) (fun k v S hI => ?_) FU 0 (0 : Int32) T (by omega) (by unfold FU; omega) ⟨rfl, Sm.rf T, hE, by rw [rowF, List.append_nil]; exact hw, fun _ => rfl⟩
  · exact h
  · obtain ⟨rfl, w1, w2, w3, w4⟩ := hI
    have hCS := hC.q w1
    obtain ⟨T2, s1, s2⟩ := cmo_c ok hCS.1 hCS.2.1 w2 hl (tx i) (nI i)
    obtain ⟨T3, t1, t2, t3, t4⟩ := put_e (cmo c r (nI i) l (tx i)).toInt64 (w3.o s2.j) (by rw [List.length_append, rowF_l]; omega)
    refine ⟨_, T3, ?_, rfl, (w1.tr s2.j.q).tr t2, (w2.o s2.j).p t4, ?_, fun j => ?_⟩
    · unfold f_X10_putLetters_2b
      rw [if_neg (by rw [nLe (by omega) (by omega)]; omega), if_pos (isRl hCS).1, (isRl hCS).2, let_c (by omega), bd_e, w4, ht i hi, s1, bd_e, t1, bd_e, a1]
    · rw [rowF, ← List.append_assoc]; exact t3
    · rw [t4 2 j (by omega), s2.1 2 j rfl, w4]
  · obtain ⟨rfl, w1, w2, w3, w4⟩ := hI
    unfold f_X10_putLetters_2b
    rw [if_pos (by rw [nLe (by omega) (by omega)]; omega)]
    exact ⟨S, rfl, w1, w2, w3⟩
theorem puts_m {T : St} {c : Cv} {r : Rl} {l : Pth} {e n : Nat} {tx : Nat → Int32} {l0 : List Int64} (ok : Cok c) (hM : MX T c r) (hE : EMs c T l e) (hl : Pok c l) (hn : n ≤ 6) (ht : ∀ i, i < n → gI T 138 i = tx i) (hw : RwM T l0) (hl0 : l0.length ≤ 2) (e' : Int32 → St → Option (Int32 × St)) : ∃ T1, lp (f_X11_calls_45b (nI n) e') FU 0 T = e' (nI n) T1 ∧ QM T T1 ∧ EMs c T1 l e ∧ RwM T1 (l0 ++ rowF (fun p => cmo c r (nI p) l (tx p)) n) := by
  have h := lp_ex (body := f_X11_calls_45b (nI n) e') (Q := fun w => ∃ T1, w = e' (nI n) T1 ∧ QM T T1 ∧ EMs c T1 l e ∧ RwM T1 (l0 ++ rowF (fun p => cmo c r (nI p) l (tx p)) n)) n (fun i v S => v = nI i ∧ QM T S ∧ EMs c S l e ∧ RwM S (l0 ++ rowF (fun p => cmo c r (nI p) l (tx p)) i) ∧ ∀ i, gI S 138 i = gI T 138 i) (fun i k v S hi hI => ?_) (fun k v S hI => ?_) FU 0 (0 : Int32) T (by omega) (by unfold FU; omega) ⟨rfl, Sm.rf T, hE, by rw [rowF, List.append_nil]; exact hw, fun _ => rfl⟩
  · exact h
  · obtain ⟨rfl, w1, w2, w3, w4⟩ := hI
    have hCS := hM.q w1
    obtain ⟨T2, s1, s2⟩ := cmo_m ok hCS.1 (by omega) (by omega) (by omega) hCS.2 w2 hl (tx i) (nI i)
    obtain ⟨T3, t1, t2, t3, t4⟩ := ent_e (cmo c r (nI i) l (tx i)).toInt64 (w3.o s2.j) (by rw [List.length_append, rowF_l]; omega)
    refine ⟨_, T3, ?_, rfl, (w1.tr s2.j.q).tr t2, (w2.o s2.j).p t4, ?_, fun j => ?_⟩
    · unfold f_X11_calls_45b
      rw [if_neg (by rw [nLe (by omega) (by omega)]; omega), if_pos (show inb (nI i) 6 by rw [inb_nI (by omega)]; omega), nI_t (by omega), w4, ht i hi, s1, bd_e, t1, bd_e, a1]
    · rw [rowF, ← List.append_assoc]; exact t3
    · rw [t4 138 j (by omega), s2.1 138 j rfl, w4]
  · obtain ⟨rfl, w1, w2, w3, w4⟩ := hI
    refine ⟨S, ?_, w1, w2, w3⟩
    unfold f_X11_calls_45b
    rw [if_pos (by rw [nLe (by omega) (by omega)]; omega)]
