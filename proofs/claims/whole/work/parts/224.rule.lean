/-! what a rule makes of things -/
def wkd (act : Nat) (a b : Int32) : Int32 := if act = 0 then (if b ≤ a then nI 0 else nI 1) else if act = 1 then (if a ≤ b then nI 0 else nI 1) else if act = 2 then (if a = b then nI 1 else nI 0) else if act = 3 then a + b else if act = 4 then a - b else if act = 5 then a * b else if b = nI 0 then nI 0 else a / b
def upN (f : Nat → Int32) (k : Nat) (v : Int32) : Nat → Int32 := fun j => if j = k then v else f j
def stp (th : Nat → Int32) (c : Nat) (s : Nat × (Nat → Int32)) : Nat × (Nat → Int32) := if c < 1000 then (s.1 + 1, upN s.2 s.1 (nI c)) else if c < 2000 then (s.1 + 1, upN s.2 s.1 (th (c - 1000))) else if c = 3000 then (s.1, upN s.2 (s.1 - 1) (-(s.2 (s.1 - 1)))) else (s.1 - 1, upN s.2 (s.1 - 1 - 1) (wkd (c - 2000) (s.2 (s.1 - 1 - 1)) (s.2 (s.1 - 1))))
theorem stp1 {th : Nat → Int32} {c : Nat} {s : Nat × (Nat → Int32)} (h : c < 1000) : stp th c s = (s.1 + 1, upN s.2 s.1 (nI c)) := by unfold stp; rw [if_pos h]
theorem stp2 {th : Nat → Int32} {c : Nat} {s : Nat × (Nat → Int32)} (h : 1000 ≤ c) (h2 : c < 2000) : stp th c s = (s.1 + 1, upN s.2 s.1 (th (c - 1000))) := by unfold stp; rw [if_neg (by omega), if_pos h2]
theorem stp3 {th : Nat → Int32} {c : Nat} {s : Nat × (Nat → Int32)} (h : c = 3000) : stp th c s = (s.1, upN s.2 (s.1 - 1) (-(s.2 (s.1 - 1)))) := by unfold stp; rw [if_neg (by omega), if_neg (by omega), if_pos h]
theorem stp4 {th : Nat → Int32} {d : Nat} {s : Nat × (Nat → Int32)} (h : d ≤ 6) : stp th (2000 + d) s = (s.1 - 1, upN s.2 (s.1 - 1 - 1) (wkd d (s.2 (s.1 - 1 - 1)) (s.2 (s.1 - 1)))) := by unfold stp; rw [if_neg (by omega), if_neg (by omega), if_neg (by omega), show 2000 + d - 2000 = d by omega]
def stk (th : Nat → Int32) (c : Nat → Nat) (a : Nat → Int32) : Nat → Nat × (Nat → Int32)
  | 0 => (0, a)
  | i + 1 => stp th (c i) (stk th c a i)
theorem hgt_s {c : Nat → Nat} {i h : Nat} (e : hgt c (i + 1) = some h) : ∃ g, hgt c i = some g ∧ ((c i < 1000 ∧ h = g + 1) ∨ (1000 ≤ c i ∧ c i < 1007 ∧ h = g + 1) ∨ (c i = 3000 ∧ 1 ≤ g ∧ h = g) ∨ (2000 ≤ c i ∧ c i ≤ 2006 ∧ 2 ≤ g ∧ h = g - 1)) := by
  rw [hgt] at e
  cases hg : hgt c i with
  | none => rw [hg] at e; cases e
  | some g =>
    refine ⟨g, rfl, ?_⟩
    rw [hg] at e
    simp only at e
    by_cases c1 : c i < 1007
    · rw [if_pos c1, if_pos (by omega)] at e
      have := Option.some.inj e
      omega
    · rw [if_neg c1] at e
      by_cases c2 : c i = 3000
      · rw [if_pos c2] at e
        by_cases c3 : 1 ≤ g
        · rw [if_pos c3] at e
          have := Option.some.inj e
          omega
        · rw [if_neg c3] at e; cases e
      · rw [if_neg c2] at e
        by_cases c3 : 2000 ≤ c i ∧ c i ≤ 2006
        · rw [if_pos c3] at e
          by_cases c4 : 2 ≤ g
          · rw [if_pos c4] at e
            have := Option.some.inj e
            omega
          · rw [if_neg c4] at e; cases e
        · rw [if_neg c3] at e; cases e
theorem hgt_d {c : Nat → Nat} {z h : Nat} (e : hgt c z = some h) : ∀ d i, i + d = z → ∃ g, hgt c i = some g := by
  intro d
  induction d with
  | zero => intro i hi; rw [Nat.add_zero] at hi; subst hi; exact ⟨h, e⟩
  | succ d ih =>
    intro i hi
    obtain ⟨g, hg⟩ := ih (i + 1) (by omega)
    obtain ⟨g', h', _⟩ := hgt_s hg
    exact ⟨g', h'⟩
theorem hgt_l {c : Nat → Nat} : ∀ i h, hgt c i = some h → h ≤ i := by
  intro i
  induction i with
  | zero => intro h e; rw [hgt] at e; have := Option.some.inj e; omega
  | succ i ih =>
    intro h e
    obtain ⟨g, hg, hc⟩ := hgt_s e
    have := ih g hg
    omega
theorem stk_t {th : Nat → Int32} {c : Nat → Nat} {a : Nat → Int32} : ∀ i h, hgt c i = some h → (stk th c a i).1 = h := by
  intro i
  induction i with
  | zero => intro h e; rw [hgt] at e; exact Option.some.inj e
  | succ i ih =>
    intro h e
    obtain ⟨g, hg, hc⟩ := hgt_s e
    have q := ih g hg
    rw [stk, stp]
    rcases hc with ⟨c1, c2⟩ | ⟨c1, c2, c3⟩ | ⟨c1, c2, c3⟩ | ⟨c1, c2, c3, c4⟩
    · rw [if_pos c1, q]; exact c2.symm
    · rw [if_neg (by omega), if_pos (by omega), q]; exact c3.symm
    · rw [if_neg (by omega), if_neg (by omega), if_pos c1, q]; exact c3.symm
    · rw [if_neg (by omega), if_neg (by omega), if_neg (by omega), q]; exact c4.symm
theorem stk_a {th th' : Nat → Int32} {c : Nat → Nat} (a b : Nat → Int32) (ht : ∀ j, j < 7 → th j = th' j) : ∀ i h, hgt c i = some h → ∀ k, k < h → (stk th c a i).2 k = (stk th' c b i).2 k := by
  intro i
  induction i with
  | zero => intro h e; rw [hgt] at e; have := Option.some.inj e; intro k hk; omega
  | succ i ih =>
    intro h e k hk
    obtain ⟨g, hg, hc⟩ := hgt_s e
    have q1 : (stk th c a i).1 = g := stk_t i g hg
    have q2 : (stk th' c b i).1 = g := stk_t i g hg
    have q := ih g hg
    rw [stk, stk, stp, stp]
    rcases hc with ⟨c1, c2⟩ | ⟨c1, c2, c3⟩ | ⟨c1, c2, c3⟩ | ⟨c1, c2, c3, c4⟩
    · rw [if_pos c1, if_pos c1, q1, q2]
      show (if k = g then nI (c i) else _) = (if k = g then nI (c i) else _)
      by_cases e : k = g
      · rw [if_pos e, if_pos e]
      · rw [if_neg e, if_neg e, q k (by omega)]
    · rw [if_neg (by omega), if_pos (by omega), if_neg (by omega), if_pos (by omega), q1, q2]
      show (if k = g then th (c i - 1000) else _) = (if k = g then th' (c i - 1000) else _)
      by_cases e : k = g
      · rw [if_pos e, if_pos e, ht _ (by omega)]
      · rw [if_neg e, if_neg e, q k (by omega)]
    · rw [if_neg (by omega), if_neg (by omega), if_pos c1, if_neg (by omega), if_neg (by omega), if_pos c1, q1, q2]
      show (if k = g - 1 then _ else _) = (if k = g - 1 then _ else _)
      by_cases e : k = g - 1
      · rw [if_pos e, if_pos e, q _ (by omega)]
      · rw [if_neg e, if_neg e, q k (by omega)]
    · rw [if_neg (by omega), if_neg (by omega), if_neg (by omega), if_neg (by omega), if_neg (by omega), if_neg (by omega), q1, q2]
      show (if k = g - 1 - 1 then _ else _) = (if k = g - 1 - 1 then _ else _)
      by_cases e : k = g - 1 - 1
      · rw [if_pos e, if_pos e, q (g - 1 - 1) (by omega), q (g - 1) (by omega)]
      · rw [if_neg e, if_neg e, q k (by omega)]
theorem cod_lt {c : Nat → Nat} {i h : Nat} (e : hgt c (i + 1) = some h) : c i ≤ 3000 := by
  obtain ⟨g, hg, hc⟩ := hgt_s e
  omega
def RuC (T : St) (o z : Nat) (k : Nat → Nat) : Prop := (o = 110 ∨ o = 115) ∧ z ≤ 40 ∧ gI T o 1 = nI z ∧ (∀ i, i < z → gI T (o + 1) i = nI (enc (k i))) ∧ (0 < z → hgt k z = some 1)
def RuM (T : St) (z : Nat) (k : Nat → Nat) : Prop := z ≤ 40 ∧ gI T 122 18 = nI z ∧ (∀ i, i < z → gI T 130 i = nI (k i)) ∧ (0 < z → hgt k z = some 1)
abbrev oR : St → St → Prop := Sm (fun a _ => decide (a ≠ 113) && decide (a ≠ 114) && decide (a ≠ 118) && decide (a ≠ 119)) (fun _ => true)
abbrev oK : St → St → Prop := Sm (fun a _ => decide (a ≠ 132) && decide (a ≠ 133)) (fun _ => true)
abbrev oJ : St → St → Prop := Sm (fun a _ => decide (a ≠ 113) && decide (a ≠ 114) && decide (a ≠ 118) && decide (a ≠ 119) && decide (a ≠ 120)) (fun _ => true)
abbrev oN : St → St → Prop := Sm (fun a _ => decide (a ≠ 132) && decide (a ≠ 133) && decide (a ≠ 144)) (fun _ => true)
theorem oR.j {T T' : St} (h : oR T T') : oJ T T' := ⟨fun a b hab => h.1 a b (by simp at hab ⊢; omega), h.2⟩
theorem oK.j {T T' : St} (h : oK T T') : oN T T' := ⟨fun a b hab => h.1 a b (by simp at hab ⊢; omega), h.2⟩
theorem jnd (d : Nat) (h : d ≤ 6) (a b : Int32) (S : St) : f_X6_joined (nI (enc (2000 + d)) - nI 2000) a b S = some (wkd d a b, S) := by
  unfold f_X6_joined wkd
  rcases (show d = 0 ∨ d = 1 ∨ d = 2 ∨ d = 3 ∨ d = 4 ∨ d = 5 ∨ d = 6 by omega) with rfl | rfl | rfl | rfl | rfl | rfl | rfl
  · rw [show nI (enc (2000 + 0)) - nI 2000 = 60 by decide]
    simp (decide := true) only [if_true, if_false]
    by_cases g : b ≤ a <;> simp only [g, if_true, if_false] <;> rfl
  · rw [show nI (enc (2000 + 1)) - nI 2000 = 62 by decide]
    simp (decide := true) only [if_true, if_false]
    by_cases g : a ≤ b <;> simp only [g, if_true, if_false] <;> rfl
  · rw [show nI (enc (2000 + 2)) - nI 2000 = 61 by decide]
    simp (decide := true) only [if_true, if_false]
    by_cases g : a = b <;> simp only [g, if_true, if_false] <;> rfl
  · rw [show nI (enc (2000 + 3)) - nI 2000 = 43 by decide]
    simp (decide := true) only [if_true, if_false]
  · rw [show nI (enc (2000 + 4)) - nI 2000 = 45 by decide]
    simp (decide := true) only [if_true, if_false]
  · rw [show nI (enc (2000 + 5)) - nI 2000 = 42 by decide]
    simp (decide := true) only [if_true, if_false]
  · rw [show nI (enc (2000 + 6)) - nI 2000 = 47 by decide]
    simp (decide := true) only [if_true, if_false]
    by_cases g : b = 0
    · simp only [g, if_true]; rfl
    · have g' : ¬ b = nI 0 := g
      simp only [g, g', if_false, not_false_iff, if_true]
theorem wkdm (d : Nat) (h : d ≤ 6) (a b : Int32) (S : St) : f_X11_worked (nI d) a b S = some (wkd d a b, S) := by
  unfold f_X11_worked wkd f_X11_worked_50 f_X11_worked_64 f_X11_worked_78
  rcases (show d = 0 ∨ d = 1 ∨ d = 2 ∨ d = 3 ∨ d = 4 ∨ d = 5 ∨ d = 6 by omega) with rfl | rfl | rfl | rfl | rfl | rfl | rfl
  · simp (decide := true) only [if_true, if_false]
    by_cases g : b ≤ a <;> simp only [g, if_true, if_false] <;> rfl
  · simp (decide := true) only [if_true, if_false]
    by_cases g : a ≤ b <;> simp only [g, if_true, if_false] <;> rfl
  · simp (decide := true) only [if_true, if_false]
    by_cases g : a = b <;> simp only [g, if_true, if_false] <;> rfl
  · simp (decide := true) only [if_true, if_false]
  · simp (decide := true) only [if_true, if_false]
  · simp (decide := true) only [if_true, if_false]
  · simp (decide := true) only [if_true, if_false]
    by_cases g : b = 0
    · simp only [g, if_true]; rfl
    · have g' : ¬ b = nI 0 := g
      simp only [g, g', if_false, not_false_iff, if_true]
theorem enc_s {c : Nat} (h : c < 2000) : enc c = c := by
  unfold enc
  rw [if_neg (by omega), if_neg (by omega), if_neg (by omega), if_neg (by omega), if_neg (by omega), if_neg (by omega), if_neg (by omega), if_neg (by omega)]
theorem enc_a {d : Nat} (h : d ≤ 6) : 2042 ≤ enc (2000 + d) ∧ enc (2000 + d) ≤ 2062 := by
  have q : ∀ d, d ≤ 6 → 2042 ≤ enc (2000 + d) ∧ enc (2000 + d) ≤ 2062 := by decide
  exact q d h
theorem m1 {g : Nat} (h : 1 ≤ g) : nI g - (1 : Int32) = nI (g - 1) := by rw [lit, nSub h]
theorem p1 {g : Nat} (h : 1 ≤ g) : nI g + (-1 : Int32) = nI (g - 1) := by
  rw [← m1 h, Int32.sub_eq_add_neg]
theorem a1 (g : Nat) : nI g + (1 : Int32) = nI (g + 1) := by rw [lit, nAdd]
/-- the class's stack -/
theorem val_c {T : St} {o z : Nat} {k : Nat → Nat} (h : RuC T o z k) (hz : 0 < z) (th : Nat → Int32) (ht : ∀ j, j < 7 → gI T (o + 3) j = th j) : ∃ f, f_X6_valueOfThings o T = some ((stk th k (fun _ => 0) z).2 0, sR T (o + 4) f) := by
  obtain ⟨ho, h1, h2, h3, h4⟩ := h
  have h4 := h4 hz
  have l1 : ∀ (f : Nat → Int32) a b, a ≠ o + 4 → gI (sR T (o + 4) f) a b = gI T a b := fun f a b hne => by rw [gI_r, if_neg hne]
  have l2 : ∀ (f : Nat → Int32) b, gI (sR T (o + 4) f) (o + 4) b = f b := fun f b => by rw [gI_r, if_pos rfl]
  refine ⟨(stk th k (gI T (o + 4)) z).2, ?_⟩
  have := lp_for (body := f_X6_valueOfThings_4b o (fun v18 S19 => some ((gI S19 (o + 4) 0), S19))) z (fun i => ((nI (stk th k (gI T (o + 4)) i).1, nI i), sR T (o + 4) (stk th k (gI T (o + 4)) i).2)) (out := some ((stk th k (fun _ => 0) z).2 0, sR T (o + 4) (stk th k (gI T (o + 4)) z).2)) (fun i kk hi => ?_) (fun kk => ?_) FU 0 (by omega) (by unfold FU; omega)
  · have e0 : sR T (o + 4) (stk th k (gI T (o + 4)) 0).2 = T := sR_0 (fun _ => rfl)
    simp only [e0] at this
    exact this
  · obtain ⟨h', hh⟩ := hgt_d h4 (z - (i + 1)) (i + 1) (by omega)
    obtain ⟨g, hg, hc⟩ := hgt_s hh
    have hgl := hgt_l i g hg
    have et : (stk th k (gI T (o + 4)) i).1 = g := stk_t i g hg
    have es : stk th k (gI T (o + 4)) (i + 1) = stp th (k i) (stk th k (gI T (o + 4)) i) := rfl
    generalize stk th k (gI T (o + 4)) i = s at et es
    obtain ⟨s1, s2⟩ := s
    simp only at et
    subst et
    rw [es]
    unfold f_X6_valueOfThings_4b f_X6_valueOfThings_137
    simp only
    have y1 : gI (sR T (o + 4) s2) o 1 = nI z := (l1 _ _ _ (by omega)).trans h2
    have y2 : gI (sR T (o + 4) s2) (o + 1) i = nI (enc (k i)) := (l1 _ _ _ (by omega)).trans (h3 i hi)
    rw [y1, if_neg (by rw [nLe (by omega) (by omega)]; omega), if_pos (by rw [inb_nI (by omega)]; omega), lt_e, nI_t (show i < 2147483648 by omega), y2]
    rcases hc with ⟨c1, c2⟩ | ⟨c1, c2, c3⟩ | ⟨c1, c2, c3⟩ | ⟨c1, c2, c3, c4⟩
    · rw [stp1 c1, enc_s (by omega), if_neg (by rw [lit, nLe (by omega) (by omega)]; omega), if_pos (by rw [inb_nI (by omega)]; omega), lt_e, nI_t (by omega), sR_I, a1, a1]
      rfl
    · rw [stp2 c1 (by omega), enc_s (by omega), if_pos (by rw [lit, nLe (by omega) (by omega)]; omega), if_neg (by rw [lit, nLe (by omega) (by omega)]; omega), lit, nSub (by omega), if_pos (by rw [inb_nI (by omega)]; omega), if_pos (by rw [inb_nI (by omega)]; omega), lt_e, nI_t (by omega), nI_t (by omega), l1 _ _ _ (by omega), ht _ (by omega), sR_I, a1, a1]
      rfl
    · rw [stp3 c1, c1, show nI (enc 3000) = 2126 by decide, if_pos (by decide), if_pos (by decide), if_pos rfl, if_neg (by rw [lit, nLe (by omega) (by omega)]; omega), m1 c2, if_pos (by rw [inb_nI (by omega)]; omega), if_pos (by rw [inb_nI (by omega)]; omega), lt_e, nI_t (by omega), l2, sR_I, a1]
      rfl
    · obtain ⟨d, hd⟩ : ∃ d, k i = 2000 + d := ⟨k i - 2000, by omega⟩
      have e1 := enc_a (d := d) (by omega)
      rw [hd, stp4 (by omega)]
      rw [if_pos (by rw [lit, nLe (by omega) (by omega)]; omega), if_pos (by rw [lit, nLe (by omega) (by omega)]; omega), if_neg (by rw [lit, nEq (by omega) (by omega)]; omega)]
      unfold f_X6_valueOfThings_99 f_X6_valueOfThings_137
      rw [if_neg (by rw [lit, nLe (by omega) (by omega)]; omega), p1 (by omega), m1 (by omega), if_pos (by rw [inb_nI (by omega)]; omega), if_pos (by rw [inb_nI (by omega)]; omega)]
      have w : inb (nI (s1 - 1 - 1)) 40 := by rw [inb_nI (by omega)]; omega
      simp only [if_pos w, nI_t (show s1 - 1 - 1 < 2147483648 by omega), nI_t (show s1 - 1 < 2147483648 by omega), l2]
      rw [show (2000 : Int32) = nI 2000 from rfl, jnd d (by omega), bd_e, lt_e, sR_I, a1]
      rfl
  · unfold f_X6_valueOfThings_4b
    simp only
    rw [l1 _ _ _ (by omega), h2, if_pos (by rw [nLe (by omega) (by omega)]; omega), l2, stk_a (gI T (o + 4)) (fun _ => 0) (fun _ _ => rfl) z 1 h4 0 (by omega)]
/-- the reference's -/
theorem val_m {T : St} {z : Nat} {k : Nat → Nat} (h : RuM T z k) (hz : 0 < z) (th : Nat → Int32) (ht : ∀ j, j < 7 → gI T 133 j = th j) : ∃ f, f_X11_ruled T = some ((stk th k (fun _ => 0) z).2 0, sR T 132 f) := by
  obtain ⟨h1, h2, h3, h4⟩ := h
  have h4 := h4 hz
  have l1 : ∀ (f : Nat → Int32) a b, a ≠ 132 → gI (sR T 132 f) a b = gI T a b := fun f a b hne => by rw [gI_r, if_neg hne]
  have l2 : ∀ (f : Nat → Int32) b, gI (sR T 132 f) 132 b = f b := fun f b => by rw [gI_r, if_pos rfl]
  refine ⟨(stk th k (gI T 132) z).2, ?_⟩
  have := lp_for (body := f_X11_ruled_4b (fun v16 S17 => (if (gI S17 122 18) = 0 then some ((((gI S17 133 0) + (gI S17 133 1)) - ((gI S17 133 2) / (3 : Int32))), S17) else some ((gI S17 132 0), S17)))) z (fun i => ((nI (stk th k (gI T 132) i).1, nI i), sR T 132 (stk th k (gI T 132) i).2)) (out := some ((stk th k (fun _ => 0) z).2 0, sR T 132 (stk th k (gI T 132) z).2)) (fun i kk hi => ?_) (fun kk => ?_) FU 0 (by omega) (by unfold FU; omega)
  · have e0 : sR T 132 (stk th k (gI T 132) 0).2 = T := sR_0 (fun _ => rfl)
    simp only [e0] at this
    exact this
  · obtain ⟨h', hh⟩ := hgt_d h4 (z - (i + 1)) (i + 1) (by omega)
    obtain ⟨g, hg, hc⟩ := hgt_s hh
    have hgl := hgt_l i g hg
    have et : (stk th k (gI T 132) i).1 = g := stk_t i g hg
    have es : stk th k (gI T 132) (i + 1) = stp th (k i) (stk th k (gI T 132) i) := rfl
    generalize stk th k (gI T 132) i = s at et es
    obtain ⟨s1, s2⟩ := s
    simp only at et
    subst et
    rw [es]
    unfold f_X11_ruled_4b f_X11_ruled_119 f_X11_ruled_115 f_X11_ruled_119
    simp only
    have y1 : gI (sR T 132 s2) 122 18 = nI z := (l1 _ _ _ (by omega)).trans h2
    have y2 : gI (sR T 132 s2) 130 i = nI (k i) := (l1 _ _ _ (by omega)).trans (h3 i hi)
    rw [y1, if_neg (by rw [nLe (by omega) (by omega)]; omega), if_pos (by rw [inb_nI (by omega)]; omega), lt_e, nI_t (show i < 2147483648 by omega), y2]
    rcases hc with ⟨c1, c2⟩ | ⟨c1, c2, c3⟩ | ⟨c1, c2, c3⟩ | ⟨c1, c2, c3, c4⟩
    · rw [stp1 c1, if_neg (by rw [lit, nEq (by omega) (by omega)]; omega), if_pos (by rw [lit, nLt (by omega) (by omega)]; omega), if_pos (by rw [lit, nLt (by omega) (by omega)]; omega), if_pos (by rw [inb_nI (by omega)]; omega), lt_e, nI_t (by omega), sR_I, a1, a1]
      rfl
    · rw [stp2 c1 (by omega), if_neg (by rw [lit, nEq (by omega) (by omega)]; omega), if_pos (by rw [lit, nLt (by omega) (by omega)]; omega), if_neg (by rw [lit, nLt (by omega) (by omega)]; omega), lit, nSub (by omega), if_pos (by rw [inb_nI (by omega)]; omega), if_pos (by rw [inb_nI (by omega)]; omega), lt_e, nI_t (by omega), nI_t (by omega), l1 _ _ _ (by omega), ht _ (by omega), sR_I, a1, a1]
      rfl
    · rw [stp3 c1, c1, if_pos (show nI 3000 = 3000 from rfl), m1 c2, if_pos (by rw [inb_nI (by omega)]; omega), if_pos (by rw [inb_nI (by omega)]; omega), lt_e, nI_t (by omega), l2, sR_I, a1]
      rfl
    · obtain ⟨d, hd⟩ : ∃ d, k i = 2000 + d := ⟨k i - 2000, by omega⟩
      rw [hd, stp4 (by omega)]
      rw [if_neg (by rw [lit, nEq (by omega) (by omega)]; omega), if_neg (by rw [lit, nLt (by omega) (by omega)]; omega), p1 (by omega), m1 (by omega), if_pos (by rw [inb_nI (by omega)]; omega), if_pos (by rw [inb_nI (by omega)]; omega)]
      have w : inb (nI (s1 - 1 - 1)) 80 := by rw [inb_nI (by omega)]; omega
      simp only [if_pos w, nI_t (show s1 - 1 - 1 < 2147483648 by omega), nI_t (show s1 - 1 < 2147483648 by omega), l2]
      rw [show (2000 : Int32) = nI 2000 from rfl, nSub (by omega), show 2000 + d - 2000 = d by omega, wkdm d (by omega), bd_e, lt_e, sR_I, a1]
      rfl
  · unfold f_X11_ruled_4b
    simp only
    rw [l1 _ _ _ (by omega), h2, if_pos (by rw [nLe (by omega) (by omega)]; omega), if_neg (by rw [lit, nEq (by omega) (by omega)]; omega), l2, stk_a (gI T 132) (fun _ => 0) (fun _ _ => rfl) z 1 h4 0 (by omega)]
/-! modulo eight -/
theorem td8 (i : Int) : (0 ≤ i ∧ i.tdiv 8 = i / 8 ∧ i.tmod 8 = i % 8) ∨ (i < 0 ∧ i.tdiv 8 = -((-i) / 8) ∧ i.tmod 8 = -((-i) % 8)) := by
  by_cases h : 0 ≤ i
  · exact Or.inl ⟨h, Int.tdiv_eq_ediv_of_nonneg h, Int.tmod_eq_emod_of_nonneg h⟩
  · refine Or.inr ⟨by omega, ?_, ?_⟩
    · rw [← Int.tdiv_eq_ediv_of_nonneg (by omega), Int.neg_tdiv, Int.neg_neg]
    · rw [← Int.tmod_eq_emod_of_nonneg (by omega), Int.neg_tmod, Int.neg_neg]
theorem rem8 (x : Int32) : (x - x / 8 * 8).toInt = x.toInt.tmod 8 := by
  have h1 := x.toInt_lt
  have h2 := x.le_toInt
  have t := td8 x.toInt
  have q : (x / 8).toInt = x.toInt.tdiv 8 := by
    rw [Int32.toInt_div]
    rw [show (8 : Int32).toInt = 8 from rfl]
    apply Int.bmod_eq_of_le <;> omega
  have q2 : (x / 8 * 8).toInt = x.toInt.tdiv 8 * 8 := by
    rw [Int32.toInt_mul, q, show (8 : Int32).toInt = 8 from rfl]
    apply Int.bmod_eq_of_le <;> omega
  rw [Int32.toInt_sub, q2]
  rw [show x.toInt - x.toInt.tdiv 8 * 8 = x.toInt.tmod 8 by omega]
  apply Int.bmod_eq_of_le <;> omega
theorem and7i (x : Int32) : (x &&& 7).toInt = x.toInt % 8 := by
  have e : (x &&& 7).toBitVec.toNat = x.toBitVec.toNat % 8 := by
    rw [Int32.toBitVec_and, BitVec.toNat_and]
    exact Nat.and_two_pow_sub_one_eq_mod _ 3
  have h : ∀ y : Int32, y.toInt = y.toBitVec.toInt := fun _ => rfl
  rw [h, h, BitVec.toInt_eq_toNat_cond, BitVec.toInt_eq_toNat_cond, e]
  split <;> split <;> omega
theorem xor8 (x : Int32) : (0 ≤ x ^^^ 8) = (0 ≤ x) := by
  have h : ∀ y : Int32, (0 ≤ y) = (y.toBitVec.msb = false) := by
    intro y
    rw [i_le]
    show ((0:Int) ≤ y.toBitVec.toInt) = _
    rw [BitVec.msb_eq_toInt]
    simp
  rw [h, h, Int32.toBitVec_xor, BitVec.msb_xor]
  rw [show (8 : Int32).toBitVec.msb = false by decide]
  simp
theorem fmd8k (x : Int32) : (if 0 ≤ (x ^^^ 8) then x - x / 8 * 8 else if x - x / 8 * 8 = 0 then x - x / 8 * 8 else x - x / 8 * 8 + 8) = x &&& 7 := by
  simp only [xor8]
  have m := Int.mul_tdiv_add_tmod x.toInt 8
  rw [i_eq, and7i]
  have r := rem8 x
  by_cases g : 0 ≤ x
  · rw [if_pos g, r]
    rw [i_le] at g
    change 0 ≤ x.toInt at g
    rw [Int.tmod_eq_emod_of_nonneg g]
  · rw [if_neg g]
    rw [i_le] at g
    change ¬ 0 ≤ x.toInt at g
    have e1 : x.toInt.tmod 8 = - ((-x.toInt) % 8) := by
      rw [← Int.tmod_eq_emod_of_nonneg (by omega), Int.neg_tmod, Int.neg_neg]
    by_cases g2 : x - x / 8 * 8 = 0
    · rw [if_pos g2, r]
      rw [i_eq, r] at g2
      change _ = (0 : Int) at g2
      omega
    · rw [if_neg g2, Int32.toInt_add, r]
      rw [i_eq, r] at g2
      change ¬ _ = (0 : Int) at g2
      rw [show (8 : Int32).toInt = 8 from rfl, e1]
      rw [Int.bmod_eq_of_le] <;> omega
theorem fmd8 (x : Int32) (S : St) : f_J9_floorMod_7cf53 x 8 S = some (x &&& 7, S) := by
  unfold f_J9_floorMod_7cf53
  rw [if_pos (by decide), lt_e]
  rw [← fmd8k x]
  split
  · rfl
  · split <;> rfl
/-! what a letter becomes -/
def thg (c : Cv) (q : Nat) (b : Bool) (pl v : Int32) : Nat → Int32 := fun j => if j = 0 then v else if j = 1 then nI (cn c q) else if j = 2 then nI (cw c q) else if j = 3 then nI (cd c q) else if j = 4 then pl else if j = 5 then ch c - ch c / 7 * 7 else flI b
abbrev Rl : Type := Nat × (Nat → Nat)
def chv (c : Cv) (r : Rl) (q : Nat) (b : Bool) (pl v : Int32) : Int32 := (if r.1 = 0 then v + nI (cn c q) - nI (cw c q) / 3 else (stk (thg c q b pl v) r.2 (fun _ => 0) r.1).2 0) &&& 7
theorem lit7 (j : Nat) (h : j < 7) : j = 0 ∨ j = 1 ∨ j = 2 ∨ j = 3 ∨ j = 4 ∨ j = 5 ∨ j = 6 := by omega
theorem chg_c {T : St} {c : Cv} {o : Nat} {r : Rl} (ok : Cok c) (h : CC T c) (hr : RuC T o r.1 r.2) {q : Nat} (hq : q < cm c) (b : Bool) (pl v : Int32) : ∃ T', f_X6_changed o (nI q) (flI b) pl v T = some (chv c r q b pl v, T') ∧ oR T T' := by
  have h12 := ok12 ok
  obtain ⟨e1, e2, e3, e4, e5⟩ := h.2.1 q hq
  obtain ⟨ho, h1, h2, h3, h4⟩ := id hr
  unfold f_X6_changed chv
  by_cases hz : r.1 = 0
  · refine ⟨T, ?_, Sm.rf T⟩
    have w : inb (nI q) 12 := by rw [inb_nI (by omega)]; omega
    simp only [h2, hz, show nI 0 = 0 from rfl, if_true, if_pos w, lt_e, nI_t (show q < 2147483648 by omega), e4, e5]
  · rw [h2, if_neg (by rw [lit, nEq (by omega) (by omega)]; exact hz), if_neg hz]
    have w : inb (nI q) 12 := by rw [inb_nI (by omega)]; omega
    simp only [lt_e, if_pos w, nI_t (show q < 2147483648 by omega)]
    have f3 : ∀ a, a ≤ 9 → ¬ a = o + 3 := fun a ha => by omega
    simp only [gI_s, f3 8 (by omega), f3 9 (by omega), f3 7 (by omega), f3 6 (by omega), if_false, e3, e4, e5, h.2.2.2]
    have z1 : gI (sI (sI (sI (sI (sI (sI (sI T (o + 3) 0 v) (o + 3) 1 (nI (cn c q))) (o + 3) 2 (nI (cw c q))) (o + 3) 3 (nI (cd c q))) (o + 3) 4 pl) (o + 3) 5 (ch c - ch c / 7 * 7)) (o + 3) 6 (flI b)) o 1 = nI r.1 := by simp only [gI_s, show ¬ o = o + 3 by omega, if_false]; exact h2
    have z2 : ∀ i, i < r.1 → gI (sI (sI (sI (sI (sI (sI (sI T (o + 3) 0 v) (o + 3) 1 (nI (cn c q))) (o + 3) 2 (nI (cw c q))) (o + 3) 3 (nI (cd c q))) (o + 3) 4 pl) (o + 3) 5 (ch c - ch c / 7 * 7)) (o + 3) 6 (flI b)) (o + 1) i = nI (enc (r.2 i)) := fun i hi => by simp only [gI_s, show ¬ o + 1 = o + 3 by omega, if_false]; exact h3 i hi
    have z3 : ∀ j, j < 7 → gI (sI (sI (sI (sI (sI (sI (sI T (o + 3) 0 v) (o + 3) 1 (nI (cn c q))) (o + 3) 2 (nI (cw c q))) (o + 3) 3 (nI (cd c q))) (o + 3) 4 pl) (o + 3) 5 (ch c - ch c / 7 * 7)) (o + 3) 6 (flI b)) (o + 3) j = thg c q b pl v j := fun j hj => by
      simp only [gI_s, if_true]
      rcases lit7 j hj with rfl | rfl | rfl | rfl | rfl | rfl | rfl <;> rfl
    obtain ⟨f, hf⟩ := val_c ⟨ho, h1, z1, z2, h4⟩ (by omega) (thg c q b pl v) z3
    rw [hf, bd_e]
    refine ⟨_, rfl, ?_⟩
    rcases ho with rfl | rfl
    · exact Sm.sR (((((((Sm.rf T).sI rfl).sI rfl).sI rfl).sI rfl).sI rfl).sI rfl |>.sI rfl) (fun _ => rfl)
    · exact Sm.sR (((((((Sm.rf T).sI rfl).sI rfl).sI rfl).sI rfl).sI rfl).sI rfl |>.sI rfl) (fun _ => rfl)
theorem flg_flI (b : Bool) (S : St) : f_X11_flag (flI b) S = some (flI b, S) := by cases b <;> rfl
theorem chg_m {T : St} {c : Cv} {ar : Nat} {r : Rl} (ok : Cok c) (h : CM T ar c) (ha : ar ≠ 133) (hr : RuM T r.1 r.2) {q : Nat} (hq : q < cm c) (b : Bool) (pl v : Int32) : ∃ T', f_X11_becomesBy ar (nI q) (flI b) v pl T = some (chv c r q b pl v, T') ∧ oK T T' := by
  have h12 := ok12 ok
  obtain ⟨e1, e2, e3, e4, e5⟩ := h.2.1 q hq
  obtain ⟨h1, h2, h3, h4⟩ := id hr
  unfold f_X11_becomesBy chv
  have w0 : inb (nI q) 39 := by rw [inb_nI (by omega)]; omega
  have w1 : inb (nI (12 + q)) 39 := by rw [inb_nI (by omega)]; omega
  have w2 : inb (nI (24 + q)) 39 := by rw [inb_nI (by omega)]; omega
  have k1 : (12 : Int32) + nI q = nI (12 + q) := nAdd 12 q
  have k2 : (24 : Int32) + nI q = nI (24 + q) := nAdd 24 q
  simp only [k1, k2, lt_e, if_pos w0, if_pos w1, if_pos w2, nI_t (show q < 2147483648 by omega), nI_t (show 12 + q < 2147483648 by omega), nI_t (show 24 + q < 2147483648 by omega)]
  simp only [gI_s, ha, if_false, e3, e4, e5, h.2.2.2, flg_flI, bd_e]
  have hT : oK T (sI (sI (sI (sI (sI (sI (sI T 133 0 v) 133 1 (nI (cn c q))) 133 2 (nI (cw c q))) 133 3 (nI (cd c q))) 133 4 pl) 133 5 (ch c - ch c / 7 * 7)) 133 6 (flI b)) := ((((((Sm.rf T).sI rfl).sI rfl).sI rfl).sI rfl).sI rfl).sI rfl |>.sI rfl
  generalize hX : (sI (sI (sI (sI (sI (sI (sI T 133 0 v) 133 1 (nI (cn c q))) 133 2 (nI (cw c q))) 133 3 (nI (cd c q))) 133 4 pl) 133 5 (ch c - ch c / 7 * 7)) 133 6 (flI b)) = X at hT
  have ht : ∀ j, j < 7 → gI X 133 j = thg c q b pl v j := by
    intro j hj
    subst hX
    simp only [gI_s, if_true]
    rcases lit7 j hj with rfl | rfl | rfl | rfl | rfl | rfl | rfl <;> rfl
  have x18 : gI X 122 18 = nI r.1 := (hT.1 122 18 rfl).trans h2
  by_cases hz : r.1 = 0
  · refine ⟨X, ?_, hT⟩
    have e : f_X11_ruled X = some (v + nI (cn c q) - nI (cw c q) / 3, X) := by
      show f_X11_ruled_4b _ _ (0, 0) X = _
      unfold f_X11_ruled_4b
      simp only
      rw [x18, hz, if_pos (show nI 0 ≤ 0 by decide), if_pos (show nI 0 = 0 from rfl), ht 0 (by omega), ht 1 (by omega), ht 2 (by omega)]
      rfl
    rw [e, bd_e, fmd8, bd_e, if_pos hz]
  · obtain ⟨f, hf⟩ := val_m (T := X) (z := r.1) (k := r.2) ⟨h1, x18, fun i hi => (hT.1 130 i rfl).trans (h3 i hi), h4⟩ (by omega) _ ht
    rw [hf, bd_e, fmd8, bd_e, if_neg hz]
    exact ⟨_, rfl, Sm.sR (o := 132) (f := f) hT (fun _ => rfl)⟩
def cmo (c : Cv) (r : Rl) (pl : Int32) (l : Pth) (v : Int32) : Int32 := l.foldl (fun v p => chv c r p.1 p.2 pl v) v
def Pok (c : Cv) (l : Pth) : Prop := l.length ≤ 12 ∧ ∀ p, p ∈ l → p.1 < cm c
theorem tk_s (c : Cv) (r : Rl) (pl : Int32) (l : Pth) (v : Int32) {i : Nat} (h : i < l.length) : cmo c r pl (l.take (i + 1)) v = chv c r (l.getD i (0, false)).1 (l.getD i (0, false)).2 pl (cmo c r pl (l.take i) v) := by
  unfold cmo
  rw [List.take_add_one, List.getElem?_eq_getElem h, List.foldl_append]
  simp only [List.getD, List.getElem?_eq_getElem h, Option.toList, Option.getD, List.foldl]
theorem pok_g {c : Cv} {l : Pth} (h : Pok c l) {i : Nat} (hi : i < l.length) : (l.getD i (0, false)).1 < cm c := by
  apply h.2
  simp only [List.getD, List.getElem?_eq_getElem hi, Option.getD]
  exact List.getElem_mem hi
theorem CC.o {T T' : St} {c : Cv} (h : CC T c) (q : oJ T T') : CC T' c := by
  obtain ⟨h1, h2, h3, h4⟩ := h
  refine ⟨(q.1 _ _ rfl).trans h1, fun i hi => ?_, (q.1 _ _ rfl).trans h3, (q.1 _ _ rfl).trans h4⟩
  rw [q.1 4 i rfl, q.1 5 i rfl, q.1 7 i rfl, q.1 8 i rfl, q.1 9 i rfl]
  exact h2 i hi
theorem ECs.o {T T' : St} {c : Cv} {l : Pth} {x : Nat} (h : ECs c T l x) (q : oJ T T') : ECs c T' l x := by
  obtain ⟨h1, h2, h3, h4⟩ := h
  refine ⟨(q.1 _ _ rfl).trans h1, (q.1 _ _ rfl).trans h2, (q.1 _ _ rfl).trans h3, fun i hi => ?_⟩
  rw [q.1 93 i rfl, q.1 94 i rfl]
  exact h4 i hi
theorem RuC.o {T T' : St} {o z : Nat} {k : Nat → Nat} (h : RuC T o z k) (q : oJ T T') : RuC T' o z k := by
  obtain ⟨h1, h2, h3, h4, h5⟩ := h
  refine ⟨h1, h2, ?_, fun i hi => ?_, h5⟩
  · rw [q.1 o 1 (by rcases h1 with rfl | rfl <;> rfl)]; exact h3
  · rw [q.1 (o + 1) i (by rcases h1 with rfl | rfl <;> rfl)]; exact h4 i hi
theorem CM.o {T T' : St} {c : Cv} {ar : Nat} (h : CM T ar c) (q : oN T T') (ha : ar ≠ 132) (hb : ar ≠ 133) (hd : ar ≠ 144) : CM T' ar c := by
  obtain ⟨h1, h2, h3, h4⟩ := h
  have qa : ∀ k, gI T' ar k = gI T ar k := fun k => q.1 ar k (by simp [ha, hb, hd])
  refine ⟨(q.1 _ _ rfl).trans h1, fun i hi => ?_, (qa _).trans h3, (qa _).trans h4⟩
  rw [q.1 124 i rfl, q.1 125 i rfl, qa, qa, qa]
  exact h2 i hi
theorem EMs.o {T T' : St} {c : Cv} {l : Pth} {x : Nat} (h : EMs c T l x) (q : oN T T') : EMs c T' l x := by
  obtain ⟨h1, h2, h3, h4⟩ := h
  refine ⟨(q.1 _ _ rfl).trans h1, (q.1 _ _ rfl).trans h2, (q.1 _ _ rfl).trans h3, fun i hi => ?_⟩
  rw [q.1 134 i rfl, q.1 135 i rfl]
  exact h4 i hi
theorem RuM.o {T T' : St} {z : Nat} {k : Nat → Nat} (h : RuM T z k) (q : oN T T') : RuM T' z k := by
  obtain ⟨h2, h3, h4, h5⟩ := h
  refine ⟨h2, (q.1 _ _ rfl).trans h3, fun i hi => ?_, h5⟩
  rw [q.1 130 i rfl]; exact h4 i hi
/-- a loop with states that are only known to be some: N rounds -/
theorem lp_ex {β V : Type} {body : (V → St → Option β) → V → St → Option β} {Q : Option β → Prop} (N : Nat) (I : Nat → V → St → Prop) (hs : ∀ i k v S, i < N → I i v S → ∃ v' S', body k v S = k v' S' ∧ I (i + 1) v' S') (h0 : ∀ k v S, I N v S → Q (body k v S)) : ∀ n i v S, i ≤ N → N - i < n → I i v S → Q (lp body n v S) := by
  intro n
  induction n with
  | zero => intro i v S _ h; omega
  | succ n ih =>
    intro i v S hi hn hI
    show Q (body (lp body n) v S)
    by_cases e : i = N
    · subst e; exact h0 _ v S hI
    · obtain ⟨v', S', h1, h2⟩ := hs i (lp body n) v S (by omega) hI
      rw [h1]; exact ih (i + 1) v' S' (by omega) (by omega) h2
theorem cmo_c {T : St} {c : Cv} {o : Nat} {r : Rl} {l : Pth} {x : Nat} (ok : Cok c) (h : CC T c) (hr : RuC T o r.1 r.2) (hE : ECs c T l x) (hl : Pok c l) (v pl : Int32) : ∃ T', f_X2_comesOut o v pl T = some (cmo c r pl l v, T') ∧ oR T T' := by
  have hl1 := hl.1
  refine lp_ex (body := f_X2_comesOut_6b o pl (fun v6 S7 => some (v6.1, S7))) (Q := fun w => ∃ T', w = some (cmo c r pl l v, T') ∧ oR T T') l.length (fun i w S => w = (cmo c r pl (l.take i) v, nI i) ∧ oR T S) (fun i k w S hi hI => ?_) (fun k w S hI => ?_) FU 0 _ T (by omega) (by unfold FU; omega) ⟨rfl, Sm.rf T⟩
  · obtain ⟨rfl, q⟩ := hI
    have hE' := hE.o q.j
    obtain ⟨T', h1, h2⟩ := chg_c ok (h.o q.j) (hr.o q.j) (pok_g hl hi) (l.getD i (0, false)).2 pl (cmo c r pl (l.take i) v)
    refine ⟨(cmo c r pl (l.take (i + 1)) v, nI (i + 1)), T', ?_, rfl, q.tr h2⟩
    unfold f_X2_comesOut_6b
    simp only
    rw [hE'.1, if_neg (by rw [nLe (by omega) (by omega)]; omega), if_pos (by rw [inb_nI (by omega)]; omega), if_pos (by rw [inb_nI (by omega)]; omega), nI_t (by omega), (hE'.2.2.2 i hi).1, (hE'.2.2.2 i hi).2, h1, bd_e, a1, tk_s c r pl l v hi]
  · obtain ⟨rfl, q⟩ := hI
    unfold f_X2_comesOut_6b
    simp only
    rw [(hE.o q.j).1, if_pos (by rw [nLe (by omega) (by omega)]; omega), List.take_length]
    exact ⟨S, rfl, q⟩
theorem cmo_m {T : St} {c : Cv} {ar : Nat} {r : Rl} {l : Pth} {x : Nat} (ok : Cok c) (h : CM T ar c) (ha : ar ≠ 132) (hb : ar ≠ 133) (hd : ar ≠ 144) (hr : RuM T r.1 r.2) (hE : EMs c T l x) (hl : Pok c l) (v pl : Int32) : ∃ T', f_X11_comesOut ar v pl T = some (cmo c r pl l v, T') ∧ oK T T' := by
  have hl1 := hl.1
  refine lp_ex (body := f_X11_comesOut_6b ar pl (fun v6 S7 => some (v6.1, S7))) (Q := fun w => ∃ T', w = some (cmo c r pl l v, T') ∧ oK T T') l.length (fun i w S => w = (cmo c r pl (l.take i) v, nI i) ∧ oK T S) (fun i k w S hi hI => ?_) (fun k w S hI => ?_) FU 0 _ T (by omega) (by unfold FU; omega) ⟨rfl, Sm.rf T⟩
  · obtain ⟨rfl, q⟩ := hI
    have hE' := hE.o q.j
    obtain ⟨T', h1, h2⟩ := chg_m ok (h.o q.j ha hb hd) hb (hr.o q.j) (pok_g hl hi) (l.getD i (0, false)).2 pl (cmo c r pl (l.take i) v)
    refine ⟨(cmo c r pl (l.take (i + 1)) v, nI (i + 1)), T', ?_, rfl, q.tr h2⟩
    unfold f_X11_comesOut_6b
    simp only
    rw [hE'.1, if_neg (by rw [nLe (by omega) (by omega)]; omega), if_pos (by rw [inb_nI (by omega)]; omega), if_pos (by rw [inb_nI (by omega)]; omega), nI_t (by omega), (hE'.2.2.2 i hi).1, (hE'.2.2.2 i hi).2, h1, bd_e, a1, tk_s c r pl l v hi]
  · obtain ⟨rfl, q⟩ := hI
    unfold f_X11_comesOut_6b
    simp only
    rw [(hE.o q.j).1, if_pos (by rw [nLe (by omega) (by omega)]; omega), List.take_length]
    exact ⟨S, rfl, q⟩
