theorem rule_0 {T : St} (h10 : gI T 122 10 = nI 0) : f_X11_readsRule T = some (0, bg3 T 0) := by
  have hA : TaM (bg3 T 0) 0 0 (fun _ => 0) := ⟨rfl, rfl, by omega, by omega, fun i hi => by omega⟩
  have fl : f_X11_faultOf (nI 0) (40 : Int32) 1 (bg3 T 0) = some (0, bg3 T 0) := flt_m (n := 0) (most := 40) hA rfl (by omega) (by omega) true
  unfold f_X11_readsRule f_X11_readsRule_24 f_X11_readsRule_29
  rw [begins_m, bd_e, lt_e, h10, show mnI (nI 0) (40 : Int32) = nI 0 by decide, if_pos z00]
  rw [show sI (bgS T (nI 0)) 122 19 0 = bg3 T 0 from rfl, fl, bd_e]
theorem bg3_o {T : St} {n a b : Nat} (h : a ≠ 122 ∨ (b ≠ 10 ∧ b ≠ 11 ∧ b ≠ 12 ∧ b ≠ 13 ∧ b ≠ 19)) : gI (bg3 T n) a b = gI T a b := by
  unfold bg3 bgS
  by_cases e : a = 122
  · subst e
    rw [gI_s, if_pos rfl, if_neg (by omega), gI_s, if_pos rfl, if_neg (by omega), gI_s, if_pos rfl, if_neg (by omega), gI_s, if_pos rfl, if_neg (by omega), gI_s, if_pos rfl, if_neg (by omega)]
  · rw [gI_s, if_neg e, gI_s, if_neg e, gI_s, if_neg e, gI_s, if_neg e, gI_s, if_neg e]
theorem codR0 {A B : Nat → Int32} {D : List Nat} (hA : ArL A D) (hB : ArL B (D.map enc)) (h1 : 0 < D.length → hgE D 0 = some 1) : ∃ c : Nat → Nat, (∀ i, i < D.length → A i = nI (c i) ∧ B i = nI (enc (c i))) ∧ (0 < D.length → hgt c D.length = some 1) := by
  by_cases h : 0 < D.length
  · obtain ⟨c, c1, c2⟩ := codR hA hB (h1 h)
    exact ⟨c, c1, fun _ => c2⟩
  · exact ⟨fun _ => 0, fun i hi => by omega, fun z => absurd z h⟩
theorem rule_f {S T1 T2 : St} {o r n : Nat} {D : List Nat} (hS : RelP S) (ho : o = 110 ∨ o = 115) (hr : r = 225 - o) (hF1 : cF o S T1) (hz : gI T1 o 1 = nI (D.map enc).length) (hA : ArL (gI T1 (o + 1)) (D.map enc)) (hD : D.length ≤ 40) (hg : 0 < D.length → hgE D 0 = some 1) (hF2 : rF (bg3 (sI (sI (sI (sI T1 1 1 0) 0 9 (nI r)) 0 8 (nI o)) 122 0 0) n) T2) (h19 : gI T2 122 19 = nI D.length) (hB : ArL (gI T2 131) D) : ∃ T3, f_X11_laysCode 131 (gI T2 122 19) T2 = some ((), T3) ∧ RelP T3 := by
  obtain ⟨T3, l1, l2, l3, l4, l5⟩ := lays_c (T := T2) (ar := 131) hD (by decide) (by decide)
  refine ⟨T3, by rw [h19]; exact l1, ?_⟩
  have k0 : ∀ a b, a ≠ 130 → a ≠ 131 → (a ≠ 122 ∨ (b ≠ 18 ∧ b ≠ 0 ∧ b ≠ 10 ∧ b ≠ 11 ∧ b ≠ 12 ∧ b ≠ 13 ∧ b ≠ 19)) → (a ≠ 0 ∨ (b ≠ 8 ∧ b ≠ 9)) → (a ≠ 1 ∨ b ≠ 1) → gI T3 a b = gI T1 a b := by
    intro a b h1 h2 h3 h4 h5
    rw [l4 a b h1 (by omega), hF2.1 a b h2 (by omega), bg3_o (by omega), gI_s]
    have e0 : gI (sI (sI (sI T1 1 1 0) 0 9 (nI r)) 0 8 (nI o)) a b = gI T1 a b := by
      rw [gI_s]
      by_cases e : a = 0
      · rw [if_pos e, if_neg (by omega), gI_s, if_pos e, if_neg (by omega), gI_s, if_neg (by omega)]
      · rw [if_neg e, gI_s, if_neg e, gI_s]
        by_cases e' : a = 1
        · rw [if_pos e', if_neg (by omega)]
        · rw [if_neg e']
    by_cases e : a = 122
    · rw [if_pos e, if_neg (by omega)]; exact e0
    · rw [if_neg e]; exact e0
  have k1 : ∀ a b, a ≠ 130 → a ≠ 131 → (a ≠ 122 ∨ (b ≠ 18 ∧ b ≠ 0 ∧ b ≠ 10 ∧ b ≠ 11 ∧ b ≠ 12 ∧ b ≠ 13 ∧ b ≠ 19)) → (a ≠ 0 ∨ (b ≠ 8 ∧ b ≠ 9)) → (a ≠ 1 ∨ b ≠ 1) → a ≠ o → a ≠ o + 1 → a ≠ o + 2 → gI T3 a b = gI S a b := fun a b h1 h2 h3 h4 h5 h6 h7 h8 => (k0 a b h1 h2 h3 h4 h5).trans (hF1.1 a b h6 h7 h8)
  have kL : ∀ a b, gL T3 a b = gL S a b := fun a b => by rw [l5, hF2.2]; exact hF1.2 a b
  have kS : ∀ a b, (a = 0 ∧ (b = 8 ∨ b = 9)) ∨ (a = 1 ∧ b = 1) → gI T3 a b = gI (sI (sI (sI T1 1 1 0) 0 9 (nI r)) 0 8 (nI o)) a b := by
    intro a b h
    rw [l4 a b (by omega) (by omega), hF2.1 a b (by omega) (by omega), bg3_o (by omega), gI_s, if_neg (by omega)]
  obtain ⟨c, c1, c2⟩ := codR0 hB hA hg
  refine relO hS (fun a b h => k1 a b (by omega) (by omega) (by omega) (by omega) (by omega) (by omega) (by omega) (by omega)) ?_ ?_ ?_ ?_
  · rw [kS 1 1 (by omega)]; rfl
  · rw [l4 122 10 (by decide) (by decide), hF2.1 122 10 (by decide) (by decide)]; rfl
  · exact hS.2.2.2.1.fr (k1 10 1 (by omega) (by omega) (by omega) (by omega) (by omega) (by omega) (by omega) (by omega)) (k1 122 1 (by omega) (by omega) (by omega) (by omega) (by omega) (by omega) (by omega) (by omega)) (fun k => kL 11 k) (fun k => kL 123 k)
  · refine ⟨o, D.length, ho, hD, ?_, ?_, ?_, l2, c, fun i hi => ⟨?_, ?_⟩, c2⟩
    · rw [kS 0 8 (by omega)]; rfl
    · rw [kS 0 9 (by omega), ← hr]; rfl
    · rw [k0 o 1 (by omega) (by omega) (by omega) (by omega) (by omega), hz, List.length_map]
    · rw [l3 i hi]; exact (c1 i hi).1
    · rw [k0 (o + 1) i (by omega) (by omega) (by omega) (by omega) (by omega)]; exact (c1 i hi).2
theorem rule_n {S T1 T2 : St} {o n : Nat} (hS : RelP S) (ho : gI S 0 9 = nI o) (ho2 : o = 110 ∨ o = 115) (hF1 : cF o S T1) (hF2 : rF (bg3 (sI (sI T1 1 1 0) 122 0 0) n) T2) : RelP T2 := by
  have k0 : ∀ a b, a ≠ 131 → (a ≠ 122 ∨ (b ≠ 0 ∧ b ≠ 10 ∧ b ≠ 11 ∧ b ≠ 12 ∧ b ≠ 13 ∧ b ≠ 19)) → (a ≠ 1 ∨ b ≠ 1) → gI T2 a b = gI T1 a b := by
    intro a b h2 h3 h5
    rw [hF2.1 a b h2 (by omega), bg3_o (by omega), gI_s]
    have e0 : gI (sI T1 1 1 0) a b = gI T1 a b := by
      rw [gI_s]
      by_cases e' : a = 1
      · rw [if_pos e', if_neg (by omega)]
      · rw [if_neg e']
    by_cases e : a = 122
    · rw [if_pos e, if_neg (by omega)]; exact e0
    · rw [if_neg e]; exact e0
  have k1 : ∀ a b, a ≠ 131 → (a ≠ 122 ∨ (b ≠ 0 ∧ b ≠ 10 ∧ b ≠ 11 ∧ b ≠ 12 ∧ b ≠ 13 ∧ b ≠ 19)) → (a ≠ 1 ∨ b ≠ 1) → a ≠ o → a ≠ o + 1 → a ≠ o + 2 → gI T2 a b = gI S a b := fun a b h1 h2 h3 h6 h7 h8 => (k0 a b h1 h2 h3).trans (hF1.1 a b h6 h7 h8)
  have kL : ∀ a b, gL T2 a b = gL S a b := fun a b => by rw [hF2.2]; exact hF1.2 a b
  refine relO hS (fun a b h => k1 a b (by omega) (by omega) (by omega) (by omega) (by omega) (by omega)) ?_ ?_ ?_ ?_
  · rw [hF2.1 1 1 (by decide) (by decide)]; rfl
  · rw [hF2.1 122 10 (by decide) (by decide)]; rfl
  · exact hS.2.2.2.1.fr (k1 10 1 (by omega) (by omega) (by omega) (by omega) (by omega) (by omega)) (k1 122 1 (by omega) (by omega) (by omega) (by omega) (by omega) (by omega)) (fun k => kL 11 k) (fun k => kL 123 k)
  · obtain ⟨r, z, u1, u2, u3, u4, u5, u6, cc, u7, u8⟩ := hS.2.2.2.2.2.2
    have er : o = 225 - r := by
      rw [ho, nEq (by omega) (by omega)] at u4; exact u4
    refine ⟨r, z, u1, u2, (k1 0 8 (by omega) (by omega) (by omega) (by omega) (by omega) (by omega)).trans u3, (k1 0 9 (by omega) (by omega) (by omega) (by omega) (by omega) (by omega)).trans u4, (k1 r 1 (by omega) (by omega) (by omega) (by omega) (by omega) (by omega)).trans u5, (k1 122 18 (by omega) (by omega) (by omega) (by omega) (by omega) (by omega)).trans u6, cc, fun i hi => ⟨?_, ?_⟩, u8⟩
    · rw [k1 130 i (by omega) (by omega) (by omega) (by omega) (by omega) (by omega)]; exact (u7 i hi).1
    · rw [k1 (r + 1) i (by omega) (by omega) (by omega) (by omega) (by omega) (by omega)]; exact (u7 i hi).2
theorem eq_rule : EQ1 RelP f_X10_rule f_X11_rule := by
  apply EQ1.of
  intro S hS
  obtain ⟨n, t, n1, n2, n3, n4, n5⟩ := txt hS.1
  obtain ⟨r, z, u1, u2, u3, u4, u5, u6, cc, u7, u8⟩ := hS.2.2.2.2.2.2
  obtain ⟨o, ho, eo⟩ : ∃ o, (o = 110 ∨ o = 115) ∧ o = 225 - r := ⟨225 - r, by omega, rfl⟩
  have er : r = 225 - o := by omega
  rw [← eo] at u4
  have t9 : (gI S 0 9).toNatClampNeg = o := by rw [u4, nI_t (by omega)]
  have cls : ∀ (T1 : St) (v : Int32), f_X6_read o S = some (v, T1) → cF o S T1 → f_X10_rule S = if v = -1 then some (0, sI (sI (sI T1 1 1 0) 0 9 (nI r)) 0 8 (nI o)) else some (-1 - v, sI T1 1 1 0) := by
    intro T1 v hv hF
    have e9 : (gI (sI T1 1 1 0) 0 9).toNatClampNeg = o := by
      rw [show gI (sI T1 1 1 0) 0 9 = gI T1 0 9 from rfl, hF.1 0 9 (by omega) (by omega) (by omega)]; exact t9
    have e8 : (gI (sI T1 1 1 0) 0 8).toNatClampNeg = r := by
      rw [show gI (sI T1 1 1 0) 0 8 = gI T1 0 8 from rfl, hF.1 0 8 (by omega) (by omega) (by omega), u3, nI_t (by omega)]
    unfold f_X10_rule
    rw [t9, if_pos ho, hv, bd_e, lt_e, e9, e8, if_pos ho, if_pos u1, lt_e, lt_e]
  have big : ∀ (T1 : St), cF o S T1 → ∀ a b, 122 ≤ a → gI T1 a b = gI S a b := fun T1 hF a b h => hF.1 a b (by omega) (by omega) (by omega)
  by_cases h0 : n = 0
  · subst h0
    obtain ⟨T1, r1, r2, r3⟩ := read_0 ho n2
    have c := cls T1 (-1) r1 r2
    rw [if_pos rfl] at c
    refine ⟨_, _, c, ?_⟩
    have h10 : gI (sI (sI (sI (sI T1 1 1 0) 0 9 (nI r)) 0 8 (nI o)) 122 0 0) 122 10 = nI 0 := (big T1 r2 122 10 (by omega)).trans n3
    obtain ⟨T3, l1, l2⟩ := rule_f (D := []) (n := 0) hS ho er r2 r3 trivial (by simp) (fun h => absurd h (by simp)) (rF.rf (bg3 (sI (sI (sI (sI T1 1 1 0) 0 9 (nI r)) 0 8 (nI o)) 122 0 0) 0)) rfl trivial
    refine ⟨0, T3, ?_, rfl, l2⟩
    unfold f_X11_rule
    rw [lt_e, rule_0 h10, bd_e, if_pos rfl, l1, bd_e]
  · -- where it ends does not hang on the class: read the reference on S first
    obtain ⟨_, k, y, D, f, _, _, hE, _⟩ := rule_m (T := S) n3 n1 (by omega) (fun i hi => ⟨n5 i hi, (n4 i (by omega)).2⟩)
    obtain ⟨T1, r1, r2, r3⟩ := read_c ho n4 n2 n1 (by omega) hE
    have c := cls T1 _ r1 r2
    have hk := hE.1
    -- the reference behind the class
    have ref : ∀ S1, gI S1 122 10 = nI n → (∀ i, i < n → gI S1 128 i = nI (t i)) → ∃ T2 D', f_X11_readsRule S1 = some (if f = true then 0 else -1 - nI k, T2) ∧ rF (bg3 S1 n) T2 ∧ (f = true → gI T2 122 19 = nI D'.length ∧ ArL (gI T2 131) D' ∧ D'.length ≤ 40 ∧ D'.map enc = D.map enc ∧ hgE D' 0 = some 1) := by
      intro S1 g1 g2
      obtain ⟨T2, k', y', D', f', q1, q2, q3, q4⟩ := rule_m g1 n1 (by omega) (fun i hi => ⟨g2 i hi, (n4 i (by omega)).2⟩)
      obtain ⟨a1, a2, a3, a4⟩ := hE
      obtain ⟨b1, b2, b3, b4⟩ := q3
      -- one place
      have ek : k' = k := by
        have lo : ∀ (k k' : Nat) (y y' : RS) (f : Bool), k < k' → k' ≤ min n 40 → rn t 0 k x0 = some y → rn t 0 k' x0 = some y' → (f = false → (k < min n 40 → stR (t k) y = none)) → (f = true → k = min n 40) → False := by
          intro k k' y y' f hlt hle e1 e2 e3 e4
          cases f with
          | true => have := e4 rfl; omega
          | false =>
            obtain ⟨z, hz⟩ := rn_pre (t := t) (a := 0) (x := x0) (k' - (k + 1)) (k + 1) y' (by rw [show k + 1 + (k' - (k + 1)) = k' by omega]; exact e2)
            rw [rn_s, e1, Nat.zero_add] at hz
            have := e3 rfl (by omega)
            rw [show (some y).bind (stR (t k)) = stR (t k) y from rfl, this] at hz
            cases hz
        by_cases l1 : k < k'
        · exact (lo k k' y y' f l1 b1 a2 b2 (fun h => (a3 h).2) (fun h => (a4 h).1)).elim
        · by_cases l2 : k' < k
          · exact (lo k' k y' y f' l2 a1 b2 a2 (fun h => (b3 h).2) (fun h => (b4 h).1)).elim
          · omega
      subst ek
      rw [a2] at b2
      obtain rfl := Option.some.inj b2
      have ef : f' = f := by
        have lo : ∀ (f f' : Bool), f = true → f' = false → (f = true → k' = min n 40 ∧ n ≤ 40 ∧ sw y = false ∧ sd y = 0) → (f' = false → (k' = min n 40 → (sw y = true ∨ 0 < sd y ∨ 40 < n))) → False := by
          intro f f' e1 e2 e3 e4
          obtain ⟨c1, c2, c3, c4⟩ := e3 e1
          rcases e4 e2 c1 with w | w | w
          · rw [c3] at w; cases w
          · omega
          · omega
        cases hf : f with
        | true =>
          cases hf' : f' with
          | true => rfl
          | false => exact (lo f f' hf hf' (fun h => ⟨(a4 h).1, (a4 h).2.1, (a4 h).2.2.1, (a4 h).2.2.2.1⟩) (fun h => (b3 h).1)).elim
        | false =>
          cases hf' : f' with
          | false => rfl
          | true => exact (lo f' f hf' hf (fun h => ⟨(b4 h).1, (b4 h).2.1, (b4 h).2.2.1, (b4 h).2.2.2.1⟩) (fun h => (a3 h).1)).elim
      subst ef
      refine ⟨T2, D', q1, q2, fun h => ⟨(q4 h).1, (q4 h).2.1, (q4 h).2.2, ?_, (b4 h).2.2.2.2.2⟩⟩
      rw [← (b4 h).2.2.2.2.1, (a4 h).2.2.2.2.1]
    cases f with
    | true =>
      rw [if_pos rfl, if_pos rfl] at c
      obtain ⟨s1, s2⟩ := r3 rfl
      refine ⟨_, _, c, ?_⟩
      obtain ⟨T2, D', q1, q2, q3⟩ := ref (sI (sI (sI (sI T1 1 1 0) 0 9 (nI r)) 0 8 (nI o)) 122 0 0) ((big T1 r2 122 10 (by omega)).trans n3) (fun i hi => (big T1 r2 128 i (by omega)).trans (n5 i hi))
      obtain ⟨d1, d2, d3, d4, d5⟩ := q3 rfl
      rw [← d4] at s1 s2
      obtain ⟨T3, l1, l2⟩ := rule_f hS ho er r2 s1 s2 d3 (fun _ => d5) q2 d1 d2
      refine ⟨0, T3, ?_, rfl, l2⟩
      unfold f_X11_rule
      rw [lt_e, q1, if_pos rfl, bd_e, if_pos rfl, l1, bd_e]
    | false =>
      rw [if_neg (show ¬ false = true by simp), if_neg (nne (show k < 2147483648 by omega))] at c
      refine ⟨_, _, c, ?_⟩
      obtain ⟨T2, D', q1, q2, q3⟩ := ref (sI (sI T1 1 1 0) 122 0 0) ((big T1 r2 122 10 (by omega)).trans n3) (fun i hi => (big T1 r2 128 i (by omega)).trans (n5 i hi))
      refine ⟨-1 - nI k, T2, ?_, rfl, rule_n hS u4 ho r2 q2⟩
      unfold f_X11_rule
      have ne : ¬ -1 - nI k = (0 : Int32) := by
        rw [i_eq, ngv (by omega)]
        show ¬ _ = (0 : Int)
        omega
      rw [lt_e, q1, if_neg (show ¬ false = true by simp), bd_e, if_neg ne]
