def vld (c : Nat) : Prop := c < 1007 ∨ c = 3000 ∨ (2000 ≤ c ∧ c ≤ 2006)
theorem enc_inj {c c' : Nat} (h : vld c) (h' : vld c') (e : enc c = enc c') : c = c' := by
  unfold vld at h h'
  unfold enc at e
  repeat' split at e
  all_goals omega
theorem hgE_v : ∀ (D : List Nat) (h h1 : Nat), hgE D h = some h1 → ∀ c, c ∈ D → vld c := by
  intro D
  induction D with
  | nil => intro h h1 _ c hc; cases hc
  | cons d D ih =>
    intro h h1 e c hc
    change (hgE D h).bind (hgS d) = some h1 at e
    cases g : hgE D h with
    | none => rw [g] at e; cases e
    | some k =>
      rw [g] at e
      change hgS d k = some h1 at e
      rw [List.mem_cons] at hc
      rcases hc with rfl | hc
      · unfold hgS at e
        unfold vld
        by_cases z1 : c < 1007
        · exact Or.inl z1
        · rw [if_neg z1] at e
          by_cases z2 : c = 3000
          · exact Or.inr (Or.inl z2)
          · rw [if_neg z2] at e
            by_cases z3 : 2000 ≤ c ∧ c ≤ 2006
            · exact Or.inr (Or.inr z3)
            · rw [if_neg z3] at e; cases e
      · exact ih h k g c hc
theorem map_inj : ∀ D D' : List Nat, (∀ c, c ∈ D → vld c) → (∀ c, c ∈ D' → vld c) → D.map enc = D'.map enc → D = D' := by
  intro D
  induction D with
  | nil =>
    intro D' _ _ e
    cases D' with
    | nil => rfl
    | cons d D' => simp at e
  | cons d D ih =>
    intro D' h h' e
    cases D' with
    | nil => simp at e
    | cons d' D' =>
      simp only [List.map_cons, List.cons.injEq] at e
      rw [enc_inj (h d (by simp)) (h' d' (by simp)) e.1, ih D' (fun c hc => h c (by simp [hc])) (fun c hc => h' c (by simp [hc])) e.2]
/-- a rule read by both -/
theorem read2 {S : St} {o n : Nat} {t : Nat → Nat} (ho : o = 110 ∨ o = 115) (n1 : n ≤ 80) (n2 : gI S 1 1 = nI n) (n3 : gI S 122 10 = nI n) (n4 : TxC S t) (n5 : ∀ i, i < n → gI S 128 i = nI (t i)) : ∃ k f D T1, k ≤ 40 ∧ f_X6_read o S = some (if f = true then -1 else nI k, T1) ∧ cF o S T1 ∧ (f = true → gI T1 o 1 = nI D.length ∧ ArL (gI T1 (o + 1)) (D.map enc) ∧ D.length ≤ 40 ∧ (0 < D.length → hgE D 0 = some 1)) ∧ ∀ S1, gI S1 122 10 = nI n → (∀ i, i < n → gI S1 128 i = nI (t i)) → ∃ T2, f_X11_readsRule S1 = some (if f = true then 0 else -1 - nI k, T2) ∧ rF (bg3 S1 n) T2 ∧ (f = true → gI T2 122 19 = nI D.length ∧ ArL (gI T2 131) D) := by
  by_cases h0 : n = 0
  · subst h0
    obtain ⟨T1, r1, r2, r3⟩ := read_0 ho n2
    refine ⟨0, true, [], T1, by omega, by rw [if_pos rfl]; exact r1, r2, fun _ => ⟨r3, trivial, by simp, fun h => absurd h (by simp)⟩, fun S1 h10 _ => ⟨bg3 S1 0, by rw [if_pos rfl]; exact rule_0 h10, rF.rf _, fun _ => ⟨rfl, trivial⟩⟩⟩
  · obtain ⟨_, k, y, D, f, _, _, hE, hq⟩ := rule_m (T := S) n3 n1 (by omega) (fun i hi => ⟨n5 i hi, (n4 i (by omega)).2⟩)
    obtain ⟨T1, r1, r2, r3⟩ := read_c ho n4 n2 n1 (by omega) hE
    have hk := hE.1
    refine ⟨k, f, D, T1, by omega, r1, r2, fun h => ⟨?_, (r3 h).2, (hq h).2.2, fun _ => (hE.2.2.2 h).2.2.2.2.2⟩, fun S1 g1 g2 => ?_⟩
    · rw [(r3 h).1, List.length_map]
    · obtain ⟨T2, k', y', D', f', q1, q2, q3, q4⟩ := rule_m g1 n1 (by omega) (fun i hi => ⟨g2 i hi, (n4 i (by omega)).2⟩)
      obtain ⟨a1, a2, a3, a4⟩ := hE
      obtain ⟨b1, b2, b3, b4⟩ := q3
      have ek : k' = k := by
        have lo : ∀ (k k' : Nat) (y y' : RS) (f : Bool), k < k' → k' ≤ min n 40 → rn t 0 k x0 = some y → rn t 0 k' x0 = some y' → (f = false → (k < min n 40 → stR (t k) y = none)) → (f = true → k = min n 40) → False := by
          intro k k' y y' f hlt hle e1 e2 e3 e4
          cases f with
          | true => have := e4 rfl; omega
          | false =>
            obtain ⟨z, hz⟩ := rn_pre (t := t) (a := 0) (x := x0) (k' - (k + 1)) (k + 1) y' (by rw [show k + 1 + (k' - (k + 1)) = k' by omega]; exact e2)
            rw [rn_s, e1, Nat.zero_add] at hz
            have := e3 rfl (by omega)
            rw [show (some y).bind (stR (t k)) = stR (t k) y from rfl, this] at hz
            cases hz
        by_cases l1 : k < k'
        · exact (lo k k' y y' f l1 b1 a2 b2 (fun h => (a3 h).2) (fun h => (a4 h).1)).elim
        · by_cases l2 : k' < k
          · exact (lo k' k y' y f' l2 a1 b2 a2 (fun h => (b3 h).2) (fun h => (b4 h).1)).elim
          · omega
      subst ek
      rw [a2] at b2
      obtain rfl := Option.some.inj b2
      have ef : f' = f := by
        have lo : ∀ (f f' : Bool), f = true → f' = false → (f = true → k' = min n 40 ∧ n ≤ 40 ∧ sw y = false ∧ sd y = 0) → (f' = false → (k' = min n 40 → (sw y = true ∨ 0 < sd y ∨ 40 < n))) → False := by
          intro f f' e1 e2 e3 e4
          obtain ⟨c1, c2, c3, c4⟩ := e3 e1
          rcases e4 e2 c1 with w | w | w
          · rw [c3] at w; cases w
          · omega
          · omega
        cases hf : f with
        | true =>
          cases hf' : f' with
          | true => rfl
          | false => exact (lo f f' hf hf' (fun h => ⟨(a4 h).1, (a4 h).2.1, (a4 h).2.2.1, (a4 h).2.2.2.1⟩) (fun h => (b3 h).1)).elim
        | false =>
          cases hf' : f' with
          | false => rfl
          | true => exact (lo f' f hf' hf (fun h => ⟨(b4 h).1, (b4 h).2.1, (b4 h).2.2.1, (b4 h).2.2.2.1⟩) (fun h => (a3 h).1)).elim
      subst ef
      refine ⟨T2, q1, q2, fun h => ?_⟩
      have ed : D' = D := map_inj D' D (hgE_v D' 0 1 (b4 h).2.2.2.2.2) (hgE_v D 0 1 (a4 h).2.2.2.2.2) (by rw [← (b4 h).2.2.2.2.1, (a4 h).2.2.2.2.1])
      rw [ed] at q4
      exact ⟨(q4 h).1, (q4 h).2.1⟩
theorem cp_m {T : St} {z : Nat} (hz : z ≤ 40) (h18 : gI T 122 18 = nI z) (x2 x3 : Int32) (e : Int32 → St → Option (Int32 × St)) : ∃ T', lp (f_X11_law_35b x2 x3 e) FU 0 T = e (nI z) T' ∧ (∀ i, i < z → gI T' 154 i = gI T 130 i) ∧ (∀ a b, a ≠ 154 → gI T' a b = gI T a b) ∧ ∀ a b, gL T' a b = gL T a b := by
  have h0 := lp_ex (body := f_X11_law_35b x2 x3 e) (Q := fun w => ∃ T', w = e (nI z) T' ∧ (∀ i, i < z → gI T' 154 i = gI T 130 i) ∧ (∀ a b, a ≠ 154 → gI T' a b = gI T a b) ∧ ∀ a b, gL T' a b = gL T a b) z (fun j v S => v = nI j ∧ (∀ i, i < j → gI S 154 i = gI T 130 i) ∧ (∀ a b, a ≠ 154 → gI S a b = gI T a b) ∧ ∀ a b, gL S a b = gL T a b) (fun j k v S hj hI => ?_) (fun k v S hI => ?_) FU 0 (0 : Int32) T (by omega) (by unfold FU; omega) ⟨rfl, fun i hi => by omega, fun _ _ _ => rfl, fun _ _ => rfl⟩
  · exact h0
  · obtain ⟨rfl, g2, g3, g4⟩ := hI
    have w : inb (nI j) 80 := by rw [inb_nI (by omega)]; omega
    refine ⟨nI (j + 1), sI S 154 j (gI T 130 j), ?_, rfl, fun i hi => ?_, fun a b x => ?_, fun a b => g4 a b⟩
    · unfold f_X11_law_35b
      rw [g3 122 18 (by decide), h18, if_neg (by rw [nLe (by omega) (by omega)]; omega)]
      simp only [if_pos w, nI_t (show j < 2147483648 by omega), lt_e, a1, g3 130 j (by decide)]
    · rw [gI_s, if_pos rfl]
      by_cases q : i = j
      · rw [if_pos q, q]
      · rw [if_neg q]; exact g2 i (by omega)
    · rw [gI_s, if_neg x]; exact g3 a b x
  · obtain ⟨rfl, g2, g3, g4⟩ := hI
    refine ⟨S, ?_, g2, g3, g4⟩
    unfold f_X11_law_35b
    rw [g3 122 18 (by decide), h18, if_pos (by rw [nLe (by omega) (by omega)]; omega)]
theorem ng1 {k : Nat} (h : k ≤ 40) : ((-1 : Int32) - nI k + 1) - 10000 = -10000 - nI k := by
  have q : ∀ k, k ≤ 40 → ((-1 : Int32) - nI k + 1) - 10000 = -10000 - nI k := by decide +kernel
  exact q k h
set_option maxRecDepth 16384 in
theorem eq_law : EQ1 RelP f_X10_law f_X11_law := by
  apply EQ1.of
  intro S hS
  obtain ⟨n, t, n1, n2, n3, n4, n5⟩ := txt hS.1
  obtain ⟨c, r, rl, ok, hC, hM⟩ := hS.x
  obtain ⟨r0, z0, u1, u2, u3, u4, u5, u6, cc, u7, u8⟩ := hS.2.2.2.2.2.2
  have hr1 := hC.2.1.1
  have er0 : r0 = r := by
    have := hC.2.2
    rw [u3, nEq (by omega) (by omega)] at this
    exact this
  subst er0
  obtain ⟨o, ho, eo⟩ : ∃ o, (o = 110 ∨ o = 115) ∧ o = 225 - r0 := ⟨225 - r0, by omega, rfl⟩
  rw [← eo] at u4
  have t9 : (gI S 0 9).toNatClampNeg = o := by rw [u4, nI_t (by omega)]
  obtain ⟨k, f, D, T1, hk, r1, r2, r3, r4⟩ := read2 ho n1 n2 n3 n4 n5
  have big : ∀ a b, 122 ≤ a → gI T1 a b = gI S a b := fun a b h => r2.1 a b (by omega) (by omega) (by omega)
  have e9 : (gI (sI T1 1 1 0) 0 9).toNatClampNeg = o := by
    rw [show gI (sI T1 1 1 0) 0 9 = gI T1 0 9 from rfl, r2.1 0 9 (by omega) (by omega) (by omega)]; exact t9
  cases f with
  | false =>
    have cls : f_X10_law S = some (-10000 - nI k, sI T1 1 1 0) := by
      unfold f_X10_law
      rw [t9, if_pos ho, r1, if_neg (show ¬ false = true by simp), bd_e, lt_e, if_neg (nne (show k < 2147483648 by omega))]
    refine ⟨_, _, cls, ?_⟩
    obtain ⟨T2, q1, q2, q3⟩ := r4 (sI (sI T1 1 1 0) 122 0 0) ((big 122 10 (by omega)).trans n3) (fun i hi => (big 128 i (by omega)).trans (n5 i hi))
    refine ⟨-10000 - nI k, T2, ?_, rfl, rule_n hS u4 ho r2 q2⟩
    unfold f_X11_law
    rw [lt_e, q1, if_neg (show ¬ false = true by simp), bd_e, if_neg (ng0 (show k ≤ 80 by omega)), ng1 hk]
  | true =>
    obtain ⟨d1, d2, d3, d4⟩ := r3 rfl
    rw [if_pos rfl] at r1
    generalize hcn : (fun i => D.getD (D.length - 1 - i) 0) = cn'
    have hg : 0 < D.length → hgt cn' D.length = some 1 := fun h => by rw [← hcn, hgt_l2]; exact d4 h
    have enc2 : ∀ i, i < D.length → (D.map enc).getD ((D.map enc).length - 1 - i) 0 = enc (cn' i) := by
      intro i hi
      rw [← hcn, List.length_map]
      dsimp only
      rw [List.getD_eq_getElem?_getD, List.getD_eq_getElem?_getD, List.getElem?_map, List.getElem?_eq_getElem (show D.length - 1 - i < D.length by omega)]
      rfl
    have hrN : RuC (sI T1 1 1 0) o (D.length, cn').1 (D.length, cn').2 := by
      refine ⟨ho, d3, ?_, fun i hi => ?_, hg⟩
      · rw [gI_s, if_neg (by omega)]; exact d1
      · rw [gI_s, if_neg (by omega), d2.get i (by rw [List.length_map]; exact hi), enc2 i hi]
    have small : ∀ a b, a ≠ o → a ≠ o + 1 → a ≠ o + 2 → (a ≠ 1 ∨ b ≠ 1) → gI (sI T1 1 1 0) a b = gI S a b := by
      intro a b h1 h2 h3 h4
      rw [gI_s]
      by_cases e : a = 1
      · rw [if_pos e, if_neg (by omega)]; exact r2.1 a b h1 h2 h3
      · rw [if_neg e]; exact r2.1 a b h1 h2 h3
    have hC5 : CC (sI T1 1 1 0) c := by
      obtain ⟨h1, h2, h3, h4⟩ := hC.1
      refine ⟨(small _ _ (by omega) (by omega) (by omega) (by omega)).trans h1, fun i hi => ?_, (small _ _ (by omega) (by omega) (by omega) (by omega)).trans h3, (small _ _ (by omega) (by omega) (by omega) (by omega)).trans h4⟩
      rw [small 4 i (by omega) (by omega) (by omega) (by omega), small 5 i (by omega) (by omega) (by omega) (by omega), small 7 i (by omega) (by omega) (by omega) (by omega), small 8 i (by omega) (by omega) (by omega) (by omega), small 9 i (by omega) (by omega) (by omega) (by omega)]
      exact h2 i hi
    have hrO : RuC (sI T1 1 1 0) r0 rl.1 rl.2 := by
      obtain ⟨h1, h2, h3, h4, h5⟩ := hC.2.1
      refine ⟨h1, h2, (small _ _ (by omega) (by omega) (by omega) (by omega)).trans h3, fun i hi => ?_, h5⟩
      rw [small (r0 + 1) i (by omega) (by omega) (by omega) (by omega)]; exact h4 i hi
    obtain ⟨Ta, a1', a2⟩ := ka_c ok hC5 hrN
    obtain ⟨Tb, b1, b2⟩ := ka_c ok (a2.cc hC5) (a2.ru hrO)
    obtain ⟨Tc, c1, c2, c3, c4⟩ := put_e (nI (kaA c (D.length, cn') 8)).toInt64 (RwC.nil Tb) (by simp)
    obtain ⟨Td, f1, f2, f3, f4⟩ := put_e (nI (kaA c rl 8)).toInt64 c3 (by simp)
    have k5 : ∀ a b, a ≠ 10 → (a < 92 ∨ 95 < a) → a ≠ 113 → a ≠ 114 → a ≠ 118 → a ≠ 119 → gI Td a b = gI (sI T1 1 1 0) a b := by
      intro a b h1 h2 h3 h4 h5 h6
      rw [f4 a b h1, c4 a b h1, e10 a b h1]
      have w : (decide (a ≠ 113) && decide (a ≠ 114) && decide (a ≠ 118) && decide (a ≠ 119) && decide (a ≠ 92) && decide (a ≠ 93) && decide (a ≠ 94) && decide (a ≠ 95)) = true := by simp; omega
      rw [b2.1 a b w, a2.1 a b w]
    have e8 : (gI Ta 0 8).toNatClampNeg = r0 := by
      rw [a2.1 0 8 rfl, small 0 8 (by omega) (by omega) (by omega) (by omega), u3, nI_t (by omega)]
    have cls : f_X10_law S = some (nI (kaA c (D.length, cn') 8) - nI (kaA c rl 8), Td) := by
      unfold f_X10_law
      rw [t9, if_pos ho, r1, bd_e, lt_e, if_pos rfl, e9, if_pos ho, a1', bd_e, e8, if_pos hr1, b1, bd_e, begin_e, bd_e, c1, bd_e, f1, bd_e]
    refine ⟨_, _, cls, ?_⟩
    have kb : ∀ a b, 122 ≤ a → gI Td a b = gI S a b := fun a b h => (k5 a b (by omega) (by omega) (by omega) (by omega) (by omega) (by omega)).trans (small a b (by omega) (by omega) (by omega) (by omega))
    have kbL : ∀ b, gL Td 123 b = gL S 123 b := fun b => by
      rw [f2.2 123 b rfl, c2.2 123 b rfl]
      exact (b2.2 123 b rfl).trans ((a2.2 123 b rfl).trans (r2.2 123 b))
    -- the reference
    obtain ⟨U1, q1, q2, q3⟩ := r4 (sI Td 122 0 0) ((kb 122 10 (by omega)).trans n3) (fun i hi => (kb 128 i (by omega)).trans (n5 i hi))
    obtain ⟨q4, q5⟩ := q3 rfl
    rw [if_pos rfl] at q1
    have k1 : ∀ a b, 122 ≤ a → a ≠ 131 → (a ≠ 122 ∨ (b ≠ 0 ∧ b ≠ 10 ∧ b ≠ 11 ∧ b ≠ 12 ∧ b ≠ 13 ∧ b ≠ 19)) → gI U1 a b = gI S a b := by
      intro a b h1 h2 h3
      rw [q2.1 a b h2 (by omega), bg3_o (by omega), gI_s]
      by_cases e : a = 122
      · rw [if_pos e, if_neg (by omega)]; exact kb a b h1
      · rw [if_neg e]; exact kb a b h1
    have hM1 : MX U1 c rl := by
      obtain ⟨⟨h1, h2, h4, h5⟩, g2, g3, g4, g5⟩ := hM
      refine ⟨⟨(k1 _ _ (by omega) (by omega) (by omega)).trans h1, fun i hi => ?_, (k1 _ _ (by omega) (by omega) (by omega)).trans h4, (k1 _ _ (by omega) (by omega) (by omega)).trans h5⟩, g2, (k1 _ _ (by omega) (by omega) (by omega)).trans g3, fun i hi => (k1 _ _ (by omega) (by omega) (by omega)).trans (g4 i hi), g5⟩
      rw [k1 124 i (by omega) (by omega) (by omega), k1 125 i (by omega) (by omega) (by omega), k1 126 i (by omega) (by omega) (by omega), k1 126 (12 + i) (by omega) (by omega) (by omega), k1 126 (24 + i) (by omega) (by omega) (by omega)]
      exact h2 i hi
    obtain ⟨U2, v1, v2⟩ := ka_m ok hM1
    have hM2 := hM1.q v2.q
    obtain ⟨z1, z2, z3, z4⟩ := hM2.2
    -- its end
    obtain ⟨U3, w1, w2, w3, w4⟩ := cp_m z1 z2 (nI (kaA c rl 8)) (nI rl.1) (fun v12 S13 => bd (f_X11_laysCode 131 (gI S13 122 19) S13) (fun r14 S15 => bd (f_X11_keptByAll S15) (fun r17 S18 => bd (f_X11_laysCode 154 (nI rl.1) S18) (fun r20 S21 => lt (sI S21 122 1 (0 : Int32)) (fun S23 => bd (f_X11_enters r17.toInt64 S23) (fun r24 S25 => bd (f_X11_enters (nI (kaA c rl 8)).toInt64 S25) (fun r27 S28 => some ((r17 - nI (kaA c rl 8)), S28))))))))
    have h19 : gI U3 122 19 = nI D.length := (w3 122 19 (by decide)).trans ((v2.1 122 19 rfl).trans q4)
    obtain ⟨U4, x1, x2, x3, x4, x5⟩ := lays_c (T := U3) (ar := 131) d3 (by decide) (by decide)
    have hM4 : MX U4 c (D.length, cn') := by
      have k4 : ∀ a b, a ≠ 130 → a ≠ 154 → (a ≠ 122 ∨ b ≠ 18) → gI U4 a b = gI U2 a b := fun a b h1 h2 h3 => (x4 a b h1 h3).trans (w3 a b h2)
      obtain ⟨h1, h2, h4, h5⟩ := hM2.1
      refine ⟨⟨(k4 _ _ (by omega) (by omega) (by omega)).trans h1, fun i hi => ?_, (k4 _ _ (by omega) (by omega) (by omega)).trans h4, (k4 _ _ (by omega) (by omega) (by omega)).trans h5⟩, d3, x2, fun i hi => ?_, hg⟩
      · rw [k4 124 i (by omega) (by omega) (by omega), k4 125 i (by omega) (by omega) (by omega), k4 126 i (by omega) (by omega) (by omega), k4 126 (12 + i) (by omega) (by omega) (by omega), k4 126 (24 + i) (by omega) (by omega) (by omega)]
        exact h2 i hi
      · rw [x3 i hi, w3 131 i (by decide), v2.1 131 i rfl, q5.get i hi, ← hcn]
    obtain ⟨U5, y1, y2⟩ := ka_m ok hM4
    obtain ⟨U6, p1', p2', p3', p4', p5'⟩ := lays_c (T := U5) (ar := 154) z1 (by decide) (by decide)
    obtain ⟨U7, g1, g2, g3, g4⟩ := ent_e (nI (kaA c (D.length, cn') 8)).toInt64 (RwM.nil U6) (by simp)
    obtain ⟨U8, i1, i2, i3, i4⟩ := ent_e (nI (kaA c rl 8)).toInt64 g3 (by simp)
    have ref : f_X11_law Td = some (nI (kaA c (D.length, cn') 8) - nI (kaA c rl 8), U8) := by
      unfold f_X11_law
      rw [lt_e, q1, bd_e, if_pos (show (0 : Int32) ≤ 0 by decide), v1, bd_e, lt_e, z2]
      refine w1.trans ?_
      rw [h19, x1, bd_e, y1, bd_e, p1', bd_e, lt_e, g1, bd_e, i1, bd_e]
    refine ⟨_, U8, ref, rfl, ?_⟩
    have k8 : ∀ a b, a ≠ 130 → a ≠ 131 → a ≠ 132 → a ≠ 133 → a ≠ 134 → a ≠ 135 → a ≠ 154 → (a ≠ 122 ∨ (b ≠ 0 ∧ b ≠ 1 ∧ b ≠ 10 ∧ b ≠ 11 ∧ b ≠ 12 ∧ b ≠ 13 ∧ b ≠ 18 ∧ b ≠ 19 ∧ b ≠ 24 ∧ b ≠ 25 ∧ b ≠ 26)) → gI U8 a b = gI Td a b := by
      intro a b h1 h2 h3 h4 h5 h6 h7 h8
      have w : (decide (a ≠ 132) && decide (a ≠ 133) && decide (a ≠ 134) && decide (a ≠ 135) && (decide (a ≠ 122) || (decide (b ≠ 24) && decide (b ≠ 25) && decide (b ≠ 26)))) = true := by simp; omega
      rw [i4 a b (by omega), g4 a b (by omega), e01 a b (by omega), p4' a b h1 (by omega), y2.1 a b w, x4 a b h1 (by omega), w3 a b h7, v2.1 a b w, q2.1 a b h2 (by omega), bg3_o (by omega), gI_s]
      by_cases e : a = 122
      · rw [if_pos e, if_neg (by omega)]
      · rw [if_neg e]
    have k9 : ∀ a b, a ≠ 10 → (a < 92 ∨ 95 < a) → a ≠ 113 → a ≠ 114 → a ≠ 118 → a ≠ 119 → a ≠ o → a ≠ o + 1 → a ≠ o + 2 → (a ≠ 1 ∨ b ≠ 1) → a ≠ 130 → a ≠ 131 → a ≠ 132 → a ≠ 133 → a ≠ 134 → a ≠ 135 → a ≠ 154 → (a ≠ 122 ∨ (b ≠ 0 ∧ b ≠ 1 ∧ b ≠ 10 ∧ b ≠ 11 ∧ b ≠ 12 ∧ b ≠ 13 ∧ b ≠ 18 ∧ b ≠ 19 ∧ b ≠ 24 ∧ b ≠ 25 ∧ b ≠ 26)) → gI U8 a b = gI S a b := fun a b h1 h2 h3 h4 h5 h6 h7 h8 h9 h10 h11 h12 h13 h14 h15 h16 h17 h18 => (k8 a b h11 h12 h13 h14 h15 h16 h17 h18).trans ((k5 a b h1 h2 h3 h4 h5 h6).trans (small a b h7 h8 h9 h10))
    refine relO hS (fun a b h => by refine k9 a b ?_ ?_ ?_ ?_ ?_ ?_ ?_ ?_ ?_ ?_ ?_ ?_ ?_ ?_ ?_ ?_ ?_ ?_ <;> omega) ?_ ?_ ?_ ?_
    · rw [k8 1 1 (by decide) (by decide) (by decide) (by decide) (by decide) (by decide) (by decide) (by decide), k5 1 1 (by decide) (by decide) (by decide) (by decide) (by decide) (by decide)]; rfl
    · rw [i4 122 10 (by decide), g4 122 10 (by decide), e01 122 10 (by decide), p4' 122 10 (by decide) (by decide), y2.1 122 10 rfl, x4 122 10 (by decide) (by decide), w3 122 10 (by decide), v2.1 122 10 rfl, q2.1 122 10 (by decide) (by decide)]; rfl
    · refine ⟨2, by omega, ?_, i3.1, fun i hi => ?_⟩
      · rw [k8 10 1 (by decide) (by decide) (by decide) (by decide) (by decide) (by decide) (by decide) (by decide)]; exact f3.1
      · have l1 : gL U8 11 i = gL Td 11 i := by
          rw [i2.2 11 i rfl, g2.2 11 i rfl]
          show gL U6 11 i = _
          rw [p5', y2.2 11 i rfl, x5, w4, v2.2 11 i rfl, q2.2]; rfl
        rw [l1, f3.2 i hi, i3.2 i hi]
    · obtain ⟨h1, h2, h3, h4, h5⟩ := hC.2.1
      refine ⟨r0, rl.1, h1, h2, ?_, ?_, ?_, ?_, rl.2, fun i hi => ⟨?_, ?_⟩, h5⟩
      · refine (k9 0 8 ?_ ?_ ?_ ?_ ?_ ?_ ?_ ?_ ?_ ?_ ?_ ?_ ?_ ?_ ?_ ?_ ?_ ?_).trans u3 <;> omega
      · rw [← eo]
        refine (k9 0 9 ?_ ?_ ?_ ?_ ?_ ?_ ?_ ?_ ?_ ?_ ?_ ?_ ?_ ?_ ?_ ?_ ?_ ?_).trans u4 <;> omega
      · refine (k9 r0 1 ?_ ?_ ?_ ?_ ?_ ?_ ?_ ?_ ?_ ?_ ?_ ?_ ?_ ?_ ?_ ?_ ?_ ?_).trans h3 <;> omega
      · rw [i4 122 18 (by decide), g4 122 18 (by decide), e01 122 18 (by decide)]; exact p2'
      · rw [i4 130 i (by omega), g4 130 i (by omega), e01 130 i (by omega), p3' i hi, y2.1 154 i rfl, x4 154 i (by omega) (by omega), w2 i hi]
        exact z3 i hi
      · refine (k9 (r0 + 1) i ?_ ?_ ?_ ?_ ?_ ?_ ?_ ?_ ?_ ?_ ?_ ?_ ?_ ?_ ?_ ?_ ?_ ?_).trans (h4 i hi) <;> omega
