def pS (t : Nat → Nat) (to : Nat) : Nat → Nat
  | 0 => 0
  | j + 1 => adv t to (pS t to j)
def endS (t : Nat → Nat) (n k : Nat) (y : SS) (f : Bool) : Prop := k ≤ min n 60 ∧ mn t 0 k (0, none) = some y ∧ (f = false → (k = min n 60 → ery y ∨ 60 < n) ∧ (k < min n 60 → smS (t k) y = none)) ∧ (f = true → k = min n 60 ∧ n ≤ 60 ∧ ¬ ery y)
def actsR (T : St) (t : Nat → Nat) (to L : Nat) : Prop := L ≤ 30 ∧ pS t to L = to ∧ gI T 122 35 = nI L ∧ ∀ j, j < L → pS t to j < to ∧ okA t to (pS t to j) ∧ dtA T t j (pS t to j)
theorem sl_m {T0 : St} {to : Nat} {t : Nat → Nat} (h0 : TaM T0 0 to t) (h35 : gI T0 122 35 = nI 0) (hto : to ≤ 60) (x1 : Int32) (e : Int32 → St → Option (Int32 × St)) : ∃ T' k y f, lp (f_X11_season_19b x1 e) FU 1 T0 = e (flI f) T' ∧ TaM T' k to t ∧ sF T0 T' 0 ∧ mn t 0 k (0, none) = some y ∧ (f = false → (k = to → ery y) ∧ (k < to → smS (t k) y = none)) ∧ (f = true → k = to ∧ ¬ ery y ∧ ∃ L, actsR T' t to L) := by
  have key : ∀ n j T y, to - pS t to j + 1 < n → 2 * j ≤ pS t to j → TaM T (pS t to j) to t → gI T 122 35 = nI j → sF T0 T 0 → mn t 0 (pS t to j) (0, none) = some y → bdy t to (pS t to j) y → (∀ i, i < j → pS t to i < to ∧ okA t to (pS t to i) ∧ dtA T t i (pS t to i)) → ∃ T' k y f, lp (f_X11_season_19b x1 e) n 1 T = e (flI f) T' ∧ TaM T' k to t ∧ sF T0 T' 0 ∧ mn t 0 k (0, none) = some y ∧ (f = false → (k = to → ery y) ∧ (k < to → smS (t k) y = none)) ∧ (f = true → k = to ∧ ¬ ery y ∧ ∃ L, actsR T' t to L) := by
    intro n
    induction n with
    | zero => intro j T y h; omega
    | succ n ih =>
      intro j T y hn hj2 hT hj hF hm hb hd
      have hle := hT.2.2.2.1
      have st : f_X11_season_19b x1 e (lp (f_X11_season_19b x1 e) n) 1 T = if to ≤ pS t to j then e 1 T else bd (f_X11_readsAct T) (fun r16 S17 => lp (f_X11_season_19b x1 e) n r16 S17) := by
        unfold f_X11_season_19b
        rw [if_neg (show ¬ (1 : Int32) = 0 by decide), hT.1, hT.2.1]
        by_cases g : to ≤ pS t to j
        · rw [if_pos (by rw [nLe (by omega) (by omega)]; exact g), if_pos g]
        · rw [if_neg (by rw [nLe (by omega) (by omega)]; exact g), if_neg g]
      show ∃ T' k y f, f_X11_season_19b x1 e (lp (f_X11_season_19b x1 e) n) 1 T = _ ∧ _
      rw [st]
      by_cases g : to ≤ pS t to j
      · rw [if_pos g]
        have ep : pS t to j = to := by omega
        refine ⟨T, to, y, true, rfl, hT.of (hT.1.trans (by rw [ep])) (Nat.le_refl _) rfl (fun _ _ => rfl), hF, by rw [ep] at hm; exact hm, (fun z => by cases z), fun _ => ⟨rfl, ?_, j, by omega, ep, hj, hd⟩⟩
        rintro (z | z)
        · have := hb.1; omega
        · exact hb.2.1 z
      · rw [if_neg g]
        rcases ra_m hT (by omega) hj (by omega) hb with ⟨T', y', r1, r2, r3, r4, r5, r6, r7, r8, r9⟩ | ⟨T', k, y', r1, r2, r3, r4, r5, r6⟩
        · rw [r1, bd_e]
          refine ih (j + 1) T' y' ?_ ?_ r2 r3 (hF.tr r4 (by omega)) ?_ r9 (fun i hi => ?_)
          · show to - adv t to (pS t to j) + 1 < n; omega
          · show 2 * (j + 1) ≤ adv t to (pS t to j); omega
          · show mn t 0 (adv t to (pS t to j)) (0, none) = some y'
            have r8' : mn t (0 + pS t to j) (adv t to (pS t to j) - pS t to j) y = some y' := by rw [Nat.zero_add]; exact r8
            have := mn_add hm r8'
            rw [show pS t to j + (adv t to (pS t to j) - pS t to j) = adv t to (pS t to j) by omega] at this
            exact this
          · by_cases e' : i = j
            · subst e'; exact ⟨by omega, r6, r5⟩
            · obtain ⟨d1, d2, d3, d4, d5, d6⟩ := hd i (by omega)
              refine ⟨d1, d2, ?_, ?_, fun z => ?_, fun z => ?_⟩
              · rw [r4.2.1 139 i (by omega) (by omega) (by omega)]; exact d3
              · rw [r4.2.1 140 i (by omega) (by omega) (by omega)]; exact d4
              · rw [r4.2.1 141 i (by omega) (by omega) (by omega)]; exact d5 z
              · rw [r4.2.1 142 i (by omega) (by omega) (by omega)]; exact d6 z
        · rw [r1, bd_e]
          obtain ⟨n', rfl⟩ : ∃ n', n = n' + 1 := ⟨n - 1, by omega⟩
          have r4' : mn t (0 + pS t to j) k y = some y' := by rw [Nat.zero_add]; exact r4
          refine ⟨T', pS t to j + k, y', false, ?_, r2, hF.tr r3 (by omega), mn_add hm r4', fun _ => ⟨r5, r6⟩, (fun z => by cases z)⟩
          show f_X11_season_19b x1 e _ 0 T' = _
          unfold f_X11_season_19b
          rw [if_pos rfl]; rfl
  exact key FU 0 T0 (0, none) (by show to - 0 + 1 < FU; unfold FU; omega) (by show 2 * 0 ≤ 0; omega) h0 h35 (sF.rf T0 0) rfl ⟨rfl, by simp, fun k hk => by cases hk⟩ (fun i hi => by omega)
def bg4 (T : St) (n : Nat) : St := sI (bgS T (nI (min n 60))) 122 35 0
theorem seas_m {S1 : St} {n : Nat} {t : Nat → Nat} (h10 : gI S1 122 10 = nI n) (hn : n ≤ 80) (hx : ∀ i, i < n → gI S1 128 i = nI (t i) ∧ t i ≤ 255) : ∃ T' k y f, f_X11_season S1 = (if f = true then bd (f_X11_putsBy T') (fun r29 S30 => lp (f_X11_season_64b (fun v32 S33 => lt (sI S33 122 1 (0 : Int32)) (fun S34 => (if (gI S34 122 35) ≤ v32 then f_X11_season_108 v32 (0 : Int32) S34 else f_X11_season_108 v32 (1 : Int32) S34)))) FU (0 : Int32) S30) else some (-1 - nI k, T')) ∧ sF (bg4 (sI S1 122 0 0) n) T' 0 ∧ endS t n k y f ∧ (f = true → ∃ L, actsR T' t n L) := by
  have hA : TaM (bg4 (sI S1 122 0 0) n) 0 (min n 60) t := ⟨rfl, rfl, by omega, by omega, fun i hi => hx i (by omega)⟩
  have em : mnI (nI n) (60 : Int32) = nI (min n 60) := mnNI (a := n) (b := 60) (by omega) (by omega)
  obtain ⟨T', k, y, f, q1, q2, q3, q4, q5, q6⟩ := sl_m hA rfl (by omega) (nI n) (fun v24 S25 => bd (f_X11_faultOf (nI n) (60 : Int32) v24 S25) (fun r26 S27 => (if 0 ≤ r26 then bd (f_X11_putsBy S27) (fun r29 S30 => lp (f_X11_season_64b (fun v32 S33 => lt (sI S33 122 1 (0 : Int32)) (fun S34 => (if (gI S34 122 35) ≤ v32 then f_X11_season_108 v32 (0 : Int32) S34 else f_X11_season_108 v32 (1 : Int32) S34)))) FU (0 : Int32) S30) else some (r26, S27))))
  have fl : f_X11_faultOf (nI n) (60 : Int32) (flI f) T' = some (if f = true ∧ k = min n 60 ∧ n ≤ 60 then 0 else -1 - nI k, T') := flt_m (most := 60) q2 rfl hn (by omega) f
  have kt := q2.2.2.2.1
  have start : f_X11_season S1 = bd (f_X11_faultOf (nI n) (60 : Int32) (flI f) T') (fun r26 S27 => (if 0 ≤ r26 then bd (f_X11_putsBy S27) (fun r29 S30 => lp (f_X11_season_64b (fun v32 S33 => lt (sI S33 122 1 (0 : Int32)) (fun S34 => (if (gI S34 122 35) ≤ v32 then f_X11_season_108 v32 (0 : Int32) S34 else f_X11_season_108 v32 (1 : Int32) S34)))) FU (0 : Int32) S30) else some (r26, S27))) := by
    unfold f_X11_season
    rw [lt_e, begins_m, bd_e, lt_e, show gI (sI S1 122 0 0) 122 10 = nI n from h10, em]
    exact q1
  by_cases g : f = true ∧ k = min n 60 ∧ n ≤ 60
  · rw [if_pos g] at fl
    obtain ⟨g1, g2, g3⟩ := g
    subst g1
    obtain ⟨a1, a2, a3⟩ := q6 rfl
    refine ⟨T', k, y, true, ?_, q3, ⟨by omega, q4, (fun z => by cases z), fun _ => ⟨g2, g3, a2⟩⟩, fun _ => by rw [show min n 60 = n by omega] at a3; exact a3⟩
    rw [start, fl, bd_e, if_pos (show (0 : Int32) ≤ 0 by decide), if_pos rfl]
  · rw [if_neg g] at fl
    refine ⟨T', k, y, false, ?_, q3, ⟨by omega, q4, fun _ => ?_, (fun z => by cases z)⟩, (fun z => by cases z)⟩
    · rw [start, fl, bd_e, if_neg (ng0 (by omega)), if_neg (by simp)]
    · cases f with
      | false => exact ⟨fun z => Or.inl ((q5 rfl).1 z), fun z => (q5 rfl).2 z⟩
      | true =>
        have := (q6 rfl).1
        refine ⟨fun z => Or.inr ?_, fun z => by omega⟩
        apply Decidable.byContradiction
        intro w
        exact g ⟨rfl, z, by omega⟩
/-! the class -/
theorem mn_inv {t : Nat → Nat} {a : Nat} : ∀ k y, mn t a k (0, none) = some y → y.1 ≤ 3 ∧ ∀ l, y.2 = some l → l ≤ 6 := by
  intro k
  induction k with
  | zero => intro y e; obtain rfl := Option.some.inj e; exact ⟨by show 0 ≤ 3; omega, fun l h => by cases h⟩
  | succ k ih =>
    intro y e
    rw [mn_s] at e
    cases g : mn t a k (0, none) with
    | none => rw [g] at e; cases e
    | some z =>
      rw [g] at e
      obtain ⟨i1, i2⟩ := ih z g
      change smS (t (a + k)) z = some y at e
      have act : ∀ s, (smA s).1 ≤ 3 ∧ ∀ l, (smA s).2 = some l → l ≤ 6 := by
        intro s
        refine ⟨?_, fun l hl => ?_⟩
        · show daN s ≤ 3
          unfold daN
          split
          · omega
          · split
            · omega
            · split <;> omega
        · change (if s = 115 then some 0 else none) = some l at hl
          split at hl
          · have := Option.some.inj hl; omega
          · cases hl
      unfold smS at e
      by_cases c : 0 < z.1
      · rw [if_pos c] at e
        split at e
        · obtain rfl := Option.some.inj e
          exact ⟨by show z.1 - 1 ≤ 3; omega, i2⟩
        · cases e
      · rw [if_neg c] at e
        cases h2 : z.2 with
        | none =>
          rw [h2] at e
          change (if daN (t (a + k)) = 0 then none else some (smA (t (a + k)))) = some y at e
          split at e
          · cases e
          · obtain rfl := Option.some.inj e; exact act _
        | some l =>
          rw [h2] at e
          change (if ltN (t (a + k)) = true then (if l = 6 then none else some (0, some (l + 1))) else (if daN (t (a + k)) = 0 ∨ l = 0 then none else some (smA (t (a + k))))) = some y at e
          have l6 := i2 l h2
          split at e
          · split at e
            · cases e
            · obtain rfl := Option.some.inj e
              exact ⟨by show 0 ≤ 3; omega, fun l' hl => by have := Option.some.inj hl; omega⟩
          · split at e
            · cases e
            · obtain rfl := Option.some.inj e; exact act _
theorem doa_c {T : St} {t : Nat → Nat} (h : TxC T t) {p : Nat} (hp : p < 80) : f_X8_digitsOfAct (nI p) T = some (nI (daN (t p)), T) := by
  have w1 : f_X8_within (nI p) (110 : Int32) (110 : Int32) T = some (flI (decide (110 ≤ t p ∧ t p ≤ 110)), T) := wth_c h hp (by decide) (by decide)
  have w2 : f_X8_within (nI p) (120 : Int32) (120 : Int32) T = some (flI (decide (120 ≤ t p ∧ t p ≤ 120)), T) := wth_c h hp (by decide) (by decide)
  have w3 : f_X8_within (nI p) (115 : Int32) (115 : Int32) T = some (flI (decide (115 ≤ t p ∧ t p ≤ 115)), T) := wth_c h hp (by decide) (by decide)
  have w4 : f_X8_within (nI p) (109 : Int32) (109 : Int32) T = some (flI (decide (109 ≤ t p ∧ t p ≤ 109)), T) := wth_c h hp (by decide) (by decide)
  unfold f_X8_digitsOfAct daN
  rw [w1, bd_e]
  by_cases e1 : t p = 110
  · rw [decide_eq_true (show 110 ≤ t p ∧ t p ≤ 110 by omega), if_neg (show ¬ flI true = 0 by decide), if_pos (Or.inl e1)]; rfl
  · rw [decide_eq_false (show ¬ (110 ≤ t p ∧ t p ≤ 110) by omega), if_pos (show flI false = 0 from rfl), w2, bd_e]
    by_cases e2 : t p = 120
    · rw [decide_eq_true (show 120 ≤ t p ∧ t p ≤ 120 by omega), if_neg (show ¬ flI true = 0 by decide), if_pos (Or.inr e2)]; rfl
    · rw [decide_eq_false (show ¬ (120 ≤ t p ∧ t p ≤ 120) by omega), if_pos (show flI false = 0 from rfl), w3, bd_e, if_neg (show ¬ (t p = 110 ∨ t p = 120) by omega)]
      by_cases e3 : t p = 115
      · rw [decide_eq_true (show 115 ≤ t p ∧ t p ≤ 115 by omega), if_neg (show ¬ flI true = 0 by decide), if_pos e3]; rfl
      · rw [decide_eq_false (show ¬ (115 ≤ t p ∧ t p ≤ 115) by omega), if_pos (show flI false = 0 from rfl), w4, bd_e, if_neg e3]
        by_cases e4 : t p = 109
        · rw [decide_eq_true (show 109 ≤ t p ∧ t p ≤ 109 by omega), if_neg (show ¬ flI true = 0 by decide), if_pos e4]; rfl
        · rw [decide_eq_false (show ¬ (109 ≤ t p ∧ t p ≤ 109) by omega), if_pos (show flI false = 0 from rfl), if_neg e4]; rfl
theorem fos_s {T : St} {t : Nat → Nat} (h : TxC T t) {x i : Nat} {y : SS} (hi : i < x) (hx : x ≤ 60) (h1 : y.1 ≤ 3) (h2 : ∀ l, y.2 = some l → l ≤ 6) (e k : Int32 × Int32 × Int32 → St → Option (Int32 × St)) : (∀ y', smS (t i) y = some y' → f_X8_faultOfSeason_17b (nI x) e k (nI y.1, optI y.2, nI i) T = k (nI y'.1, optI y'.2, nI (i + 1)) T) ∧ (smS (t i) y = none → f_X8_faultOfSeason_17b (nI x) e k (nI y.1, optI y.2, nI i) T = some (nI i, T)) := by
  have w1 : f_X8_within (nI i) (48 : Int32) (57 : Int32) T = some (flI (decide (48 ≤ t i ∧ t i ≤ 57)), T) := wth_c h (by omega) (by decide) (by decide)
  have w2 : f_X8_within (nI i) (97 : Int32) (104 : Int32) T = some (flI (decide (97 ≤ t i ∧ t i ≤ 104)), T) := wth_c h (by omega) (by decide) (by decide)
  have w3 : f_X8_within (nI i) (115 : Int32) (115 : Int32) T = some (flI (decide (115 ≤ t i ∧ t i ≤ 115)), T) := wth_c h (by omega) (by decide) (by decide)
  have dl : daN (t i) ≤ 3 := by
    unfold daN
    split
    · omega
    · split
      · omega
      · split <;> omega
  have e82 : ∀ (z : Option Nat) (hz : ∀ l, z = some l → l ≤ 6), f_X8_faultOfSeason_82 (nI x) (optI z) (nI i) k e T = if daN (t i) = 0 ∨ z = some 0 then some (nI i, T) else k (nI (smA (t i)).1, optI (smA (t i)).2, nI (i + 1)) T := by
    intro z hz
    unfold f_X8_faultOfSeason_82 f_X8_faultOfSeason_118 f_X8_faultOfSeason_119
    rw [doa_c h (by omega), bd_e]
    by_cases g0 : daN (t i) = 0
    · rw [if_pos (show nI (daN (t i)) = 0 by rw [g0]; rfl), if_pos (Or.inl g0)]
    · rw [if_neg (show ¬ nI (daN (t i)) = 0 by rw [lit, nEq (by omega) (by omega)]; exact g0)]
      by_cases gz : z = some 0
      · rw [if_pos (show optI z = 0 by rw [gz]; rfl), if_pos (Or.inr gz)]
      · have oz : ¬ optI z = 0 := by
          cases z with
          | none => decide
          | some l =>
            have := hz l rfl
            show ¬ nI l = 0
            rw [lit, nEq (by omega) (by omega)]
            intro q; exact gz (by rw [q])
        rw [if_neg oz, if_neg (fun q => q.elim g0 gz), w3, bd_e, a1]
        unfold smA
        by_cases g5 : t i = 115
        · rw [decide_eq_true (show 115 ≤ t i ∧ t i ≤ 115 by omega), if_neg (show ¬ flI true = 0 by decide), if_pos g5]; rfl
        · rw [decide_eq_false (show ¬ (115 ≤ t i ∧ t i ≤ 115) by omega), if_pos (show flI false = 0 from rfl), if_neg g5]; rfl
  unfold f_X8_faultOfSeason_17b
  dsimp only
  rw [if_neg (show ¬ nI x ≤ nI i by rw [nLe (by omega) (by omega)]; omega)]
  unfold smS
  by_cases c : 0 < y.1
  · rw [if_pos c, if_neg (show ¬ nI y.1 ≤ 0 by rw [lit, nLe (by omega) (by omega)]; omega), w1, bd_e]
    by_cases d : 48 ≤ t i ∧ t i ≤ 57
    · rw [if_pos d, decide_eq_true d, if_neg (show ¬ flI true = 0 by decide)]
      refine ⟨fun y' hy => ?_, fun hn => by cases hn⟩
      obtain rfl := Option.some.inj hy
      unfold f_X8_faultOfSeason_119
      rw [p1 (by omega), a1]
    · rw [if_neg d, decide_eq_false d, if_pos (show flI false = 0 from rfl)]
      exact ⟨(fun y' hy => by cases hy), fun _ => rfl⟩
  · have y0 : y.1 = 0 := by omega
    rw [if_neg c, if_pos (show nI y.1 ≤ 0 by rw [y0]; decide)]
    cases hz : y.2 with
    | none =>
      rw [if_pos (show optI none = (-1 : Int32) by decide), e82 none (fun l hl => by cases hl)]
      by_cases g0 : daN (t i) = 0
      · rw [if_pos (show daN (t i) = 0 ∨ (none : Option Nat) = some 0 from Or.inl g0)]
        refine ⟨fun y' hy => ?_, fun _ => rfl⟩
        change (if daN (t i) = 0 then none else some (smA (t i))) = some y' at hy
        rw [if_pos g0] at hy; cases hy
      · rw [if_neg (show ¬ (daN (t i) = 0 ∨ (none : Option Nat) = some 0) from fun q => q.elim g0 (fun q => by cases q))]
        refine ⟨fun y' hy => ?_, fun hn => ?_⟩
        · change (if daN (t i) = 0 then none else some (smA (t i))) = some y' at hy
          rw [if_neg g0] at hy
          obtain rfl := Option.some.inj hy
          rfl
        · change (if daN (t i) = 0 then none else some (smA (t i))) = none at hn
          rw [if_neg g0] at hn; cases hn
    | some l =>
      have l6 := h2 l hz
      rw [if_neg (show ¬ optI (some l) = (-1 : Int32) from nne (by omega)), w2, bd_e]
      by_cases gl : ltN (t i) = true
      · have gl' := of_decide_eq_true gl
        rw [decide_eq_true gl', if_neg (show ¬ flI true = 0 by decide)]
        by_cases g6 : l = 6
        · rw [if_pos (show optI (some l) = (6 : Int32) by rw [g6]; rfl)]
          refine ⟨fun y' hy => ?_, fun _ => rfl⟩
          change (if ltN (t i) = true then (if l = 6 then none else some (0, some (l + 1))) else _) = some y' at hy
          rw [if_pos gl, if_pos g6] at hy; cases hy
        · rw [if_neg (show ¬ optI (some l) = (6 : Int32) by show ¬ nI l = (6 : Int32); rw [show (6 : Int32) = nI 6 from rfl, nEq (by omega) (by omega)]; exact g6)]
          refine ⟨fun y' hy => ?_, fun hn => ?_⟩
          · change (if ltN (t i) = true then (if l = 6 then none else some (0, some (l + 1))) else _) = some y' at hy
            rw [if_pos gl, if_neg g6] at hy
            obtain rfl := Option.some.inj hy
            unfold f_X8_faultOfSeason_119
            rw [show optI (some l) + (1 : Int32) = optI (some (l + 1)) from a1 l, a1, y0]
          · change (if ltN (t i) = true then (if l = 6 then none else some (0, some (l + 1))) else _) = none at hn
            rw [if_pos gl, if_neg g6] at hn; cases hn
      · rw [decide_eq_false (fun q => gl (decide_eq_true q)), if_pos (show flI false = 0 from rfl), e82 (some l) (fun l' hl => by have := Option.some.inj hl; omega)]
        by_cases g0 : daN (t i) = 0 ∨ l = 0
        · rw [if_pos (show daN (t i) = 0 ∨ some l = some 0 by
            rcases g0 with q | q
            · exact Or.inl q
            · exact Or.inr (by rw [q]))]
          refine ⟨fun y' hy => ?_, fun _ => rfl⟩
          change (if ltN (t i) = true then _ else (if daN (t i) = 0 ∨ l = 0 then none else some (smA (t i)))) = some y' at hy
          rw [if_neg gl, if_pos g0] at hy; cases hy
        · rw [if_neg (show ¬ (daN (t i) = 0 ∨ some l = some 0) from fun q => g0 (by
            rcases q with q | q
            · exact Or.inl q
            · exact Or.inr (Option.some.inj q)))]
          refine ⟨fun y' hy => ?_, fun hn => ?_⟩
          · change (if ltN (t i) = true then _ else (if daN (t i) = 0 ∨ l = 0 then none else some (smA (t i)))) = some y' at hy
            rw [if_neg gl, if_neg g0] at hy
            obtain rfl := Option.some.inj hy
            rfl
          · change (if ltN (t i) = true then _ else (if daN (t i) = 0 ∨ l = 0 then none else some (smA (t i)))) = none at hn
            rw [if_neg gl, if_neg g0] at hn; cases hn
