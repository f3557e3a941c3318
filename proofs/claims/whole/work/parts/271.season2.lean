theorem m1' {g : Nat} (h : 1 ≤ g) : nI g - (1 : Int32) = nI (g - 1) := m1 h
theorem nmk {k : Nat} (h : k ≤ 3) : ¬ nI k < (0 : Int32) := nn0 k (by omega)
theorem ra_m {T : St} {a to j : Nat} {t : Nat → Nat} {y : SS} (h : TaM T a to t) (hlt : a < to) (h35 : gI T 122 35 = nI j) (hj : j < 60) (hb : bdy t to a y) : (∃ T' y', f_X11_readsAct T = some (1, T') ∧ TaM T' (adv t to a) to t ∧ gI T' 122 35 = nI (j + 1) ∧ sF T T' j ∧ dtA T' t j a ∧ okA t to a ∧ a + 2 ≤ adv t to a ∧ mn t a (adv t to a - a) y = some y' ∧ bdy t to (adv t to a) y') ∨ (∃ T' k y', f_X11_readsAct T = some (0, T') ∧ TaM T' (a + k) to t ∧ sF T T' j ∧ mn t a k y = some y' ∧ (a + k = to → ery y') ∧ (a + k < to → smS (t (a + k)) y' = none)) := by
  have h255 := (h.2.2.2.2 a hlt).2
  have hto := h.2.2.1
  have w : inb (nI j) 60 := by rw [inb_nI (by omega)]; omega
  have ij : (nI j).toNatClampNeg = j := nI_t (by omega)
  obtain ⟨tf1, tf2⟩ := takesOf_m (si := 4) h (by omega)
  have ix := ix_4 (t a) (by omega)
  unfold f_X11_readsAct
  rw [h35, lt_e]
  by_cases c0 : daN (t a) = 0
  · rw [if_pos c0] at ix
    have e1 : gI (sI T 139 j (-1)) 122 35 = nI j := h35
    have e2 : gI (sI (sI T 139 j (-1)) 122 35 (nI (j + 1))) 139 j = -1 := by rw [gI_s, if_neg (by decide), gI_s, if_pos rfl, if_pos rfl]
    refine Or.inr ⟨sI (sI T 139 j (-1)) 122 35 (nI (j + 1)), 0, y, ?_, h.of h.1 h.2.2.2.1 rfl (fun _ _ => rfl), ((sF.rf T j).s (by omega)).s (by omega), rfl, fun z => by omega, fun _ => sm_not hb hlt c0⟩
    rw [tf2 (fun _ => ix), bd_e]
    simp only [if_pos w, ij, lt_e, e1, a1, e2, if_neg n0m]
  · rw [if_neg c0] at ix
    have kd := kd_da c0
    have k3 : kdN (t a) ≤ 3 := by omega
    have m1 : mn t a 1 y = some (smA (t a)) := by rw [mn_1]; exact sm_act hb c0
    rw [tf1 _ hlt ix, bd_e]
    -- behind the sign
    have e1 : gI (sI (sI T 122 11 (nI (a + 1))) 139 j (nI (kdN (t a)))) 122 35 = nI j := h35
    have e2 : gI (sI (sI (sI T 122 11 (nI (a + 1))) 139 j (nI (kdN (t a)))) 122 35 (nI (j + 1))) 139 j = nI (kdN (t a)) := by rw [gI_s, if_neg (by decide), gI_s, if_pos rfl, if_pos rfl]
    have hT1 : TaM (sI (sI (sI T 122 11 (nI (a + 1))) 139 j (nI (kdN (t a)))) 122 35 (nI (j + 1))) (a + 1) to t := h.of rfl (by omega) rfl (fun _ _ => rfl)
    have hF1 : sF T (sI (sI (sI T 122 11 (nI (a + 1))) 139 j (nI (kdN (t a)))) 122 35 (nI (j + 1))) j := (((sF.rf T j).s (by omega)).s (by omega)).s (by omega)
    have e35 : gI (sI (sI (sI T 122 11 (nI (a + 1))) 139 j (nI (kdN (t a)))) 122 35 (nI (j + 1))) 122 35 = nI (j + 1) := rfl
    simp only [if_pos w, ij, lt_e, e1, a1, e2, if_pos (n0p (kdN (t a)) (by omega))]
    generalize hA1 : sI (sI (sI T 122 11 (nI (a + 1))) 139 j (nI (kdN (t a)))) 122 35 (nI (j + 1)) = A1 at hT1 hF1 e35 e2
    cases gd : dgB t to (a + 1) with
    | false =>
      have e3 : gI (sI A1 140 j (-1)) 140 j = -1 := by rw [gI_s, if_pos rfl, if_pos rfl]
      have ng : a + 1 < to → ¬ (48 ≤ t (a + 1) ∧ t (a + 1) ≤ 57) := fun q z => by
        have : dgB t to (a + 1) = true := decide_eq_true ⟨q, z⟩
        rw [gd] at this; cases this
      refine Or.inr ⟨sI A1 140 j (-1), 1, smA (t a), ?_, hT1.of hT1.1 hT1.2.2.2.1 rfl (fun _ _ => rfl), hF1.s (by omega), m1, fun _ => Or.inl (by show 0 < daN (t a); omega), fun q => ?_⟩
      · rw [num_n hT1 1 gd, bd_e]
        unfold f_X11_readsAct_69
        simp only [if_pos w, ij, lt_e, e3, if_pos (show (-1 : Int32) < 0 by decide)]
      · unfold smA
        obtain ⟨g, hg⟩ : ∃ g, daN (t a) = g + 1 := ⟨daN (t a) - 1, by omega⟩
        rw [hg]
        exact sm_nod (ng q)
    | true =>
      have gd' := of_decide_eq_true gd
      have b1 := (hT1.2.2.2.2 _ gd'.1).2
      have e3 : gI (sI (sI A1 122 11 (nI (a + 1 + 1))) 140 j (nI (t (a + 1) - 48))) 140 j = nI (t (a + 1) - 48) := by rw [gI_s, if_pos rfl, if_pos rfl]
      have e4 : gI (sI (sI A1 122 11 (nI (a + 1 + 1))) 140 j (nI (t (a + 1) - 48))) 139 j = nI (kdN (t a)) := e2
      have hT2 : TaM (sI (sI A1 122 11 (nI (a + 1 + 1))) 140 j (nI (t (a + 1) - 48))) (a + 2) to t := hT1.of rfl (by omega) rfl (fun _ _ => rfl)
      have hF2 : sF T (sI (sI A1 122 11 (nI (a + 1 + 1))) 140 j (nI (t (a + 1) - 48))) j := (hF1.s (by omega)).s (by omega)
      have e352 : gI (sI (sI A1 122 11 (nI (a + 1 + 1))) 140 j (nI (t (a + 1) - 48))) 122 35 = nI (j + 1) := e35
      rw [num1_y hT1 gd, bd_e]
      unfold f_X11_readsAct_69
      simp only [if_pos w, ij, lt_e, e3, if_neg (nn0 (t (a + 1) - 48) (by omega)), e4]
      generalize hA2 : sI (sI A1 122 11 (nI (a + 1 + 1))) 140 j (nI (t (a + 1) - 48)) = A2 at hT2 hF2 e352 e3 e4
      obtain ⟨g, hg⟩ : ∃ g, daN (t a) = g + 1 := ⟨daN (t a) - 1, by omega⟩
      have m2 : mn t a 2 y = some (g, (smA (t a)).2) := by
        rw [mn_s, m1]
        show smS (t (a + 1)) (daN (t a), (smA (t a)).2) = _
        rw [hg]
        exact sm_dig gd'.2
      by_cases ck : kdN (t a) ≤ 1
      · have e2k : ¬ (2 : Int32) ≤ nI (kdN (t a)) := by rw [show (2 : Int32) = nI 2 from rfl, nLe (by omega) (by omega)]; omega
        have ea : adv t to a = a + 2 := by unfold adv; rw [if_pos ck]
        refine Or.inl ⟨A2, (g, (smA (t a)).2), ?_, ?_, e352, hF2, ⟨e4, e3, fun z => by omega, fun z => by omega⟩, ⟨c0, by omega, gd'.2, fun z => by omega, fun z => by omega, fun z => by omega⟩, by omega, ?_, ?_⟩
        · rw [if_neg e2k]
        · rw [ea]; exact hT2
        · rw [ea, show a + 2 - a = 2 by omega]; exact m2
        · have n115 : t a ≠ 115 := by omega
          refine ⟨by show g = 0; omega, ?_, fun k hk => ?_⟩
          · show (if t a = 115 then some 0 else none) ≠ some 0
            rw [if_neg n115]; simp
          · change (if t a = 115 then some 0 else none) = some k at hk
            rw [if_neg n115] at hk; cases hk
      · have e2k : (2 : Int32) ≤ nI (kdN (t a)) := by rw [show (2 : Int32) = nI 2 from rfl, nLe (by omega) (by omega)]; omega
        rw [if_pos e2k]
        obtain ⟨g', hg'⟩ : ∃ g', g = g' + 1 := ⟨g - 1, by omega⟩
        cases gd2 : dgB t to (a + 2) with
        | false =>
          have ng : a + 2 < to → ¬ (48 ≤ t (a + 2) ∧ t (a + 2) ≤ 57) := fun q z => by
            have : dgB t to (a + 2) = true := decide_eq_true ⟨q, z⟩
            rw [gd2] at this; cases this
          have e5 : gI (sI A2 141 j (-1)) 141 j = -1 := by rw [gI_s, if_pos rfl, if_pos rfl]
          refine Or.inr ⟨sI A2 141 j (-1), 2, (g, (smA (t a)).2), ?_, hT2.of hT2.1 hT2.2.2.2.1 rfl (fun _ _ => rfl), hF2.s (by omega), m2, fun _ => Or.inl (by show 0 < g; omega), fun q => ?_⟩
          · rw [num_n hT2 1 gd2, bd_e]
            simp only [lt_e, e5, if_neg n0m]
          · rw [hg']; exact sm_nod (ng q)
        | true =>
          have gd2' := of_decide_eq_true gd2
          have b2 := (hT2.2.2.2.2 _ gd2'.1).2
          have e5 : gI (sI (sI A2 122 11 (nI (a + 2 + 1))) 141 j (nI (t (a + 2) - 48))) 141 j = nI (t (a + 2) - 48) := by rw [gI_s, if_pos rfl, if_pos rfl]
          have e6 : gI (sI (sI A2 122 11 (nI (a + 2 + 1))) 141 j (nI (t (a + 2) - 48))) 139 j = nI (kdN (t a)) := e4
          have e7 : gI (sI (sI A2 122 11 (nI (a + 2 + 1))) 141 j (nI (t (a + 2) - 48))) 140 j = nI (t (a + 1) - 48) := e3
          have hT3 : TaM (sI (sI A2 122 11 (nI (a + 2 + 1))) 141 j (nI (t (a + 2) - 48))) (a + 3) to t := hT2.of rfl (by omega) rfl (fun _ _ => rfl)
          have hF3 : sF T (sI (sI A2 122 11 (nI (a + 2 + 1))) 141 j (nI (t (a + 2) - 48))) j := (hF2.s (by omega)).s (by omega)
          have e353 : gI (sI (sI A2 122 11 (nI (a + 2 + 1))) 141 j (nI (t (a + 2) - 48))) 122 35 = nI (j + 1) := e352
          rw [num1_y hT2 gd2, bd_e]
          simp only [lt_e, e5, if_pos (n0p (t (a + 2) - 48) (by omega)), e6]
          generalize hA3 : sI (sI A2 122 11 (nI (a + 2 + 1))) 141 j (nI (t (a + 2) - 48)) = A3 at hT3 hF3 e353 e5 e6 e7
          have m3 : mn t a 3 y = some (g', (smA (t a)).2) := by
            rw [mn_s, m2, hg']
            exact sm_dig gd2'.2
          unfold f_X11_readsAct_135
          by_cases c2 : kdN (t a) = 2
          · have s115 : t a = 115 := by omega
            have g0 : g' = 0 := by omega
            have m3' : mn t a 3 y = some (0, some 0) := by
              rw [m3, g0]
              show some (0, if t a = 115 then some 0 else none) = _
              rw [if_pos s115]
            obtain ⟨T4, l1, l2, l3, l4⟩ := lets_m hT3
            have lc6 : lcN t to (a + 3) ≤ 6 := by unfold lcN; omega
            obtain ⟨ld1, ld2, ld3⟩ := ld_a (fun i => ltN (t (a + 3 + i))) (to - (a + 3))
            have lct : a + 3 + lcN t to (a + 3) ≤ to := by unfold lcN; omega
            have lcl : ∀ i, i < lcN t to (a + 3) → ltN (t (a + 3 + i)) = true := fun i hi => ld2 i (by unfold lcN at hi; omega)
            have m4 := mn_add m3' (mn_let (lcN t to (a + 3)) lc6 lcl)
            have hF4 : sF T T4 j := by
              refine hF3.tr (j' := j) ⟨fun o k q1 q2 => l3 o k (by omega) (by omega), fun o k q1 q2 q3 => l3 o k (by omega) (by omega), l4⟩ (by omega)
            have hT4 : TaM T4 (a + 3 + lcN t to (a + 3)) to t := hT3.of l2 lct (l3 122 12 (by decide) (by decide)) (fun i _ => l3 128 i (by decide) (Or.inl (by decide)))
            rw [if_pos (show nI (kdN (t a)) = (2 : Int32) by rw [c2]; rfl), l1, bd_e]
            by_cases lz : lcN t to (a + 3) = 0
            · have e8 : nI (lcN t to (a + 3)) - (1 : Int32) = -1 := by rw [lz]; decide
              have e9 : gI (sI T4 142 j (-1)) 142 j = -1 := by rw [gI_s, if_pos rfl, if_pos rfl]
              rw [lz, Nat.add_zero] at hT4
              refine Or.inr ⟨sI T4 142 j (-1), 3, (0, some 0), ?_, hT4.of hT4.1 hT4.2.2.2.1 rfl (fun _ _ => rfl), hF4.s (by omega), m3', fun _ => Or.inr rfl, fun q => ?_⟩
              · rw [e8]
                simp only [if_pos w, ij, lt_e, e9, if_pos (show (-1 : Int32) < 0 by decide)]
              · have nl : ltN (t (a + 3)) = false := by
                  have z0 : ldN (fun i => ltN (t (a + 3 + i))) (to - (a + 3)) = 0 := by unfold lcN at lz; omega
                  have := ld3 (by omega)
                  rw [z0] at this
                  exact this
                unfold smS
                rw [if_neg (by show ¬ 0 < 0; omega)]
                show (if ltN (t (a + 3)) = true then _ else (if daN (t (a + 3)) = 0 ∨ 0 = 0 then none else some (smA (t (a + 3))))) = _
                rw [if_neg (by rw [nl]; simp), if_pos (Or.inr rfl)]
            · have e8 : nI (lcN t to (a + 3)) - (1 : Int32) = nI (lcN t to (a + 3) - 1) := m1' (by omega)
              have e9 : gI (sI T4 142 j (nI (lcN t to (a + 3) - 1))) 142 j = nI (lcN t to (a + 3) - 1) := by rw [gI_s, if_pos rfl, if_pos rfl]
              have ea : adv t to a = a + 3 + lcN t to (a + 3) := by unfold adv; rw [if_neg ck, if_neg (by omega)]
              refine Or.inl ⟨sI T4 142 j (nI (lcN t to (a + 3) - 1)), (0, some (lcN t to (a + 3))), ?_, ?_, ?_, hF4.s (by omega), ⟨?_, ?_, fun _ => ?_, fun z => by omega⟩, ⟨c0, by omega, gd'.2, fun _ => gd2'.2, fun z => by omega, fun _ => by omega⟩, by omega, ?_, ?_⟩
              · rw [e8]
                simp only [if_pos w, ij, lt_e, e9, if_neg (nn0 (lcN t to (a + 3) - 1) (by omega))]
              · rw [ea]; exact hT4.of hT4.1 hT4.2.2.2.1 rfl (fun _ _ => rfl)
              · show gI T4 122 35 = _
                rw [l3 122 35 (by decide) (by decide)]; exact e353
              · show gI T4 139 j = _
                rw [l3 139 j (by omega) (by omega)]; exact e6
              · show gI T4 140 j = _
                rw [l3 140 j (by omega) (by omega)]; exact e7
              · show gI T4 141 j = _
                rw [l3 141 j (by omega) (by omega)]; exact e5
              · rw [ea, show a + 3 + lcN t to (a + 3) - a = 3 + lcN t to (a + 3) by omega]; exact m4
              · refine ⟨rfl, fun z => lz (Option.some.inj z), fun k hk => ?_⟩
                have := Option.some.inj hk
                subst this
                refine ⟨lc6, fun q1 q2 => ?_⟩
                rw [ea] at q2 ⊢
                have z0 : ldN (fun i => ltN (t (a + 3 + i))) (to - (a + 3)) = lcN t to (a + 3) := by unfold lcN at q1 ⊢; omega
                have := ld3 (by rw [z0]; omega)
                rw [z0] at this
                exact this
          · have s109 : kdN (t a) = 3 ∧ t a = 109 := by omega
            have g1 : g' = 0 + 1 := by omega
            have n115 : t a ≠ 115 := by omega
            have sm2 : (smA (t a)).2 = none := by
              show (if t a = 115 then some 0 else none) = none
              rw [if_neg n115]
            rw [g1, sm2] at m3
            rw [if_neg (show ¬ nI (kdN (t a)) = (2 : Int32) by rw [s109.1]; decide)]
            cases gd3 : dgB t to (a + 3) with
            | false =>
              have ng : a + 3 < to → ¬ (48 ≤ t (a + 3) ∧ t (a + 3) ≤ 57) := fun q z => by
                have : dgB t to (a + 3) = true := decide_eq_true ⟨q, z⟩
                rw [gd3] at this; cases this
              have e8 : gI (sI A3 142 j (-1)) 142 j = -1 := by rw [gI_s, if_pos rfl, if_pos rfl]
              refine Or.inr ⟨sI A3 142 j (-1), 3, (0 + 1, none), ?_, hT3.of hT3.1 hT3.2.2.2.1 rfl (fun _ _ => rfl), hF3.s (by omega), m3, fun _ => Or.inl (by show 0 < 0 + 1; omega), fun q => sm_nod (ng q)⟩
              rw [num_n hT3 1 gd3, bd_e]
              simp only [if_pos w, ij, lt_e, e8, if_pos (show (-1 : Int32) < 0 by decide)]
            | true =>
              have gd3' := of_decide_eq_true gd3
              have b3 := (hT3.2.2.2.2 _ gd3'.1).2
              have ea : adv t to a = a + 4 := by unfold adv; rw [if_neg ck, if_pos s109.1]
              have e8 : gI (sI (sI A3 122 11 (nI (a + 3 + 1))) 142 j (nI (t (a + 3) - 48))) 142 j = nI (t (a + 3) - 48) := by rw [gI_s, if_pos rfl, if_pos rfl]
              refine Or.inl ⟨sI (sI A3 122 11 (nI (a + 3 + 1))) 142 j (nI (t (a + 3) - 48)), (0, none), ?_, ?_, e353, (hF3.s (by omega)).s (by omega), ⟨e6, e7, fun _ => e5, fun _ => e8⟩, ⟨c0, by omega, gd'.2, fun _ => gd2'.2, fun _ => gd3'.2, fun z => by omega⟩, by omega, ?_, ?_⟩
              · rw [num1_y hT3 gd3, bd_e]
                simp only [if_pos w, ij, lt_e, e8, if_neg (nn0 (t (a + 3) - 48) (by omega))]
              · rw [ea]; exact hT3.of rfl (by omega) rfl (fun _ _ => rfl)
              · rw [ea, show a + 4 - a = 3 + 1 by omega, mn_s, m3]
                exact sm_dig gd3'.2
              · exact ⟨rfl, by simp, fun k hk => by cases hk⟩
