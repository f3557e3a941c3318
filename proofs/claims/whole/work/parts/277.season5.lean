theorem ad28 {u : Nat} {B : St} {a b : Nat} (h : a ≠ 137) (h2 : a ≠ 122 ∨ b ≠ 28) : gI (adS u B) a b = gI B a b := by
  unfold adS
  split
  · rw [gI_s]
    by_cases e : a = 122
    · rw [if_pos e, if_neg (by omega)]
    · rw [if_neg e]
  · rw [gI_s]
    by_cases e : a = 122
    · rw [if_pos e, if_neg (by omega), gI_r, if_neg h, gI_s, if_pos e, if_neg (by omega)]
    · rw [if_neg e, gI_r, if_neg h, gI_s, if_neg e]
theorem adS_L {u : Nat} {B : St} {a b : Nat} : gL (adS u B) a b = gL B a b := by
  unfold adS
  split <;> rfl
theorem sF.q {T T' : St} {j : Nat} (h : sF T T' j) : QM T T' := by
  refine ⟨fun a b hab => h.1 a b ?_ ?_, fun a b _ => h.2.2 a b⟩
  · have e : ∀ q, 138 ≤ q → q ≤ 142 → a ≠ q := by
      intro q q1 q2 e
      subst e
      have : PM a b = false := by
        unfold PM scr2
        rw [scr_al (by
          have : a = 138 ∨ a = 139 ∨ a = 140 ∨ a = 141 ∨ a = 142 := by omega
          rcases this with rfl | rfl | rfl | rfl | rfl <;> decide) b, decide_eq_false (by omega)]
        rfl
      rw [this] at hab; cases hab
    apply Decidable.byContradiction
    intro z
    exact e a (by omega) (by omega) rfl
  · by_cases e : a = 122
    · subst e
      refine Or.inr ⟨fun e2 => ?_, fun e2 => ?_⟩
      · subst e2; cases hab
      · subst e2; cases hab
    · exact Or.inl e
theorem bg4_o {T : St} {n a b : Nat} (h : a ≠ 122 ∨ (b ≠ 10 ∧ b ≠ 11 ∧ b ≠ 12 ∧ b ≠ 13 ∧ b ≠ 35)) : gI (bg4 T n) a b = gI T a b := by
  unfold bg4 bgS
  by_cases e : a = 122
  · subst e
    rw [gI_s, if_pos rfl, if_neg (by omega), gI_s, if_pos rfl, if_neg (by omega), gI_s, if_pos rfl, if_neg (by omega), gI_s, if_pos rfl, if_neg (by omega), gI_s, if_pos rfl, if_neg (by omega)]
  · rw [gI_s, if_neg e, gI_s, if_neg e, gI_s, if_neg e, gI_s, if_neg e, gI_s, if_neg e]
theorem pS_un {t : Nat → Nat} {n L L' : Nat} (h : pS t n L = n) (h' : pS t n L' = n) (a : ∀ j, j < L → pS t n j < n) (a' : ∀ j, j < L' → pS t n j < n) : L' = L := by
  by_cases l1 : L < L'
  · have := a' L l1; omega
  · by_cases l2 : L' < L
    · have := a L' l2; omega
    · omega
set_option maxRecDepth 16384 in
theorem eq_season : EQ1 RelP f_X10_season f_X11_season := by
  apply EQ1.of
  intro S hS
  obtain ⟨n, t, n1, n2, n3, n4, n5⟩ := txt hS.1
  have hx : ∀ i, i < n → gI S 128 i = nI (t i) ∧ t i ≤ 255 := fun i hi => ⟨n5 i hi, (n4 i (by omega)).2⟩
  obtain ⟨_, k, y, f, _, _, hE, hL⟩ := seas_m (S1 := S) n3 n1 hx
  have fo := fos_c n4 n2 n1 hE
  have hk := hE.1
  cases f with
  | false =>
    have cls : f_X10_season S = some (-1 - nI k, sI S 1 1 0) := by
      unfold f_X10_season
      rw [fo, if_neg (show ¬ false = true by simp), bd_e, if_neg (nne (show k < 2147483648 by omega)), lt_e]
    refine ⟨_, _, cls, ?_⟩
    obtain ⟨T', k', y', f', q1, q2, q3, _⟩ := seas_m (S1 := sI S 1 1 0) n3 n1 hx
    obtain ⟨rfl, rfl⟩ := hE.un q3
    rw [if_neg (show ¬ false = true by simp)] at q1
    refine ⟨_, T', q1, rfl, ?_⟩
    have q0 : QM (sI (sI S 1 1 0) 122 10 0) (bg4 (sI (sI S 1 1 0) 122 0 0) n) := by
      unfold bg4 bgS
      exact (((smcg (q00 (sI S 1 1 0) 0) 122 10 0).sI rfl).sI rfl |>.sI rfl).sI rfl
    refine relT hS (Sm.rf _) (q0.tr q2.q) rfl (fun _ => rfl) ?_ (fun k => ?_)
    · rw [q2.1 122 1 (by decide) (by decide)]; rfl
    · rw [q2.2.2 123 k]; rfl
  | true =>
    obtain ⟨L, l1, l2, l3, l4⟩ := hL rfl
    have hn60 := (hE.2.2.2 rfl).2.1
    obtain ⟨m, u, fh, hR, hO, hN, hw⟩ := hS.r
    obtain ⟨c, ok, hC, hM⟩ := hS.cv
    have h12 := ok12 ok
    have hm : m = cm c := by
      have e1 := hR.2.1.2.1
      have e2 := hC.1
      have e3 := hR.2.1.1
      rw [e2, nEq (by omega) (by omega)] at e1
      exact e1.symm
    subst hm
    have hw' := id hw
    obtain ⟨hu, hf, w2, w28, w1, _⟩ := hw'
    have CN0 : CN S (gI S 126) := by
      refine ⟨fun i hi => ?_, hN.2.1, hN.2.2.1, hN.2.2.2⟩
      obtain ⟨a1, a2, a3⟩ := hN.1 i hi
      rw [show 0 + i = i by omega] at a1
      rw [show 0 + 12 + i = 12 + i by omega] at a2
      rw [show 0 + 24 + i = 24 + i by omega] at a3
      exact ⟨a1, a2, a3⟩
    have Ok0 : OkW (cm c) (gI S 126) := by
      obtain ⟨o1, o2, o3⟩ := hO
      refine ⟨fun i hi => ?_, ?_, ?_⟩
      · obtain ⟨a1, a2, a3⟩ := CN0.1 i (by omega)
        rw [← a1, ← a2, ← a3]; exact o1 i hi
      · rw [← CN0.2.1]; exact o2
      · rw [← CN0.2.2.2]; exact o3
    have hA : ∀ j, j < L → pS t n j < n ∧ okA t n (pS t n j) := fun j hj => ⟨(l4 j hj).1, (l4 j hj).2.1⟩
    obtain ⟨d1, d2, d3⟩ := ld_a (fun j => (actA c t n j (wS c t n (gI S 126) j)).isSome) L
    generalize hd : ldN (fun j => (actA c t n j (wS c t n (gI S 126) j)).isSome) L = d at d1 d2 d3
    have OkD := wS_ok ok Ok0 hA d d1
    -- the class
    have mk := mark_e hw
    have off : ∀ a b, (a < 14 ∨ 77 < a) → gI (tk S (14 + 4 * ((fh + u) % 16)) 6) a b = gI S a b := fun a b h => tk_off (by omega)
    have offL : ∀ a b, gL (tk S (14 + 4 * ((fh + u) % 16)) 6) a b = gL S a b := fun a b => rfl
    generalize hAA : tk S (14 + 4 * ((fh + u) % 16)) 6 = A at mk off offL
    have CNA : CN A (gI S 126) := by
      refine ⟨fun i hi => ?_, (off _ _ (by omega)).trans CN0.2.1, (off _ _ (by omega)).trans CN0.2.2.1, (off _ _ (by omega)).trans CN0.2.2.2⟩
      rw [off 7 i (by omega), off 8 i (by omega), off 9 i (by omega)]; exact CN0.1 i hi
    have CEA : CE A c := by
      refine ⟨(off _ _ (by omega)).trans hC.1, fun i hi => ?_⟩
      rw [off 4 i (by omega), off 5 i (by omega)]
      exact ⟨(hC.2.1 i hi).1, (hC.2.1 i hi).2.1⟩
    have TxA : TxC A t := fun i hi => by rw [off 2 i (by omega)]; exact n4 i hi
    obtain ⟨T1, z, s1, s2, s3⟩ := sc_l ok Ok0 CEA CNA TxA ((off _ _ (by omega)).trans n2) hn60 l1 l2 hA d1 d2 d3 (fun v27 S28 => lt (sI S28 1 1 (0 : Int32)) (fun S29 => (if v27.1 ≤ 0 then f_X10_season_131 v27.1 v27.2.1 (0 : Int32) S29 else f_X10_season_131 v27.1 v27.2.1 (1 : Int32) S29)))
    have o1 : ∀ a b, a ≠ 6 → a ≠ 7 → a ≠ 8 → a ≠ 9 → a ≠ 92 → a ≠ 93 → a ≠ 94 → (a < 14 ∨ 77 < a) → (a ≠ 1 ∨ b ≠ 1) → gI (sI T1 1 1 0) a b = gI S a b := by
      intro a b h6 h7 h8 h9 h2 h3 h4 h5 h1
      rw [gI_s]
      have e0 : gI T1 a b = gI S a b := (s2.1 a b h6 h7 h8 h9 h2 h3 h4).trans (off a b h5)
      by_cases e : a = 1
      · rw [if_pos e, if_neg (by omega)]; exact e0
      · rw [if_neg e]; exact e0
    have i2 : gI (sI T1 1 1 0) 12 2 = nI u := (o1 12 2 (by omega) (by omega) (by omega) (by omega) (by omega) (by omega) (by omega) (by omega) (by omega)).trans w2
    have i1 : gI (sI T1 1 1 0) 12 1 = nI fh := (o1 12 1 (by omega) (by omega) (by omega) (by omega) (by omega) (by omega) (by omega) (by omega) (by omega)).trans w1
    obtain ⟨T3, t1, t2, t3, t4⟩ : ∃ T3, f_X4_settle (flI (decide (0 < d))) (sI T1 1 1 0) = some ((), T3) ∧ (∀ a b, a ≠ 12 → gI T3 a b = gI (sI T1 1 1 0) a b) ∧ (∀ k, gI T3 12 k = if d = 0 then gI (sI T1 1 1 0) 12 k else gI (stS u fh (sI T1 1 1 0)) 12 k) ∧ ∀ a b, gL T3 a b = gL (sI T1 1 1 0) a b := by
      by_cases d0 : d = 0
      · refine ⟨sI T1 1 1 0, ?_, fun _ _ _ => rfl, fun k => by rw [if_pos d0], fun _ _ => rfl⟩
        rw [decide_eq_false (by omega)]; exact settle_n _
      · refine ⟨stS u fh (sI T1 1 1 0), ?_, fun a b h => stS_off h, fun k => by rw [if_neg d0], fun a b => stS_L⟩
        rw [decide_eq_true (by omega)]; exact settle_e i2 i1 hu hf
    generalize hfl : (if d < L then (1 : Int64) else 0) = fl
    obtain ⟨T5, p1', p2, p3, p4⟩ := put_e fl (RwC.nil T3) (by simp)
    have e65 : gI T5 6 5 = wS c t n (gI S 126) d 38 := by
      rw [p4 6 5 (by decide), e10 6 5 (by decide), t2 6 5 (by decide)]; exact s3.2.2.2
    obtain ⟨T6, r1, r2, r3, r4⟩ := put_e (wS c t n (gI S 126) d 38).toInt64 p3 (by simp)
    have cls : f_X10_season S = some (nI d, T6) := by
      unfold f_X10_season
      rw [fo, if_pos rfl, bd_e, if_pos rfl, mk, bd_e]
      refine s1.trans ?_
      have e131 : f_X10_season_131 (nI d) (flI (decide (d < L))) (flI (decide (0 < d))) (sI T1 1 1 0) = some (nI d, T6) := by
        unfold f_X10_season_131 f_X10_season_154
        rw [t1, bd_e, begin_e, bd_e]
        by_cases g : d < L
        · rw [if_pos g] at hfl
          rw [decide_eq_true g, if_neg (show ¬ flI true = 0 by decide), hfl, p1', bd_e, e65, r1, bd_e]
        · rw [if_neg g] at hfl
          rw [decide_eq_false g, if_pos (show flI false = 0 from rfl), hfl, p1', bd_e, e65, r1, bd_e]
      dsimp only
      rw [lt_e]
      by_cases d0 : d = 0
      · rw [if_pos (show nI d ≤ 0 by rw [d0]; decide)]
        rw [decide_eq_false (show ¬ 0 < d by omega)] at e131
        exact e131
      · rw [if_neg (show ¬ nI d ≤ 0 by rw [lit, nLe (by omega) (by omega)]; omega)]
        rw [decide_eq_true (show 0 < d by omega)] at e131
        exact e131
    refine ⟨_, _, cls, ?_⟩
    have k6 : ∀ a b, a ≠ 10 → a ≠ 12 → a ≠ 6 → a ≠ 7 → a ≠ 8 → a ≠ 9 → a ≠ 92 → a ≠ 93 → a ≠ 94 → (a < 14 ∨ 77 < a) → (a ≠ 1 ∨ b ≠ 1) → gI T6 a b = gI S a b := fun a b h10 h12 h6 h7 h8 h9 h2 h3 h4 h5 h1 => (r4 a b h10).trans ((p4 a b h10).trans ((e10 a b h10).trans ((t2 a b h12).trans (o1 a b h6 h7 h8 h9 h2 h3 h4 h5 h1))))
    have b6 : ∀ a b, 122 ≤ a → gI T6 a b = gI S a b := fun a b h => k6 a b (by omega) (by omega) (by omega) (by omega) (by omega) (by omega) (by omega) (by omega) (by omega) (by omega) (by omega)
    have n6 : ∀ a b, a ≠ 10 → a ≠ 12 → (a ≠ 1 ∨ b ≠ 1) → gI T6 a b = gI T1 a b := by
      intro a b h10 h12 h1
      rw [r4 a b h10, p4 a b h10, e10 a b h10, t2 a b h12, gI_s]
      by_cases e : a = 1
      · rw [if_pos e, if_neg (by omega)]
      · rw [if_neg e]
    -- the reference
    obtain ⟨T', k', y', f', q1, q2, q3, q4⟩ := seas_m (S1 := T6) ((b6 122 10 (by omega)).trans n3) n1 (fun i hi => ⟨(b6 128 i (by omega)).trans (hx i hi).1, (hx i hi).2⟩)
    obtain ⟨ek, ef⟩ := hE.un q3
    subst ef
    obtain ⟨L', m1, m2, m3, m4⟩ := q4 rfl
    obtain rfl : L' = L := pS_un l2 m2 (fun j hj => (hA j hj).1) (fun j hj => (m4 j hj).1)
    rw [if_pos rfl] at q1
    have kT : ∀ a b, (a < 138 ∨ 142 < a) → (a ≠ 122 ∨ (b ≠ 0 ∧ b ≠ 10 ∧ b ≠ 11 ∧ b ≠ 12 ∧ b ≠ 13 ∧ b ≠ 35)) → gI T' a b = gI T6 a b := by
      intro a b h1 h2
      rw [q2.1 a b h1 (by omega), bg4_o (by omega), gI_s]
      by_cases e : a = 122
      · rw [if_pos e, if_neg (by omega)]
      · rw [if_neg e]
    have t28 : gI T' 122 28 = nI u := (kT 122 28 (by omega) (by omega)).trans ((b6 122 28 (by omega)).trans w28)
    have pb := putsBy_e t28 hu
    generalize hB0 : sR T' 137 (fun k => if 39 * u ≤ k ∧ k < 39 * u + 39 then gI T' 126 (k - 39 * u) else gI T' 137 k) = B0 at pb
    have kB0 : ∀ a b, a ≠ 137 → gI B0 a b = gI T' a b := fun a b h => by rw [← hB0, gI_r, if_neg h]
    have k137 : ∀ k, gI B0 137 k = if 39 * u ≤ k ∧ k < 39 * u + 39 then gI S 126 (k - 39 * u) else gI S 137 k := by
      intro k
      rw [← hB0, gI_r, if_pos rfl, kT 126 _ (by omega) (by omega), b6 126 _ (by omega), kT 137 _ (by omega) (by omega), b6 137 _ (by omega)]
    have MEB : ME B0 c := by
      refine ⟨(kB0 _ _ (by omega)).trans ((kT _ _ (by omega) (by omega)).trans ((b6 _ _ (by omega)).trans hM.1)), fun i hi => ?_⟩
      rw [kB0 124 i (by omega), kT 124 i (by omega) (by omega), b6 124 i (by omega), kB0 125 i (by omega), kT 125 i (by omega) (by omega), b6 125 i (by omega)]
      exact ⟨(hM.2.1 i hi).1, (hM.2.1 i hi).2.1⟩
    have MNB : MN B0 (gI S 126) := fun k _ => by rw [kB0 126 k (by omega), kT 126 k (by omega) (by omega), b6 126 k (by omega)]
    obtain ⟨B1, v1, v2, v3⟩ := sm_l ok Ok0 MEB MNB (fun i hi => (hx i hi).2) hn60 l1 ((kB0 122 35 (by omega)).trans m3) hA (fun j hj => by
      obtain ⟨x0, x1, x2, x3⟩ := (m4 j hj).2.2
      exact ⟨(kB0 _ _ (by omega)).trans x0, (kB0 _ _ (by omega)).trans x1, fun z => (kB0 _ _ (by omega)).trans (x2 z), fun z => (kB0 _ _ (by omega)).trans (x3 z)⟩) d1 d2 d3 (fun v32 S33 => lt (sI S33 122 1 (0 : Int32)) (fun S34 => (if (gI S34 122 35) ≤ v32 then f_X11_season_108 v32 (0 : Int32) S34 else f_X11_season_108 v32 (1 : Int32) S34)))
    have b35 : gI B1 122 35 = nI L' := (v2.1 122 35 (by decide) (by decide) (by decide) (by decide)).trans ((kB0 122 35 (by omega)).trans m3)
    obtain ⟨B2, g1, g2, g3, g4⟩ := ent_e fl (RwM.nil B1) (by simp)
    have b38 : gI B2 126 38 = wS c t n (gI S 126) d 38 := by
      rw [g4 126 38 (by decide), e01 126 38 (by decide)]; exact v3 38 (by omega)
    obtain ⟨B3, i1', i2', i3', i4'⟩ := ent_e (wS c t n (gI S 126) d 38).toInt64 g3 (by simp)
    have kB3 : ∀ a b, a ≠ 126 → a ≠ 134 → a ≠ 135 → a ≠ 137 → (a < 138 ∨ 142 < a) → (a ≠ 122 ∨ (b ≠ 0 ∧ b ≠ 1 ∧ b ≠ 10 ∧ b ≠ 11 ∧ b ≠ 12 ∧ b ≠ 13 ∧ b ≠ 24 ∧ b ≠ 25 ∧ b ≠ 26 ∧ b ≠ 35)) → gI B3 a b = gI T6 a b := by
      intro a b h1 h2 h3 h4 h5 h6
      rw [i4' a b (by omega), g4 a b (by omega), e01 a b (by omega), v2.1 a b h1 h2 h3 (by omega), kB0 a b h4, kT a b h5 (by omega)]
    have b328 : gI B3 122 28 = nI u := (kB3 122 28 (by decide) (by decide) (by decide) (by decide) (by decide) (by decide)).trans ((b6 122 28 (by omega)).trans w28)
    have b137 : ∀ k, gI B3 137 k = if 39 * u ≤ k ∧ k < 39 * u + 39 then gI S 126 (k - 39 * u) else gI S 137 k := by
      intro k
      rw [i4' 137 k (by omega), g4 137 k (by omega), e01 137 k (by omega), v2.1 137 k (by decide) (by decide) (by decide) (Or.inl (by decide))]
      exact k137 k
    have b12 : ∀ k, gI B3 12 k = if d = 0 then gI (sI T1 1 1 0) 12 k else gI (stS u fh (sI T1 1 1 0)) 12 k := by
      intro k
      rw [kB3 12 k (by decide) (by decide) (by decide) (by decide) (by decide) (Or.inl (by decide)), r4 12 k (by decide), p4 12 k (by decide), e10 12 k (by decide)]
      exact t3 k
    have bz : ∀ o k, 14 ≤ o → o ≤ 77 → gI B3 o k = gI (tk S (14 + 4 * ((fh + u) % 16)) 6) o k := by
      intro o k h1 h2
      rw [kB3 o k (by omega) (by omega) (by omega) (by omega) (by omega) (by omega), n6 o k (by omega) (by omega) (by omega), s2.1 o k (by omega) (by omega) (by omega) (by omega) (by omega) (by omega) (by omega), hAA]
    obtain ⟨E, ee1, ee2, ee3, ee4⟩ : ∃ E, (if nI d ≤ (0 : Int32) then some ((0 : Int32), B3) else bd (f_X11_adds (nI d) B3) (fun r10 S11 => some (r10, S11))) = some (nI d, E) ∧ (∀ a b, a ≠ 137 → (a ≠ 122 ∨ b ≠ 28) → gI E a b = gI B3 a b) ∧ (∀ a b, gL E a b = gL B3 a b) ∧ RH E (cm c) := by
      by_cases d0 : d = 0
      · refine ⟨B3, ?_, fun _ _ _ _ => rfl, fun _ _ => rfl, ?_⟩
        · rw [if_pos (show nI d ≤ 0 by rw [d0]; decide), d0]; rfl
        · refine hw.n bz ?_ b328 ?_ (fun k hk => ?_)
          · rw [b12, if_pos d0]; exact i2
          · rw [b12, if_pos d0]; exact i1
          · rw [b137, if_neg (by omega)]
      · refine ⟨adS u B3, ?_, fun a b h1 h2 => ad28 h1 h2, fun a b => adS_L, ?_⟩
        · rw [if_neg (show ¬ nI d ≤ 0 by rw [lit, nLe (by omega) (by omega)]; omega), addsN (nI d) b328 hu, bd_e]
        · exact act_done hw h12 hN hO (sI T1 1 1 0) i2 i1 (fun k => by rw [b12, if_neg d0]) b328 bz b137
    have ref : f_X11_season T6 = some (nI d, E) := by
      rw [q1, pb, bd_e]
      refine v1.trans ?_
      have e108 : f_X11_season_108 (nI d) (flI (decide (d < L'))) (sI B1 122 1 0) = some (nI d, E) := by
        unfold f_X11_season_108
        rw [flg_flI, bd_e]
        have ef : (flI (decide (d < L'))).toInt64 = fl := by
          rw [← hfl]
          by_cases g : d < L'
          · rw [decide_eq_true g, if_pos g]; rfl
          · rw [decide_eq_false g, if_neg g]; rfl
        rw [ef, g1, bd_e, b38, i1', bd_e]
        exact ee1
      rw [lt_e, show gI (sI B1 122 1 0) 122 35 = nI L' from b35]
      by_cases g : d < L'
      · rw [if_neg (show ¬ nI L' ≤ nI d by rw [nLe (by omega) (by omega)]; omega)]
        rw [decide_eq_true g] at e108
        exact e108
      · rw [if_pos (show nI L' ≤ nI d by rw [nLe (by omega) (by omega)]; omega)]
        rw [decide_eq_false g] at e108
        exact e108
    refine ⟨_, E, ref, rfl, ?_⟩
    -- the end
    have kE : ∀ a b, a ≠ 10 → a ≠ 12 → a ≠ 6 → a ≠ 7 → a ≠ 8 → a ≠ 9 → a ≠ 92 → a ≠ 93 → a ≠ 94 → (a < 14 ∨ 77 < a) → (a ≠ 1 ∨ b ≠ 1) → a ≠ 126 → a ≠ 134 → a ≠ 135 → a ≠ 137 → (a < 138 ∨ 142 < a) → (a ≠ 122 ∨ (b ≠ 0 ∧ b ≠ 1 ∧ b ≠ 10 ∧ b ≠ 11 ∧ b ≠ 12 ∧ b ≠ 13 ∧ b ≠ 24 ∧ b ≠ 25 ∧ b ≠ 26 ∧ b ≠ 28 ∧ b ≠ 35)) → gI E a b = gI S a b := fun a b c1 c2 c3 c4 c5 c6 c7 c8 c9 c10 c11 c12 c13 c14 c15 c16 c17 => (ee2 a b c15 (by omega)).trans ((kB3 a b c12 c13 c14 c15 c16 (by omega)).trans (k6 a b c1 c2 c3 c4 c5 c6 c7 c8 c9 c10 c11))
    have kn : ∀ a b, a = 6 ∨ a = 7 ∨ a = 8 ∨ a = 9 → gI E a b = gI T1 a b := fun a b h => (ee2 a b (by omega) (by omega)).trans ((kB3 a b (by omega) (by omega) (by omega) (by omega) (by omega) (by omega)).trans (n6 a b (by omega) (by omega) (by omega)))
    have k126 : ∀ k, k < 39 → gI E 126 k = wS c t n (gI S 126) d k := fun k hk => by
      rw [ee2 126 k (by omega) (by omega), i4' 126 k (by omega), g4 126 k (by omega), e01 126 k (by omega)]; exact v3 k hk
    have RRE : RR E := by
      refine ⟨2, by omega, ?_, ?_, fun i hi => ?_⟩
      · rw [ee2 10 1 (by decide) (by decide), kB3 10 1 (by decide) (by decide) (by decide) (by decide) (by decide) (by decide)]; exact r3.1
      · rw [ee2 122 1 (by decide) (by decide)]; exact i3'.1
      · have c1 : gL E 11 i = gL T6 11 i := by
          rw [ee3, i2'.2 11 i rfl, g2.2 11 i rfl]
          show gL B1 11 i = _
          rw [v2.2, ← hB0]
          show gL T' 11 i = _
          rw [q2.2.2]; rfl
        rw [c1, ee3, r3.2 i hi, i3'.2 i hi]
    have hRE : RelR E (cm c) := by
      refine hR.fin RRE ?_ ?_ (fun a b h1 h2 h3 h4 => ?_)
      · rw [ee2 1 1 (by decide) (by decide), kB3 1 1 (by decide) (by decide) (by decide) (by decide) (by decide) (by decide), r4 1 1 (by decide), p4 1 1 (by decide), e10 1 1 (by decide), t2 1 1 (by decide)]; rfl
      · rw [ee2 122 10 (by decide) (by decide), i4' 122 10 (by decide), g4 122 10 (by decide), e01 122 10 (by decide), v2.1 122 10 (by decide) (by decide) (by decide) (by decide), kB0 122 10 (by decide), q2.1 122 10 (by decide) (by decide)]; rfl
      · obtain ⟨z1, z2, z3, z4, z5, z6, z7, z8, z9⟩ := dom_no h1
        have hs := dom_scr h1
        have sc : ∀ q, scrO.contains q = true → a ≠ q := by
          intro q hq e
          subst e
          rw [scr_al hq b] at hs; cases hs
        by_cases e10' : a = 10
        · subst e10'
          have b1' : b ≠ 1 := by intro e; subst e; cases h2
          rw [ee2 10 b (by decide) (Or.inl (by decide)), kB3 10 b (by decide) (by decide) (by decide) (by decide) (by decide) (Or.inl (by decide))]
          have r10 : gI T6 10 b = gI T5 10 b := r2.1 10 b (by unfold PC scr2 scr; simp [b1']; decide)
          have p10 : gI T5 10 b = gI (sI T3 10 1 0) 10 b := p2.1 10 b (by unfold PC scr2 scr; simp [b1']; decide)
          rw [r10, p10, gI_s, if_pos rfl, if_neg b1', t2 10 b (by decide)]
          exact o1 10 b (by omega) (by omega) (by omega) (by omega) (by omega) (by omega) (by omega) (by omega) (by omega)
        · have m122 : a = 122 → b ≠ 0 ∧ b ≠ 1 ∧ b ≠ 11 ∧ b ≠ 12 ∧ b ≠ 13 ∧ b ≠ 24 ∧ b ≠ 25 ∧ b ≠ 26 ∧ b ≠ 35 := by
            intro e
            subst e
            refine ⟨?_, ?_, ?_, ?_, ?_, ?_, ?_, ?_, ?_⟩
            · intro e; subst e; cases hs
            · intro e; subst e; cases h2
            · intro e; subst e; cases hs
            · intro e; subst e; cases hs
            · intro e; subst e; cases hs
            · intro e; subst e; cases hs
            · intro e; subst e; cases hs
            · intro e; subst e; cases hs
            · intro e; subst e; cases hs
          have s92 := sc 92 (by decide)
          have s93 := sc 93 (by decide)
          have s94 := sc 94 (by decide)
          have s134 := sc 134 (by decide)
          have s135 := sc 135 (by decide)
          have s138 := sc 138 (by decide)
          have s139 := sc 139 (by decide)
          have s140 := sc 140 (by decide)
          have s141 := sc 141 (by decide)
          have s142 := sc 142 (by decide)
          refine kE a b e10' z5 z1 z2 z3 z4 s92 s93 s94 (by omega) h3 z7 s134 s135 z8 (by omega) ?_
          by_cases e : a = 122
          · have := m122 e
            right
            omega
          · exact Or.inl e
    refine hRE.p ?_ ?_ ee4
    · refine ⟨fun i hi => ?_, ?_, ?_⟩
      · obtain ⟨c1, c2, c3⟩ := s3.1 i (by omega)
        rw [show gI E (6 + 1) i = _ from kn 7 i (by omega), show gI E (6 + 2) i = _ from kn 8 i (by omega), show gI E (6 + 3) i = _ from kn 9 i (by omega), c1, c2, c3]
        exact OkD.1 i hi
      · rw [kn 6 3 (by omega), s3.2.1]; exact OkD.2.1
      · rw [kn 6 5 (by omega), s3.2.2.2]; exact OkD.2.2
    · refine ⟨fun i hi => ?_, ?_, ?_, ?_⟩
      · obtain ⟨c1, c2, c3⟩ := s3.1 i hi
        rw [show gI E (6 + 1) i = _ from kn 7 i (by omega), show gI E (6 + 2) i = _ from kn 8 i (by omega), show gI E (6 + 3) i = _ from kn 9 i (by omega), c1, c2, c3, k126 (0 + i) (by omega), k126 (0 + 12 + i) (by omega), k126 (0 + 24 + i) (by omega), show 0 + i = i by omega, show 0 + 12 + i = 12 + i by omega, show 0 + 24 + i = 24 + i by omega]
        exact ⟨rfl, rfl, rfl⟩
      · rw [kn 6 3 (by omega), s3.2.1, k126 _ (by omega)]
      · rw [kn 6 4 (by omega), s3.2.2.1, k126 _ (by omega)]
      · rw [kn 6 5 (by omega), s3.2.2.2, k126 _ (by omega)]
