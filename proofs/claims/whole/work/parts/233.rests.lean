/-! pairs, the first of them told -/
abbrev Pr : Type := List (Nat × Nat)
def prS (P : Nat → Nat → Bool) (x y : Nat) (l : Pr) : Pr := if P x y = true then l ++ [(x, y)] else l
def prI (P : Nat → Nat → Bool) (x : Nat) (l : Pr) : Nat → Pr := itN (prS P x) l
def prO (P : Nat → Nat → Bool) (n : Nat) : Nat → Pr := itN (fun x l => prI P x l n) []
def prR : Pr → List Int64
  | [] => []
  | p :: _ => [(nI p.1).toInt64, (nI p.2).toInt64]
theorem prR_a (l : Pr) (p : Nat × Nat) : prR (l ++ [p]) = if l.length = 0 then [(nI p.1).toInt64, (nI p.2).toInt64] else prR l := by
  cases l with
  | nil => rfl
  | cons a l => rw [if_neg (by simp)]; rfl
theorem prR_l (l : Pr) : (prR l).length ≤ 2 := by cases l <;> simp [prR]
theorem prR_0 (l : Pr) : (prR l).length = 0 ↔ l.length = 0 := by cases l <;> simp [prR]
theorem prI_l (P : Nat → Nat → Bool) (x : Nat) (l : Pr) : ∀ n, (prI P x l n).length ≤ l.length + n := by
  intro n
  induction n with
  | zero => exact Nat.le_refl _
  | succ n ih =>
    have e : prI P x l (n + 1) = prS P x n (prI P x l n) := rfl
    rw [e, prS]
    split
    · rw [List.length_append, List.length_singleton]; omega
    · omega
theorem prO_l (P : Nat → Nat → Bool) (n : Nat) : ∀ m, (prO P n m).length ≤ n * m := by
  intro m
  induction m with
  | zero => exact Nat.le_refl _
  | succ m ih =>
    have e : prO P n (m + 1) = prI P m (prO P n m) n := rfl
    have := prI_l P m (prO P n m) n
    rw [e, Nat.mul_succ]; omega
theorem putF {T : St} {l : Pr} (hw : RwC T (prR l)) (x y : Nat) : ∃ T', f_X10_putIfFirst (nI x) (nI y) T = some ((), T') ∧ QC T T' ∧ RwC T' (prR (l ++ [(x, y)])) ∧ ∀ a b, a ≠ 10 → gI T' a b = gI T a b := by
  have h2 := prR_l l
  unfold f_X10_putIfFirst
  rw [prR_a, hw.1]
  by_cases z : l.length = 0
  · have z2 : l = [] := List.length_eq_zero_iff.mp z
    subst z2
    obtain ⟨T2, u1, u2, u3, u4⟩ := put_e (nI x).toInt64 hw (by simp [prR])
    obtain ⟨T3, v1, v2, v3, v4⟩ := put_e (nI y).toInt64 u3 (by simp [prR])
    refine ⟨T3, ?_, u2.tr v2, ?_, fun a b h => (v4 a b h).trans (u4 a b h)⟩
    · rw [if_pos (show nI (prR []).length = 0 from rfl), u1, bd_e, v1, bd_e]
    · rw [if_pos z]; exact v3
  · refine ⟨T, ?_, Sm.rf T, ?_, fun _ _ _ => rfl⟩
    · rw [if_neg (show ¬ nI (prR l).length = 0 by rw [lit, nEq (by omega) (by omega)]; exact fun h => z ((prR_0 l).mp h))]
    · rw [if_neg z]; exact hw
theorem entF {T : St} {l : Pr} (hl : l.length < 2147483648) (hw : RwM T (prR l)) (x y : Nat) {β : Type} (K : St → Option β) : ∃ T', (if nI l.length = 0 then bd (f_X11_enters (nI x).toInt64 T) (fun r7 S8 => bd (f_X11_enters (nI y).toInt64 S8) (fun r10 S11 => K S11)) else K T) = K T' ∧ QM T T' ∧ RwM T' (prR (l ++ [(x, y)])) ∧ ∀ a b, (a ≠ 122 ∨ b ≠ 1) → gI T' a b = gI T a b := by
  rw [prR_a]
  by_cases z : l.length = 0
  · have z2 : l = [] := List.length_eq_zero_iff.mp z
    subst z2
    obtain ⟨T2, u1, u2, u3, u4⟩ := ent_e (nI x).toInt64 hw (by simp [prR])
    obtain ⟨T3, v1, v2, v3, v4⟩ := ent_e (nI y).toInt64 u3 (by simp [prR])
    refine ⟨T3, ?_, u2.tr v2, ?_, fun a b h => (v4 a b h).trans (u4 a b h)⟩
    · rw [if_pos (show nI ([] : Pr).length = 0 from rfl), u1, bd_e, v1, bd_e]
    · rw [if_pos z]; exact v3
  · refine ⟨T, ?_, Sm.rf T, ?_, fun _ _ _ => rfl⟩
    · rw [if_neg (show ¬ nI l.length = 0 by rw [lit, nEq (by omega) (by omega)]; exact z)]
    · rw [if_neg z]; exact hw
/-! rests -/
def gnI (m o v : Int32) : Int32 := if m ≤ o then (if m = o then (m + v / 4) / 2 else m + v / 4) else -1
theorem gain_c (m o v : Int32) (S : St) : f_X10_gainOf m o v S = some (gnI m o v, S) := by
  unfold f_X10_gainOf gnI
  by_cases h : m ≤ o
  · rw [if_pos h, if_pos h, lt_e]
    by_cases h2 : m = o
    · rw [if_pos h2, if_pos h2]
    · rw [if_neg h2, if_neg h2]
  · rw [if_neg h, if_neg h]
theorem gets_m (m o v : Int32) (S : St) : f_X11_gets m o v S = some (gnI m o v, S) := by
  unfold f_X11_gets gnI
  by_cases h : o ≤ m
  · rw [if_pos h]
    by_cases h2 : m = o
    · rw [if_pos h2, if_pos (by rw [i_le] at *; rw [h2]; omega), if_pos h2]
    · rw [if_neg h2, if_neg (by rw [i_le] at *; rw [i_eq] at h2; omega)]
  · rw [if_neg h, if_pos (by rw [i_le] at *; omega), if_neg (by intro e; rw [i_le] at h; rw [e] at h; omega)]
def bsB (m o v : Int32) : Bool := alN (fun x => decide (gnI (nI x) o v ≤ gnI m o v)) 10
theorem best_c (m o v : Int32) (S : St) : f_X10_isBestAnswer m o v S = some (flI (bsB m o v), S) := by
  obtain ⟨h1, h2, h3⟩ := ld_a (fun x => decide (gnI (nI x) o v ≤ gnI m o v)) 10
  unfold f_X10_isBestAnswer bsB
  rw [gain_c, bd_e, al_l]
  generalize hL : ldN (fun x => decide (gnI (nI x) o v ≤ gnI m o v)) 10 = L at *
  refine lp_for (body := f_X10_isBestAnswer_10b o v (gnI m o v) (fun v7 S8 => some ((1 : Int32), S8))) L (fun i => (nI i, S)) (out := some (flI (decide (10 ≤ L)), S)) (fun i k hi => ?_) (fun k => ?_) FU 0 (by omega) (by unfold FU; omega)
  · unfold f_X10_isBestAnswer_10b
    simp only
    have e : gnI (nI i) o v ≤ gnI m o v := of_decide_eq_true (h2 i hi)
    rw [if_neg (show ¬ (10 : Int32) ≤ nI i by rw [lit, nLe (by omega) (by omega)]; omega), gain_c, bd_e, if_pos e, a1]
  · unfold f_X10_isBestAnswer_10b
    simp only
    by_cases g : 10 ≤ L
    · rw [if_pos (show (10 : Int32) ≤ nI L by rw [lit, nLe (by omega) (by omega)]; omega), decide_eq_true g]; rfl
    · have e : ¬ gnI (nI L) o v ≤ gnI m o v := of_decide_eq_false (h3 (by omega))
      rw [if_neg (show ¬ (10 : Int32) ≤ nI L by rw [lit, nLe (by omega) (by omega)]; omega), gain_c, bd_e, if_neg e, decide_eq_false g]; rfl
theorem rest_m (m o v : Int32) (S : St) : f_X11_isRest m o v S = some (flI (bsB m o v), S) := by
  unfold f_X11_isRest
  refine lp_for (body := f_X11_isRest_5b m o v (fun v7 S8 => if v7.1 = 0 ∨ v7.1 = 1 then some (v7.1, S8) else none)) 10 (fun i => ((flI (alN (fun x => decide (gnI (nI x) o v ≤ gnI m o v)) i), nI i), S)) (out := some (flI (bsB m o v), S)) (fun i k hi => ?_) (fun k => ?_) FU 0 (by omega) (by unfold FU; omega)
  · unfold f_X11_isRest_5b f_X11_isRest_36 f_X11_isRest_37
    simp only
    rw [if_neg (show ¬ (9 : Int32) < nI i by rw [lit, nLt (by omega) (by omega)]; omega), alN, a1]
    cases g : alN (fun x => decide (gnI (nI x) o v ≤ gnI m o v)) i with
    | false => rw [if_pos (show flI false = 0 from rfl)]; rfl
    | true =>
      rw [if_neg (show ¬ flI true = 0 by decide), gets_m, bd_e, gets_m, bd_e]
      by_cases g2 : gnI (nI i) o v ≤ gnI m o v
      · rw [if_neg (by rw [i_lt]; rw [i_le] at g2; omega), decide_eq_true g2]; rfl
      · rw [if_pos (by rw [i_lt]; rw [i_le] at g2; omega), decide_eq_false g2]; rfl
  · unfold f_X11_isRest_5b
    simp only
    rw [if_pos (show (9 : Int32) < nI 10 by decide), if_pos (flI_w _)]
    rfl
def rsB (v : Int32) (x y : Nat) : Bool := bsB (nI x) (nI y) v && bsB (nI y) (nI x) v
theorem rsi_c {T : St} {l : Pr} (hw : RwC T (prR l)) (z : Int32) (i N : Nat) (hN : N = 10) (e : Int32 × Int32 → St → Option (Int32 × St)) : ∃ T2, lp (f_X10_rests_32b z (nI i) e) FU (nI l.length, 0) T = e (nI (prI (rsB z) i l N).length, nI N) T2 ∧ QC T T2 ∧ RwC T2 (prR (prI (rsB z) i l N)) := by
  have h := lp_ex (body := f_X10_rests_32b z (nI i) e) (Q := fun w => ∃ T2, w = e (nI (prI (rsB z) i l N).length, nI N) T2 ∧ QC T T2 ∧ RwC T2 (prR (prI (rsB z) i l N))) N (fun j v T2 => v = (nI (prI (rsB z) i l j).length, nI j) ∧ QC T T2 ∧ RwC T2 (prR (prI (rsB z) i l j))) (fun j k2 v T2 hj hJ => ?_) (fun k2 v T2 hJ => ?_) FU 0 (nI l.length, (0 : Int32)) T (by omega) (by unfold FU; omega) ⟨rfl, Sm.rf T, hw⟩
  · exact h
  · obtain ⟨rfl, u1, u2⟩ := hJ
    have es : prI (rsB z) i l (j + 1) = prS (rsB z) i j (prI (rsB z) i l j) := rfl
    rw [es, prS]
    generalize prI (rsB z) i l j = L at u2
    unfold f_X10_rests_32b f_X10_rests_69
    simp only
    rw [if_neg (show ¬ (10 : Int32) ≤ nI j by rw [lit, nLe (by omega) (by omega)]; omega), best_c, bd_e, a1]
    unfold rsB
    cases g1 : bsB (nI i) (nI j) z with
    | false => exact ⟨_, T2, by rw [if_pos (show flI false = 0 from rfl)]; rfl, rfl, u1, u2⟩
    | true =>
      rw [if_neg (show ¬ flI true = 0 by decide), best_c, bd_e]
      cases g2 : bsB (nI j) (nI i) z with
      | false => exact ⟨_, T2, by rw [if_pos (show flI false = 0 from rfl)]; rfl, rfl, u1, u2⟩
      | true =>
        obtain ⟨T3, p1', p2, p3, p4⟩ := putF u2 i j
        refine ⟨_, T3, ?_, rfl, u1.tr p2, p3⟩
        rw [if_neg (show ¬ flI true = 0 by decide), p1', bd_e, show (true && true) = true from rfl, if_pos rfl, List.length_append]
        simp only [a1, List.length_singleton]
  · obtain ⟨rfl, u1, u2⟩ := hJ
    refine ⟨T2, ?_, u1, u2⟩
    unfold f_X10_rests_32b
    rw [if_pos (show (10 : Int32) ≤ nI N by rw [hN]; decide)]
theorem rsi_m {T : St} {l : Pr} (hl : l.length ≤ 100) (hw : RwM T (prR l)) (z : Int32) (i N : Nat) (hN : N = 10) (e : Int32 × Int32 → St → Option (Int32 × St)) : ∃ T2, lp (f_X11_rests_37b z (nI i) e) FU (nI l.length, 0) T = e (nI (prI (rsB z) i l N).length, nI N) T2 ∧ QM T T2 ∧ RwM T2 (prR (prI (rsB z) i l N)) := by
  have h := lp_ex (body := f_X11_rests_37b z (nI i) e) (Q := fun w => ∃ T2, w = e (nI (prI (rsB z) i l N).length, nI N) T2 ∧ QM T T2 ∧ RwM T2 (prR (prI (rsB z) i l N))) N (fun j v T2 => v = (nI (prI (rsB z) i l j).length, nI j) ∧ QM T T2 ∧ RwM T2 (prR (prI (rsB z) i l j))) (fun j k2 v T2 hj hJ => ?_) (fun k2 v T2 hJ => ?_) FU 0 (nI l.length, (0 : Int32)) T (by omega) (by unfold FU; omega) ⟨rfl, Sm.rf T, hw⟩
  · exact h
  · obtain ⟨rfl, u1, u2⟩ := hJ
    have es : prI (rsB z) i l (j + 1) = prS (rsB z) i j (prI (rsB z) i l j) := rfl
    have bl := prI_l (rsB z) i l j
    rw [es, prS]
    generalize prI (rsB z) i l j = L at u2 bl
    unfold f_X11_rests_37b f_X11_rests_81 f_X11_rests_84
    simp only
    rw [if_neg (show ¬ (9 : Int32) < nI j by rw [lit, nLt (by omega) (by omega)]; omega), rest_m, bd_e]
    unfold rsB
    cases g1 : bsB (nI i) (nI j) z with
    | false => exact ⟨_, T2, by rw [if_pos (show flI false = 0 from rfl), a1]; rfl, rfl, u1, u2⟩
    | true =>
      rw [if_neg (show ¬ flI true = 0 by decide), rest_m, bd_e]
      cases g2 : bsB (nI j) (nI i) z with
      | false => exact ⟨_, T2, by rw [if_pos (show flI false = 0 from rfl), a1]; rfl, rfl, u1, u2⟩
      | true =>
        rw [if_neg (show ¬ flI true = 0 by decide)]
        obtain ⟨T3, p1', p2, p3, p4⟩ := entF (by omega) u2 i j (fun S11 => k2 (nI L.length + (1 : Int32), (nI j + (1 : Int32))) S11)
        refine ⟨_, T3, ?_, rfl, u1.tr p2, p3⟩
        refine p1'.trans ?_
        rw [show (true && true) = true from rfl, if_pos rfl, List.length_append]
        simp only [a1, List.length_singleton]
  · obtain ⟨rfl, u1, u2⟩ := hJ
    refine ⟨T2, ?_, u1, u2⟩
    unfold f_X11_rests_37b
    rw [if_pos (show (9 : Int32) < nI N by rw [hN]; decide)]
theorem rso_c {S T : St} (hQ : QC S T) (hw : RwC T []) (z : Int32) (N : Nat) (hN : N = 10) : AC (lp (f_X10_rests_23b z (fun v15 S16 => some (v15.1, S16))) FU (0, 0) T) S (nI (prO (rsB z) N N).length) (some (prR (prO (rsB z) N N))) := by
  have h0 := lp_ex (body := f_X10_rests_23b z (fun v15 S16 => some (v15.1, S16))) (Q := fun w => AC w S (nI (prO (rsB z) N N).length) (some (prR (prO (rsB z) N N)))) N (fun i v T => v = (nI (prO (rsB z) N i).length, nI i) ∧ QC S T ∧ RwC T (prR (prO (rsB z) N i))) (fun i k v T hi hI => ?_) (fun k v T hI => ?_) FU 0 ((0 : Int32), (0 : Int32)) T (by omega) (by unfold FU; omega) ⟨rfl, hQ, hw⟩
  · exact h0
  · obtain ⟨rfl, w1, w2⟩ := hI
    have es : prO (rsB z) N (i + 1) = prI (rsB z) i (prO (rsB z) N i) N := rfl
    rw [es]
    generalize prO (rsB z) N i = L at w2
    obtain ⟨T2, t1, t2, t3⟩ := rsi_c w2 z i N hN (fun v10 S11 => k (v10.1, (nI i + (1 : Int32))) S11)
    refine ⟨_, T2, ?_, rfl, w1.tr t2, t3⟩
    unfold f_X10_rests_23b
    simp only
    rw [if_neg (show ¬ (10 : Int32) ≤ nI i by rw [lit, nLe (by omega) (by omega)]; omega)]
    refine t1.trans ?_
    simp only [a1]
  · obtain ⟨rfl, w1, w2⟩ := hI
    refine AC.y (S1 := T) ?_ w1 w2
    unfold f_X10_rests_23b
    rw [if_pos (show (10 : Int32) ≤ nI N by rw [hN]; decide)]
theorem rso_m {S T : St} (hQ : QM S T) (hw : RwM T []) (z : Int32) (N : Nat) (hN : N = 10) : AM (lp (f_X11_rests_28b z (fun v15 S16 => some (v15.1, S16))) FU (0, 0) T) S (nI (prO (rsB z) N N).length) (some (prR (prO (rsB z) N N))) := by
  have h0 := lp_ex (body := f_X11_rests_28b z (fun v15 S16 => some (v15.1, S16))) (Q := fun w => AM w S (nI (prO (rsB z) N N).length) (some (prR (prO (rsB z) N N)))) N (fun i v T => v = (nI (prO (rsB z) N i).length, nI i) ∧ QM S T ∧ RwM T (prR (prO (rsB z) N i))) (fun i k v T hi hI => ?_) (fun k v T hI => ?_) FU 0 ((0 : Int32), (0 : Int32)) T (by omega) (by unfold FU; omega) ⟨rfl, hQ, hw⟩
  · exact h0
  · obtain ⟨rfl, w1, w2⟩ := hI
    have es : prO (rsB z) N (i + 1) = prI (rsB z) i (prO (rsB z) N i) N := rfl
    have bl := prO_l (rsB z) N i
    have bl2 : N * i ≤ 100 := by rw [hN]; omega
    rw [es]
    generalize prO (rsB z) N i = L at w2 bl
    obtain ⟨T2, t1, t2, t3⟩ := rsi_m (by omega) w2 z i N hN (fun v10 S11 => k (v10.1, (nI i + (1 : Int32))) S11)
    refine ⟨_, T2, ?_, rfl, w1.tr t2, t3⟩
    unfold f_X11_rests_28b
    simp only
    rw [if_neg (show ¬ (9 : Int32) < nI i by rw [lit, nLt (by omega) (by omega)]; omega)]
    refine t1.trans ?_
    simp only [a1]
  · obtain ⟨rfl, w1, w2⟩ := hI
    refine AM.y (S1 := T) ?_ w1 w2
    unfold f_X11_rests_28b
    rw [if_pos (show (9 : Int32) < nI N by rw [hN]; decide)]
theorem eq_rests : ∀ a1 : Int32, EQ1 RelP (f_X10_rests a1) (f_X11_rests a1) := by
  intro z
  apply qr
  intro S c o r hS ok hC hM
  obtain ⟨N, hN⟩ : ∃ N, N = 10 := ⟨10, rfl⟩
  by_cases g0 : ¬ z < nI 0 ∧ ¬ nI 20 < z
  · refine ⟨nI (prO (rsB z) N N).length, some (prR (prO (rsB z) N N)), (fun l e => by cases e; have := prR_l (prO (rsB z) N N); omega), ?_, fun S1 hM1 q1 => ?_⟩
    · unfold f_X10_rests
      rw [if_neg (show ¬ z < 0 from g0.1), if_pos (show z ≤ 20 by have := g0.2; rw [i_lt] at this; rw [i_le]; change ¬ (nI 20).toInt < _ at this; change _ ≤ (nI 20).toInt; omega), begin_e, bd_e]
      exact rso_c (q10 S 0) (RwC.nil S) z N hN
    · unfold f_X11_rests
      rw [lt_e, in_0_20, bd_e]
      simp only [fl3z, if_pos g0]
      rw [lt_e]
      exact rso_m ((q00 S1 0).tr (q01 _ 0)) (RwM.nil _) z N hN
  · refine ⟨-1, none, (fun l e => by cases e), ?_, fun S1 hM1 q1 => ?_⟩
    · refine AC.n (S1 := S) ?_ (Sm.rf S)
      unfold f_X10_rests
      by_cases h1 : z < 0
      · rw [if_pos h1]
      · rw [if_neg h1, if_neg (by
          intro h2
          apply g0
          refine ⟨h1, ?_⟩
          rw [i_lt]; rw [i_le] at h2
          change _ ≤ (nI 20).toInt at h2
          omega)]
    · refine AM.n (S1 := sI S1 122 0 0) ?_ (q00 S1 0)
      unfold f_X11_rests
      rw [lt_e, in_0_20, if_neg g0, bd_e, if_pos z00]
