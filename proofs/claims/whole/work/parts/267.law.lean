/-! law: what is kept, by all echoes -/
def kaS (c : Cv) (r : Rl) (st q a : Nat) : Nat := if echB c st q = true then a + kpt c r (pth c st q) 0 else a
def kaI (c : Cv) (r : Rl) (st a : Nat) : Nat → Nat := itN (kaS c r st) a
def kaA (c : Cv) (r : Rl) : Nat → Nat := itN (fun st a => kaI c r st a (cm c)) 0
theorem kaI_s (c : Cv) (r : Rl) (st a q : Nat) : kaI c r st a (q + 1) = kaS c r st q (kaI c r st a q) := rfl
theorem kaA_s (c : Cv) (r : Rl) (st : Nat) : kaA c r (st + 1) = kaI c r st (kaA c r st) (cm c) := rfl
abbrev oV : St → St → Prop := Sm (fun a b => decide (a ≠ 132) && decide (a ≠ 133) && decide (a ≠ 134) && decide (a ≠ 135) && (decide (a ≠ 122) || (decide (b ≠ 24) && decide (b ≠ 25) && decide (b ≠ 26)))) (fun _ => true)
theorem oK.v {T T' : St} (h : oK T T') : oV T T' := ⟨fun a b hab => h.1 a b (by simp at hab ⊢; omega), h.2⟩
theorem offM.v {T T' : St} (h : offM T T') : oV T T' := ⟨fun a b hab => by
    simp at hab
    exact h.1 a b (by omega) (by omega) (by omega), fun a b _ => h.2 a b⟩
theorem oV.q {T T' : St} (h : oV T T') : QM T T' := by
  refine ⟨fun a b hab => h.1 a b ?_, fun a b _ => h.2 a b rfl⟩
  have e1 : a ≠ 132 := by intro e; subst e; cases hab
  have e2 : a ≠ 133 := by intro e; subst e; cases hab
  have e3 : a ≠ 134 := by intro e; subst e; cases hab
  have e4 : a ≠ 135 := by intro e; subst e; cases hab
  have e5 : a = 122 → b ≠ 24 ∧ b ≠ 25 ∧ b ≠ 26 := by
    intro e
    subst e
    refine ⟨?_, ?_, ?_⟩ <;> (intro e; subst e; cases hab)
  simp [e1, e2, e3, e4]
  by_cases e : a = 122
  · exact Or.inr ⟨⟨(e5 e).1, (e5 e).2.1⟩, (e5 e).2.2⟩
  · exact Or.inl e
theorem ka_m {T : St} {c : Cv} {r : Rl} (ok : Cok c) (hM : MX T c r) : ∃ T', f_X11_keptByAll T = some (nI (kaA c r 8), T') ∧ oV T T' := by
  have h12 := ok12 ok
  have inn : ∀ (st a : Nat) (U : St) (e : Int32 × Int32 → St → Option (Int32 × St)), st ≤ 7 → oV T U → ∃ U', lp (f_X11_keptByAll_12b (nI st) e) FU (nI a, 0) U = e (nI (kaI c r st a (cm c)), nI (cm c)) U' ∧ oV T U' := by
    intro st a U e hst hU
    have h0 := lp_ex (body := f_X11_keptByAll_12b (nI st) e) (Q := fun w => ∃ U', w = e (nI (kaI c r st a (cm c)), nI (cm c)) U' ∧ oV T U') (cm c) (fun q v S => v = (nI (kaI c r st a q), nI q) ∧ oV T S) (fun q k v S hq hI => ?_) (fun k v S hI => ?_) FU 0 (nI a, (0 : Int32)) U (by omega) (by unfold FU; omega) ⟨rfl, hU⟩
    · exact h0
    · obtain ⟨rfl, hV⟩ := hI
      have hMS := hM.q hV.q
      unfold f_X11_keptByAll_12b f_X11_keptByAll_51
      simp only
      rw [hMS.1.1, if_neg (by rw [nLe (by omega) (by omega)]; omega), isE_b ok hMS.1 hst hq, bd_e, kaI_s c r st a q]
      unfold kaS
      cases g : echB c st q with
      | false => exact ⟨_, S, by rw [if_pos (show flI false = 0 from rfl), if_neg (by simp), a1], rfl, hV⟩
      | true =>
        obtain ⟨S1, l1, l2, l3⟩ := lays_m ok hMS.1 (by omega) (by omega) (by omega) hst hq (echB_o g)
        obtain ⟨S2, k1, k2⟩ := kpt_m ok (hMS.q l2.q) l3 (pth_ok ok hst hq) 0
        refine ⟨_, S2, ?_, rfl, (hV.tr l2.v).tr k2.v⟩
        rw [if_neg (show ¬ flI true = 0 by decide), l1, bd_e, show f_X11_kept (0 : Int32) S1 = _ from k1, bd_e, lt_e, nAdd, a1, if_pos rfl]
    · obtain ⟨rfl, hV⟩ := hI
      refine ⟨S, ?_, hV⟩
      unfold f_X11_keptByAll_12b
      simp only
      rw [(hM.q hV.q).1.1, if_pos (by rw [nLe (by omega) (by omega)]; omega)]
  unfold f_X11_keptByAll
  have h0 := lp_ex (body := f_X11_keptByAll_4b (fun v13 S14 => some (v13.1, S14))) (Q := fun w => ∃ T', w = some (nI (kaA c r 8), T') ∧ oV T T') 8 (fun st v S => v = (nI (kaA c r st), nI st) ∧ oV T S) (fun st k v S hst hI => ?_) (fun k v S hI => ?_) FU 0 ((0 : Int32), (0 : Int32)) T (by omega) (by unfold FU; omega) ⟨rfl, Sm.rf T⟩
  · exact h0
  · obtain ⟨rfl, hV⟩ := hI
    obtain ⟨U', u1, u2⟩ := inn st (kaA c r st) S (fun v11 S12 => k (v11.1, (nI st + (1 : Int32))) S12) (by omega) hV
    refine ⟨_, U', ?_, rfl, u2⟩
    unfold f_X11_keptByAll_4b
    simp only
    rw [if_neg (nLe8 hst)]
    refine u1.trans ?_
    simp only [a1]
    rfl
  · obtain ⟨rfl, hV⟩ := hI
    refine ⟨S, ?_, hV⟩
    unfold f_X11_keptByAll_4b
    simp only
    rw [if_pos (show (8 : Int32) ≤ nI 8 by decide)]
/-! steps learnt -/
abbrev oS : St → St → Prop := Sm (fun a _ => decide (a ≠ 113) && decide (a ≠ 114) && decide (a ≠ 118) && decide (a ≠ 119) && decide (a ≠ 95)) (fun _ => true)
abbrev oX : St → St → Prop := Sm (fun a _ => decide (a ≠ 113) && decide (a ≠ 114) && decide (a ≠ 118) && decide (a ≠ 119) && decide (a ≠ 92) && decide (a ≠ 93) && decide (a ≠ 94) && decide (a ≠ 95)) (fun _ => true)
theorem oR.s {T T' : St} (h : oR T T') : oS T T' := ⟨fun a b hab => h.1 a b (by simp at hab ⊢; omega), h.2⟩
theorem oS.w {T T' : St} (h : oS T T') : oX T T' := ⟨fun a b hab => h.1 a b (by simp at hab ⊢; omega), h.2⟩
theorem offE.w {T T' : St} (h : offE T T') : oX T T' := ⟨fun a b hab => by
    simp at hab
    exact h.1 a b (by omega) (by omega) (by omega), fun a b _ => h.2 a b⟩
theorem oX.cc {T T' : St} {c : Cv} (h : oX T T') (hC : CC T c) : CC T' c := by
  obtain ⟨h1, h2, h3, h4⟩ := hC
  refine ⟨(h.1 _ _ rfl).trans h1, fun i hi => ?_, (h.1 _ _ rfl).trans h3, (h.1 _ _ rfl).trans h4⟩
  rw [h.1 4 i rfl, h.1 5 i rfl, h.1 7 i rfl, h.1 8 i rfl, h.1 9 i rfl]
  exact h2 i hi
theorem oX.ru {T T' : St} {o z : Nat} {k : Nat → Nat} (h : oX T T') (hr : RuC T o z k) : RuC T' o z k := by
  obtain ⟨h1, h2, h3, h4, h5⟩ := hr
  refine ⟨h1, h2, ?_, fun i hi => ?_, h5⟩
  · rw [h.1 o 1 (by rcases h1 with rfl | rfl <;> rfl)]; exact h3
  · rw [h.1 (o + 1) i (by rcases h1 with rfl | rfl <;> rfl)]; exact h4 i hi
def sAt (q : Nat) (b : Bool) (v : Nat) : Nat := (q * 2 + (if b = true then 1 else 0)) * 8 + v
theorem sAt_e (q : Nat) (b : Bool) (v : Nat) (S : St) : f_X2_stepAt (nI q) (flI b) (nI v) S = some (nI (sAt q b v), S) := by
  unfold f_X2_stepAt sAt
  rw [show (2 : Int32) = nI 2 from rfl, show (8 : Int32) = nI 8 from rfl, nMul]
  cases b with
  | true => rw [flI_t, nAdd, nMul, nAdd, if_pos rfl]
  | false => rw [flI_f, nAdd, nMul, nAdd, if_neg (by simp)]
def TBL (T : St) (c : Cv) (r : Rl) (Q : Nat) : Prop := ∀ q b v, q < Q → v < 8 → gI T 95 (sAt q b v) = chv c r q b 0 (nI v)
theorem sAt_inj {q q' v v' : Nat} {b b' : Bool} (hv : v < 8) (hv' : v' < 8) (h : sAt q b v = sAt q' b' v') : q = q' ∧ b = b' ∧ v = v' := by
  unfold sAt at h
  cases b <;> cases b' <;> simp at h <;> (refine ⟨by omega, ?_, by omega⟩; first | rfl | (exfalso; omega))
theorem learn_c {T : St} {c : Cv} {o : Nat} {r : Rl} (ok : Cok c) (hC : CC T c) (hr : RuC T o r.1 r.2) : ∃ T', f_X2_learnSteps o T = some ((), T') ∧ oS T T' ∧ TBL T' c r (cm c) := by
  have h12 := ok12 ok
  have inn : ∀ (q : Nat) (U : St) (e : Int32 → St → Option (Unit × St)), q < cm c → oS T U → TBL U c r q → ∃ U', lp (f_X2_learnSteps_15b o (nI q) e) FU 0 U = e (nI 8) U' ∧ oS T U' ∧ TBL U' c r (q + 1) := by
    intro q U e hq hU hB
    have h0 := lp_ex (body := f_X2_learnSteps_15b o (nI q) e) (Q := fun w => ∃ U', w = e (nI 8) U' ∧ oS T U' ∧ TBL U' c r (q + 1)) 8 (fun v u S => u = nI v ∧ oS T S ∧ TBL S c r q ∧ ∀ b v', v' < v → gI S 95 (sAt q b v') = chv c r q b 0 (nI v')) (fun v k u S hv hI => ?_) (fun k u S hI => ?_) FU 0 (0 : Int32) U (by omega) (by unfold FU; omega) ⟨rfl, hU, hB, fun b v' h => by omega⟩
    · exact h0
    · obtain ⟨rfl, hV, hB', hL⟩ := hI
      obtain ⟨S1, c1, c2⟩ := chg_c ok (hV.w.cc hC) (hV.w.ru hr) hq false 0 (nI v)
      have w0 : inb (nI (sAt q false v)) 192 := by rw [inb_nI (by unfold sAt; simp; omega)]; unfold sAt; simp; omega
      have w1 : inb (nI (sAt q true v)) 192 := by rw [inb_nI (by unfold sAt; simp; omega)]; unfold sAt; simp; omega
      have i0 : sAt q false v < 2147483648 := by unfold sAt; simp; omega
      have i1 : sAt q true v < 2147483648 := by unfold sAt; simp; omega
      have hV1 : oS T (sI S1 95 (sAt q false v) (chv c r q false 0 (nI v))) := (hV.tr c2.s).sI rfl
      obtain ⟨S2, d1, d2⟩ := chg_c ok (hV1.w.cc hC) (hV1.w.ru hr) hq true 0 (nI v)
      have g95 : ∀ k, gI (sI S2 95 (sAt q true v) (chv c r q true 0 (nI v))) 95 k = if k = sAt q true v then chv c r q true 0 (nI v) else if k = sAt q false v then chv c r q false 0 (nI v) else gI S 95 k := by
        intro k
        rw [gI_s, if_pos rfl]
        by_cases z : k = sAt q true v
        · rw [if_pos z, if_pos z]
        · rw [if_neg z, if_neg z, d2.1 95 k rfl, gI_s, if_pos rfl]
          by_cases z2 : k = sAt q false v
          · rw [if_pos z2, if_pos z2]
          · rw [if_neg z2, if_neg z2, c2.1 95 k rfl]
      refine ⟨nI (v + 1), sI S2 95 (sAt q true v) (chv c r q true 0 (nI v)), ?_, rfl, (hV1.tr d2.s).sI rfl, fun q' b v' h1 h2 => ?_, fun b v' h1 => ?_⟩
      · unfold f_X2_learnSteps_15b
        rw [if_neg (nLe8 hv), show f_X2_stepAt (nI q) (0 : Int32) (nI v) S = _ from sAt_e q false v S, bd_e, show f_X6_changed o (nI q) (0 : Int32) (0 : Int32) (nI v) S = _ from c1, bd_e, if_pos w0, nI_t i0, lt_e, show f_X2_stepAt (nI q) (1 : Int32) (nI v) (sI S1 95 (sAt q false v) (chv c r q false 0 (nI v))) = _ from sAt_e q true v _, bd_e, show f_X6_changed o (nI q) (1 : Int32) (0 : Int32) (nI v) (sI S1 95 (sAt q false v) (chv c r q false 0 (nI v))) = _ from d1, bd_e, if_pos w1, nI_t i1, lt_e, a1]
      · rw [g95, if_neg (fun z => by have := (sAt_inj h2 hv z).1; omega), if_neg (fun z => by have := (sAt_inj h2 hv z).1; omega)]
        exact hB' q' b v' h1 h2
      · rw [g95]
        by_cases z : v' = v
        · subst z
          cases b with
          | true => rw [if_pos rfl]
          | false => rw [if_neg (fun z => by have := (sAt_inj hv hv z).2.1; cases this), if_pos rfl]
        · rw [if_neg (fun y => z (sAt_inj (by omega) hv y).2.2), if_neg (fun y => z (sAt_inj (by omega) hv y).2.2)]
          exact hL b v' (by omega)
    · obtain ⟨rfl, hV, hB', hL⟩ := hI
      refine ⟨S, ?_, hV, fun q' b v' h1 h2 => ?_⟩
      · unfold f_X2_learnSteps_15b
        rw [if_pos (show (8 : Int32) ≤ nI 8 by decide)]
      · by_cases z : q' = q
        · subst z; exact hL b v' h2
        · exact hB' q' b v' (by omega) h2
  unfold f_X2_learnSteps
  have h0 := lp_ex (body := f_X2_learnSteps_2b o (fun v19 S20 => some ((), S20))) (Q := fun w => ∃ T', w = some ((), T') ∧ oS T T' ∧ TBL T' c r (cm c)) (cm c) (fun q u S => u = nI q ∧ oS T S ∧ TBL S c r q) (fun q k u S hq hI => ?_) (fun k u S hI => ?_) FU 0 (0 : Int32) T (by omega) (by unfold FU; omega) ⟨rfl, Sm.rf T, fun q b v h => by omega⟩
  · exact h0
  · obtain ⟨rfl, hV, hB⟩ := hI
    obtain ⟨U', u1, u2, u3⟩ := inn q S (fun v17 S18 => k (nI q + (1 : Int32)) S18) hq hV hB
    refine ⟨_, U', ?_, rfl, u2, u3⟩
    unfold f_X2_learnSteps_2b
    rw [(hV.w.cc hC).1, if_neg (by rw [nLe (by omega) (by omega)]; omega)]
    refine u1.trans ?_
    rw [a1]
  · obtain ⟨rfl, hV, hB⟩ := hI
    refine ⟨S, ?_, hV, hB⟩
    unfold f_X2_learnSteps_2b
    rw [(hV.w.cc hC).1, if_pos (by rw [nLe (by omega) (by omega)]; omega)]
/-- an echo by the steps -/
theorem cmo_n (c : Cv) (r : Rl) (l : Pth) {v : Nat} (hv : v < 8) : ∀ i, i ≤ l.length → ∃ k, k < 8 ∧ cmo c r 0 (l.take i) (nI v) = nI k := by
  intro i
  induction i with
  | zero => intro _; exact ⟨v, hv, rfl⟩
  | succ i ih =>
    intro hi
    obtain ⟨k, k1, k2⟩ := ih (by omega)
    obtain ⟨c1, c2⟩ := ci_e c r (l.getD i (0, false)) k
    exact ⟨_, c2, by rw [tk_s c r 0 l (nI v) (by omega), k2]; exact c1⟩
theorem kls_c {T : St} {c : Cv} {r : Rl} {l : Pth} {x : Nat} (ok : Cok c) (hE : ECs c T l x) (hl : Pok c l) (hB : TBL T c r (cm c)) : f_X2_keptByLearntSteps T = some (nI (kpt c r l 0), T) := by
  have hl1 := hl.1
  have inn : ∀ (a : Int32) (v : Nat) (e : Int32 × Int32 → St → Option (Int32 × St)), v < 8 → lp (f_X2_keptByLearntSteps_15b a (nI v) e) FU (nI v, 0) T = e (cmo c r 0 l (nI v), nI l.length) T := by
    intro a v e hv
    have h0 := lp_for (body := f_X2_keptByLearntSteps_15b a (nI v) e) l.length (fun i => ((cmo c r 0 (l.take i) (nI v), nI i), T)) (out := e (cmo c r 0 l (nI v), nI l.length) T) (fun i k hi => ?_) (fun k => ?_) FU 0 (by omega) (by unfold FU; omega)
    · exact h0
    · obtain ⟨k', k1, k2⟩ := cmo_n c r l hv i (by omega)
      have hp := pok_g hl hi
      have h12 := ok12 ok
      have w : inb (nI i) 12 := by rw [inb_nI (by omega)]; omega
      have sb : sAt (l.getD i (0, false)).1 (l.getD i (0, false)).2 k' < 192 := by
        unfold sAt
        split <;> omega
      have w2 : inb (nI (sAt (l.getD i (0, false)).1 (l.getD i (0, false)).2 k')) 192 := by rw [inb_nI (by omega)]; omega
      unfold f_X2_keptByLearntSteps_15b
      simp only
      rw [hE.1, if_neg (by rw [nLe (by omega) (by omega)]; omega)]
      simp only [if_pos w, nI_t (show i < 2147483648 by omega), (hE.2.2.2 i hi).1, (hE.2.2.2 i hi).2, k2]
      rw [sAt_e, bd_e, if_pos w2, nI_t (by omega), hB _ _ _ hp k1, lt_e, a1, tk_s c r 0 l (nI v) hi, k2]
    · unfold f_X2_keptByLearntSteps_15b
      simp only
      rw [hE.1, if_pos (by rw [nLe (by omega) (by omega)]; omega), List.take_length]
  unfold f_X2_keptByLearntSteps
  refine lp_for (body := f_X2_keptByLearntSteps_4b (fun v11 S12 => some (v11.1, S12))) 8 (fun v => ((nI (cntN (kpB c r l 0) v), nI v), T)) (out := some (nI (kpt c r l 0), T)) (fun v k hv => ?_) (fun k => ?_) FU 0 (by omega) (by unfold FU; omega)
  · unfold f_X2_keptByLearntSteps_4b f_X2_keptByLearntSteps_65
    simp only
    rw [if_neg (nLe8 hv)]
    refine (inn _ v _ hv).trans ?_
    dsimp only
    rw [lt_e, lt_e, a1, cntN]
    by_cases g : cmo c r 0 l (nI v) = nI v
    · rw [if_pos g, if_pos (show kpB c r l 0 v = true from decide_eq_true g), a1]
    · rw [if_neg g, if_neg (show ¬ kpB c r l 0 v = true from fun z => g (of_decide_eq_true z)), Int32.add_zero, Nat.add_zero, a1]
  · unfold f_X2_keptByLearntSteps_4b
    simp only
    rw [if_pos (show (8 : Int32) ≤ nI 8 by decide)]
    rfl
theorem ka_c {T : St} {c : Cv} {o : Nat} {r : Rl} (ok : Cok c) (hC : CC T c) (hr : RuC T o r.1 r.2) : ∃ T', f_X10_keptBy o T = some (nI (kaA c r 8), T') ∧ oX T T' := by
  have h12 := ok12 ok
  obtain ⟨T0, l1, l2, l3⟩ := learn_c ok hC hr
  have inn : ∀ (st a : Nat) (U : St) (e : Int32 × Int32 → St → Option (Int32 × St)), st ≤ 7 → offE T0 U → ∃ U', lp (f_X10_keptBy_21b o (nI st) e) FU (nI a, 0) U = e (nI (kaI c r st a (cm c)), nI (cm c)) U' ∧ offE T0 U' := by
    intro st a U e hst hU
    have h0 := lp_ex (body := f_X10_keptBy_21b o (nI st) e) (Q := fun w => ∃ U', w = e (nI (kaI c r st a (cm c)), nI (cm c)) U' ∧ offE T0 U') (cm c) (fun q v S => v = (nI (kaI c r st a q), nI q) ∧ offE T0 S) (fun q k v S hq hI => ?_) (fun k v S hI => ?_) FU 0 (nI a, (0 : Int32)) U (by omega) (by unfold FU; omega) ⟨rfl, hU⟩
    · exact h0
    · obtain ⟨rfl, hV⟩ := hI
      have hCS : CC S c := oX.cc (l2.w.tr hV.w) hC
      obtain ⟨S1, g1, g2, g3⟩ := goes_b ok hCS hst hq
      unfold f_X10_keptBy_21b f_X10_keptBy_56
      simp only
      rw [hCS.1, if_neg (by rw [nLe (by omega) (by omega)]; omega), g1, bd_e, kaI_s c r st a q]
      unfold kaS
      cases g : echB c st q with
      | false => exact ⟨_, S1, by rw [if_pos (show flI false = 0 from rfl), if_neg (by simp), a1], rfl, hV.tr g2⟩
      | true =>
        have hB1 : TBL S1 c r (cm c) := fun q' b v' h1 h2 => by
          rw [(hV.tr g2).1 95 _ (by omega) (by omega) (by omega)]; exact l3 q' b v' h1 h2
        refine ⟨_, S1, ?_, rfl, hV.tr g2⟩
        rw [if_neg (show ¬ flI true = 0 by decide), kls_c ok (g3 g) (pth_ok ok hst hq) hB1, bd_e, lt_e, nAdd, a1, if_pos rfl]
    · obtain ⟨rfl, hV⟩ := hI
      refine ⟨S, ?_, hV⟩
      unfold f_X10_keptBy_21b
      simp only
      rw [(oX.cc (l2.w.tr hV.w) hC).1, if_pos (by rw [nLe (by omega) (by omega)]; omega)]
  unfold f_X10_keptBy
  rw [l1, bd_e]
  have h0 := lp_ex (body := f_X10_keptBy_12b o (fun v13 S14 => some (v13.1, S14))) (Q := fun w => ∃ T', w = some (nI (kaA c r 8), T') ∧ oX T T') 8 (fun st v S => v = (nI (kaA c r st), nI st) ∧ offE T0 S) (fun st k v S hst hI => ?_) (fun k v S hI => ?_) FU 0 ((0 : Int32), (0 : Int32)) T0 (by omega) (by unfold FU; omega) ⟨rfl, offE.rf T0⟩
  · exact h0
  · obtain ⟨rfl, hV⟩ := hI
    obtain ⟨U', u1, u2⟩ := inn st (kaA c r st) S (fun v8 S9 => k (v8.1, (nI st + (1 : Int32))) S9) (by omega) hV
    refine ⟨_, U', ?_, rfl, u2⟩
    unfold f_X10_keptBy_12b
    simp only
    rw [if_neg (nLe8 hst)]
    refine u1.trans ?_
    simp only [a1]
    rfl
  · obtain ⟨rfl, hV⟩ := hI
    refine ⟨S, ?_, l2.w.tr hV.w⟩
    unfold f_X10_keptBy_12b
    simp only
    rw [if_pos (show (8 : Int32) ≤ nI 8 by decide)]
