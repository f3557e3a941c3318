/-! hints: the reference, both together -/
theorem spi_m {T : St} {c : Cv} {r : Rl} {l : Pth} {x i t : Nat} {W : Nat → Nat} (ok : Cok c) (hM : MX T c r) (hE : EMs c T l x) (hl : Pok c l) (hi : i < l.length) (ht : t ≤ 10) (hW : LA T 151 W) (x4 : Int32) (e k : Int64 × Int32 → St → Option (Int32 × St)) (w : Int64) : ∃ T', f_X11_hints_112b x4 (nI t) e k (w, nI i) T = k (w * 10, nI (i + 1)) T' ∧ oI T T' ∧ LA T' 151 (adW W t (ciN c r (l.getD i (0, false))) 8) := by
  have hl1 := hl.1
  generalize hp : l.getD i (0, false) = pp at *
  have hpq : pp.1 < cm c := by rw [← hp]; exact pok_g hl hi
  have s1 : ∀ e1 : Int32 → St → Option (Int32 × St), ∃ T1, lp (f_X11_hints_124b x4 (nI t) w (nI i) e1) FU 0 T = e1 (nI 8) T1 ∧ oI T T1 ∧ LA T1 151 W ∧ LA T1 152 (adW W t (ciN c r pp) 0) := by
    intro e1
    have h0 := lp_ex (body := f_X11_hints_124b x4 (nI t) w (nI i) e1) (Q := fun z => ∃ T1, z = e1 (nI 8) T1 ∧ oI T T1 ∧ LA T1 151 W ∧ LA T1 152 (adW W t (ciN c r pp) 0)) 8 (fun v u S => u = nI v ∧ oI T S ∧ LA S 151 W ∧ ∀ j, j < v → gL S 152 j = nL (W j * t)) (fun v kk u S hv hI => ?_) (fun kk u S hI => ?_) FU 0 (0 : Int32) T (by omega) (by unfold FU; omega) ⟨rfl, Sm.rf T, hW, fun j hj => by omega⟩
    · exact h0
    · obtain ⟨rfl, q, w1, w2⟩ := hI
      refine ⟨nI (v + 1), sL S 152 v (nL (W v * t)), ?_, rfl, q.sL rfl, fun j hj => w1 j hj, fun j hj => ?_⟩
      · unfold f_X11_hints_124b
        have wv : inb (nI v) 8 := by rw [inb_nI (by omega)]; omega
        rw [if_neg (nLe8 hv)]
        simp only [if_pos wv, nI_t (show v < 2147483648 by omega), lt_e, w1 v hv]
        rw [nL_i (by omega), nL_mul, a1]
      · rw [gL_l, if_pos rfl]
        by_cases z : j = v
        · rw [if_pos z, z]
        · rw [if_neg z]; exact w2 j (by omega)
    · obtain ⟨rfl, q, w1, w2⟩ := hI
      refine ⟨S, ?_, q, w1, fun j hj => w2 j hj⟩
      unfold f_X11_hints_124b
      rw [if_pos (show (8 : Int32) ≤ nI 8 by decide)]
  have s2 : ∀ (e1 : Int32 → St → Option (Int32 × St)) (T1 : St), oI T T1 → LA T1 151 W → LA T1 152 (adW W t (ciN c r pp) 0) → ∃ T2, lp (f_X11_hints_158b x4 (nI t) w (nI i) e1) FU 0 T1 = e1 (nI 8) T2 ∧ oI T T2 ∧ LA T2 151 W ∧ LA T2 152 (adW W t (ciN c r pp) 8) := by
    intro e1 T1 a2 a3 a4
    have h0 := lp_ex (body := f_X11_hints_158b x4 (nI t) w (nI i) e1) (Q := fun z => ∃ T2, z = e1 (nI 8) T2 ∧ oI T T2 ∧ LA T2 151 W ∧ LA T2 152 (adW W t (ciN c r pp) 8)) 8 (fun v u S => u = nI v ∧ oI T S ∧ LA S 151 W ∧ LA S 152 (adW W t (ciN c r pp) v)) (fun v kk u S hv hI => ?_) (fun kk u S hI => ?_) FU 0 (0 : Int32) T1 (by omega) (by unfold FU; omega) ⟨rfl, a2, a3, a4⟩
    · exact h0
    · obtain ⟨rfl, q, w1, w2⟩ := hI
      have hE' := hE.i q
      have hMS := hM.q q.q
      obtain ⟨ce, c8⟩ := ci_e c r pp v
      obtain ⟨S1, g1, g2⟩ := chg_m ok hMS.1 (by omega) hMS.2 hpq pp.2 0 (nI v)
      rw [ce] at g1
      have wi : inb (nI i) 12 := by rw [inb_nI (by omega)]; omega
      have wk : inb (nI (ciN c r pp v)) 8 := by rw [inb_nI (by omega)]; omega
      have wv : inb (nI v) 8 := by rw [inb_nI (by omega)]; omega
      have r7 : gL S1 152 (ciN c r pp v) = nL (adW W t (ciN c r pp) v (ciN c r pp v)) := (g2.2 152 _ rfl).trans (w2 _ c8)
      have r6 : gL S1 151 v = nL (W v) := (g2.2 151 _ rfl).trans (w1 v hv)
      have w2' : LA S1 152 (adW W t (ciN c r pp) v) := fun j hj => (g2.2 152 j rfl).trans (w2 j hj)
      have p1 := (hE'.2.2.2 i hi).1
      have p2 := (hE'.2.2.2 i hi).2
      rw [hp] at p1 p2
      refine ⟨nI (v + 1), sL S1 152 (ciN c r pp v) (nL (adW W t (ciN c r pp) v (ciN c r pp v) + W v * (10 - t))), ?_, rfl, (q.tr g2.i).sL rfl, fun j hj => (g2.2 151 j rfl).trans (w1 j hj), w2'.st _ _⟩
      unfold f_X11_hints_158b
      rw [if_neg (nLe8 hv)]
      simp only [if_pos wi, nI_t (show i < 2147483648 by omega), p1, p2]
      rw [g1, bd_e]
      simp only [if_pos wk, if_pos wv, nI_t (show ciN c r pp v < 2147483648 by omega), nI_t (show v < 2147483648 by omega), lt_e, r7, r6]
      rw [m10 ht, nL_mul, nL_add, a1]
    · obtain ⟨rfl, q, w1, w2⟩ := hI
      refine ⟨S, ?_, q, w1, w2⟩
      unfold f_X11_hints_158b
      rw [if_pos (show (8 : Int32) ≤ nI 8 by decide)]
  have s3 : ∀ (e1 : Int32 → St → Option (Int32 × St)) (T1 : St), oI T T1 → LA T1 152 (adW W t (ciN c r pp) 8) → ∃ T2, lp (f_X11_hints_221b x4 (nI t) w (nI i) e1) FU 0 T1 = e1 (nI 8) T2 ∧ oI T T2 ∧ LA T2 151 (adW W t (ciN c r pp) 8) := by
    intro e1 T1 a2 a3
    have h0 := lp_ex (body := f_X11_hints_221b x4 (nI t) w (nI i) e1) (Q := fun z => ∃ T2, z = e1 (nI 8) T2 ∧ oI T T2 ∧ LA T2 151 (adW W t (ciN c r pp) 8)) 8 (fun v u S => u = nI v ∧ oI T S ∧ LA S 152 (adW W t (ciN c r pp) 8) ∧ ∀ j, j < v → gL S 151 j = nL (adW W t (ciN c r pp) 8 j)) (fun v kk u S hv hI => ?_) (fun kk u S hI => ?_) FU 0 (0 : Int32) T1 (by omega) (by unfold FU; omega) ⟨rfl, a2, a3, fun j hj => by omega⟩
    · exact h0
    · obtain ⟨rfl, q, w1, w2⟩ := hI
      refine ⟨nI (v + 1), sL S 151 v (nL (adW W t (ciN c r pp) 8 v)), ?_, rfl, q.sL rfl, fun j hj => w1 j hj, fun j hj => ?_⟩
      · unfold f_X11_hints_221b
        have wv : inb (nI v) 8 := by rw [inb_nI (by omega)]; omega
        rw [if_neg (nLe8 hv)]
        simp only [if_pos wv, nI_t (show v < 2147483648 by omega), lt_e, w1 v hv]
        rw [a1]
      · rw [gL_l, if_pos rfl]
        by_cases z : j = v
        · rw [if_pos z, z]
        · rw [if_neg z]; exact w2 j (by omega)
    · obtain ⟨rfl, q, w1, w2⟩ := hI
      refine ⟨S, ?_, q, fun j hj => w2 j hj⟩
      unfold f_X11_hints_221b
      rw [if_pos (show (8 : Int32) ≤ nI 8 by decide)]
  obtain ⟨T1, a1', a2, a3, a4⟩ := s1 (fun v17 S18 => lp (f_X11_hints_158b x4 (nI t) w (nI i) (fun v19 S20 => lp (f_X11_hints_221b x4 (nI t) w (nI i) (fun v21 S22 => lt (w * (10 : Int64)) (fun y23 => k (y23, (nI i + (1 : Int32))) S22))) FU (0 : Int32) S20)) FU (0 : Int32) S18)
  obtain ⟨T2, b1, b2, b3, b4⟩ := s2 (fun v19 S20 => lp (f_X11_hints_221b x4 (nI t) w (nI i) (fun v21 S22 => lt (w * (10 : Int64)) (fun y23 => k (y23, (nI i + (1 : Int32))) S22))) FU (0 : Int32) S20) T1 a2 a3 a4
  obtain ⟨T3, c1, c2, c3⟩ := s3 (fun v21 S22 => lt (w * (10 : Int64)) (fun y23 => k (y23, (nI i + (1 : Int32))) S22)) T2 b2 b4
  refine ⟨T3, ?_, c2, c3⟩
  unfold f_X11_hints_112b
  simp only
  rw [hE.1, if_neg (by rw [nLe (by omega) (by omega)]; omega)]
  refine a1'.trans (b1.trans (c1.trans ?_))
  rw [lt_e, a1]
/-- how often each letter comes out, of 10 ^ i times -/
def hiW (c : Cv) (r : Rl) (l : Pth) (v t : Nat) : Nat → Nat → Nat
  | 0 => fun u => if u = v then 1 else 0
  | i + 1 => adW (hiW c r l v t i) t (ciN c r (l.getD i (0, false))) 8
theorem sm_1 {v : Nat} (hv : v < 8) : sm8 (fun u => if u = v then 1 else 0) 8 = 1 := by
  have q : ∀ v, v < 8 → sm8 (fun u => if u = v then 1 else 0) 8 = 1 := by decide +kernel
  exact q v hv
theorem hi_sm {c : Cv} {r : Rl} {l : Pth} {v t : Nat} (hv : v < 8) (ht : t ≤ 10) : ∀ i, sm8 (hiW c r l v t i) 8 = 10 ^ i := by
  intro i
  induction i with
  | zero => exact sm_1 hv
  | succ i ih =>
    rw [show hiW c r l v t (i + 1) = adW (hiW c r l v t i) t (ciN c r (l.getD i (0, false))) 8 from rfl, ad_sm (fun u _ => (ci_e c r _ u).2) 8 (by omega), ih, ← Nat.mul_add, show t + (10 - t) = 10 by omega, Nat.pow_succ]
theorem p1012 {i : Nat} (h : i ≤ 12) : 10 ^ i ≤ 1000000000000 := Nat.pow_le_pow_right (n := 10) (by omega) h
theorem fn_up : ∀ d n a b, fnN n a b → fnN (n + d) a b := by
  intro d
  induction d with
  | zero => intro n a b h; exact h
  | succ d ih => intro n a b h; exact fn_mo _ _ _ (ih n a b h)
theorem eu_up : ∀ d n a b, fnN n a b → euN (n + d) a b = euN n a b := by
  intro d
  induction d with
  | zero => intro n a b h; rfl
  | succ d ih => intro n a b h; rw [← Nat.add_assoc, eu_st _ _ _ (fn_up d n a b h), ih n a b h]
theorem eu_0 (n a : Nat) : euN n a 0 = a := by
  cases n with
  | zero => rfl
  | succ n => rw [euN, if_pos rfl]
theorem eu_sw {w p : Nat} (hw : 0 < w) (hp : p ≤ w) (h : w ≤ 1000000000000) : fnN 99 p w ∧ euN 99 p w = euN 80 w p := by
  have h40 : (2 : Nat) ^ 40 = 1099511627776 := by decide
  have f1 : fnN 80 p w := fn_k 40 p w (by omega)
  refine ⟨fn_up 19 80 p w f1, ?_⟩
  rw [show euN 99 p w = euN (80 + 19) p w from rfl, eu_up 19 80 p w f1, ← eu_st 80 p w f1, euN, if_neg (by omega)]
  by_cases e : p = w
  · subst e
    rw [Nat.mod_self, eu_0, show euN 80 p p = euN (79 + 1) p p from rfl, euN, if_neg (by omega), Nat.mod_self, eu_0]
  · rw [Nat.mod_eq_of_lt (by omega)]
theorem spr_c {T : St} {c : Cv} {o : Nat} {r : Rl} {l : Pth} {x t v : Nat} (ok : Cok c) (hC : CX T c o r) (hE : ECs c T l x) (hl : Pok c l) (ht : t ≤ 10) (hv : v < 8) : ∃ T', f_X2_spread o (nI v) (nI t) T = some (nL (10 ^ l.length), T') ∧ oH T T' ∧ LA T' 96 (hiW c r l v t l.length) := by
  have hl1 := hl.1
  unfold f_X2_spread
  have h0 := lp_ex (body := f_X2_spread_3b o (nI v) (nI t) (fun v22 S23 => lp (f_X2_spread_40b o (nI t) (fun v24 S25 => some (v24.1, S25))) FU ((1 : Int64), (0 : Int32)) S23)) (Q := fun z => ∃ T', z = some (nL (10 ^ l.length), T') ∧ oH T T' ∧ LA T' 96 (hiW c r l v t l.length)) 8 (fun j u S => u = nI j ∧ oH T S ∧ ∀ y, y < j → gL S 96 y = nL (if y = v then 1 else 0)) (fun j kk u S hj hI => ?_) (fun kk u S hI => ?_) FU 0 (0 : Int32) T (by omega) (by unfold FU; omega) ⟨rfl, Sm.rf T, fun y hy => by omega⟩
  · exact h0
  · obtain ⟨rfl, q, w1⟩ := hI
    have wv : inb (nI j) 8 := by rw [inb_nI (by omega)]; omega
    refine ⟨nI (j + 1), sL S 96 j (nL (if j = v then 1 else 0)), ?_, rfl, q.sL rfl, fun y hy => ?_⟩
    · unfold f_X2_spread_3b f_X2_spread_27
      rw [if_neg (nLe8 hj)]
      simp only [if_pos wv, nI_t (show j < 2147483648 by omega), lt_e, a1]
      have ez := nEq (a := j) (b := v) (by omega) (by omega)
      by_cases z : j = v
      · rw [if_pos (show nI j = nI v by rw [z]), if_pos z]; rfl
      · rw [if_neg (show ¬ nI j = nI v by rw [ez]; exact z), if_neg z]; rfl
    · rw [gL_l, if_pos rfl]
      by_cases z : y = j
      · rw [if_pos z, z]
      · rw [if_neg z]; exact w1 y (by omega)
  · obtain ⟨rfl, q, w1⟩ := hI
    unfold f_X2_spread_3b
    rw [if_pos (show (8 : Int32) ≤ nI 8 by decide)]
    have h1 := lp_ex (body := f_X2_spread_40b o (nI t) (fun v24 S25 => some (v24.1, S25))) (Q := fun z => ∃ T', z = some (nL (10 ^ l.length), T') ∧ oH T T' ∧ LA T' 96 (hiW c r l v t l.length)) l.length (fun i u S2 => u = (nL (10 ^ i), nI i) ∧ oH T S2 ∧ LA S2 96 (hiW c r l v t i)) (fun i k2 u S2 hi hI => ?_) (fun k2 u S2 hI => ?_) FU 0 ((1 : Int64), (0 : Int32)) S (by omega) (by unfold FU; omega) ⟨rfl, q, w1⟩
    · exact h1
    · obtain ⟨rfl, q2, y1⟩ := hI
      obtain ⟨S3, z1, z2, z3⟩ := spi_c ok (hC.q q2.q) (hE.h q2) hl hi ht y1 0 (fun v24 S25 => some (v24.1, S25)) k2 (nL (10 ^ i))
      refine ⟨(nL (10 ^ (i + 1)), nI (i + 1)), S3, ?_, rfl, q2.tr z2, z3⟩
      rw [z1, show (10 : Int64) = nL 10 from rfl, nL_mul, Nat.pow_succ]
    · obtain ⟨rfl, q2, y1⟩ := hI
      refine ⟨S2, ?_, q2, y1⟩
      unfold f_X2_spread_40b
      simp only
      rw [(hE.h q2).1, if_pos (by rw [nLe (by omega) (by omega)]; omega)]
theorem spr_m {T : St} {c : Cv} {r : Rl} {l : Pth} {x t v : Nat} (ok : Cok c) (hM : MX T c r) (hE : EMs c T l x) (hl : Pok c l) (ht : t ≤ 10) (hv : v < 8) (x4 : Int32) (e : Int64 × Int32 → St → Option (Int32 × St)) : ∃ T', lp (f_X11_hints_74b (nI v) x4 (nI t) (1 : Int64) (fun v45 S46 => lp (f_X11_hints_112b x4 (nI t) e) FU ((1 : Int64), (0 : Int32)) S46)) FU (0 : Int32) T = e (nL (10 ^ l.length), nI l.length) T' ∧ oI T T' ∧ LA T' 151 (hiW c r l v t l.length) := by
  have hl1 := hl.1
  have h0 := lp_ex (body := f_X11_hints_74b (nI v) x4 (nI t) (1 : Int64) (fun v45 S46 => lp (f_X11_hints_112b x4 (nI t) e) FU ((1 : Int64), (0 : Int32)) S46)) (Q := fun z => ∃ T', z = e (nL (10 ^ l.length), nI l.length) T' ∧ oI T T' ∧ LA T' 151 (hiW c r l v t l.length)) 8 (fun j u S => u = nI j ∧ oI T S ∧ ∀ y, y < j → gL S 151 y = nL (if y = v then 1 else 0)) (fun j kk u S hj hI => ?_) (fun kk u S hI => ?_) FU 0 (0 : Int32) T (by omega) (by unfold FU; omega) ⟨rfl, Sm.rf T, fun y hy => by omega⟩
  · exact h0
  · obtain ⟨rfl, q, w1⟩ := hI
    have wv : inb (nI j) 8 := by rw [inb_nI (by omega)]; omega
    refine ⟨nI (j + 1), sL S 151 j (nL (if j = v then 1 else 0)), ?_, rfl, q.sL rfl, fun y hy => ?_⟩
    · unfold f_X11_hints_74b f_X11_hints_98
      rw [if_neg (nLe8 hj), show f_X11_flag 1 S = some (1, S) from rfl, show f_X11_flag 0 S = some (0, S) from rfl, bd_e, bd_e]
      simp only [if_pos wv, nI_t (show j < 2147483648 by omega), lt_e, a1]
      have ez := nEq (a := j) (b := v) (by omega) (by omega)
      by_cases z : j = v
      · rw [if_pos (show nI j = nI v by rw [z]), if_pos z]; rfl
      · rw [if_neg (show ¬ nI j = nI v by rw [ez]; exact z), if_neg z]; rfl
    · rw [gL_l, if_pos rfl]
      by_cases z : y = j
      · rw [if_pos z, z]
      · rw [if_neg z]; exact w1 y (by omega)
  · obtain ⟨rfl, q, w1⟩ := hI
    unfold f_X11_hints_74b
    rw [if_pos (show (8 : Int32) ≤ nI 8 by decide)]
    have h1 := lp_ex (body := f_X11_hints_112b x4 (nI t) e) (Q := fun z => ∃ T', z = e (nL (10 ^ l.length), nI l.length) T' ∧ oI T T' ∧ LA T' 151 (hiW c r l v t l.length)) l.length (fun i u S2 => u = (nL (10 ^ i), nI i) ∧ oI T S2 ∧ LA S2 151 (hiW c r l v t i)) (fun i k2 u S2 hi hI => ?_) (fun k2 u S2 hI => ?_) FU 0 ((1 : Int64), (0 : Int32)) S (by omega) (by unfold FU; omega) ⟨rfl, q, w1⟩
    · exact h1
    · obtain ⟨rfl, q2, y1⟩ := hI
      obtain ⟨S3, z1, z2, z3⟩ := spi_m ok (hM.q q2.q) (hE.i q2) hl hi ht y1 x4 e k2 (nL (10 ^ i))
      refine ⟨(nL (10 ^ (i + 1)), nI (i + 1)), S3, ?_, rfl, q2.tr z2, z3⟩
      rw [z1, show (10 : Int64) = nL 10 from rfl, nL_mul, Nat.pow_succ]
    · obtain ⟨rfl, q2, y1⟩ := hI
      refine ⟨S2, ?_, q2, y1⟩
      unfold f_X11_hints_112b
      simp only
      rw [(hE.i q2).1, if_pos (by rw [nLe (by omega) (by omega)]; omega)]
theorem eq_hints : ∀ a1 a2 a3 a4 a5 : Int32, EQ1 RelP (f_X10_hints a1 a2 a3 a4 a5) (f_X11_hints a1 a2 a3 a4 a5) := by
  intro x y v w p
  apply qr
  intro S c o r hS ok hC hM
  by_cases hv : ¬ v < nI 0 ∧ ¬ nI 7 < v
  · by_cases hw : ¬ w < nI 0 ∧ ¬ nI 7 < w
    · by_cases hp : ¬ p < nI 0 ∧ ¬ nI 10 < p
      · by_cases he : echP c x y
        · obtain ⟨q, st, hq, hst, rfl, rfl, ho, hen⟩ := he
          have hl := pth_ok ok hst hq
          have hl1 := hl.1
          obtain ⟨v', hv8, rfl⟩ := as_le hv.1 hv.2
          obtain ⟨w', hw8, rfl⟩ := as_le hw.1 hw.2
          obtain ⟨p', hp8, rfl⟩ := as_le hp.1 hp.2
          generalize hL : pth c st q = l at hl hl1
          have hsm := hi_sm (c := c) (r := r) (l := l) (v := v') (t := p') (by omega) hp8 l.length
          have hpl := sm_le (W := hiW c r l v' p' l.length) (u := w') 8 (by omega)
          rw [hsm] at hpl
          have h12 := p1012 (i := l.length) (by omega)
          have hpos : 0 < 10 ^ l.length := Nat.pow_pos (by omega)
          generalize hA : hiW c r l v' p' l.length w' = A at hpl
          generalize hB : 10 ^ l.length = B at hpl h12 hpos
          have h40 : (2 : Nat) ^ 40 = 1099511627776 := by decide
          have f1 : fnN 80 B A := fn_k 40 B A (by omega)
          have f2 := eu_sw hpos hpl h12
          have gp := eu_pos 80 B A hpos
          have gl := eu_le 80 B A B (Nat.le_refl _) hpl
          generalize hG : euN 80 B A = G at *
          have gz : ¬ nL G = 0 := by rw [show (0 : Int64) = nL 0 from rfl, nL_eq (by omega) (by omega)]; omega
          have ww : inb (nI w') 8 := by rw [inb_nI (by omega)]; omega
          refine ⟨0, some [nL A / nL G, nL B / nL G], (fun l e => by cases e; simp), ?_, fun S1 hM1 q1 => ?_⟩
          · obtain ⟨T1, g1, g2, g3⟩ := goes_y ok hC.1 hst hq ho hen
            rw [hL] at g3
            have hC1 := hC.q g2.q
            obtain ⟨T2, k1, k2, k3⟩ := spr_c ok hC1 g3 hl hp8 (show v' < 8 by omega)
            obtain ⟨T3, s1, s2, s3, s4⟩ := put_e (nL A / nL G) (RwC.nil T2) (by simp)
            obtain ⟨T4, t1, t2, t3, t4⟩ := put_e (nL B / nL G) s3 (by simp)
            refine AC.y (S1 := T4) ?_ ((((g2.q.tr k2.q).tr (q10 T2 0)).tr s2).tr t2) t3
            unfold f_X10_hints
            rw [isLet_c, if_pos hv, bd_e, if_neg (show ¬ nI 1 = 0 by decide), isLet_c, if_pos hw, bd_e, if_neg (show ¬ nI 1 = 0 by decide), if_neg (show ¬ nI p' < 0 from hp.1), if_neg (show ¬ 10 < nI p' from hp.2), g1, bd_e, if_neg (show ¬ nI 1 = 0 by decide), if_pos (isRl hC1).1, (isRl hC1).2, k1, bd_e, if_pos ww, lt_e, nI_t (by omega), k3 w' (by omega), hA, hB, com_c h12 (by omega) hpos 80 (by omega) f1, bd_e, hG, begin_e, bd_e, if_pos gz, s1, bd_e, if_pos gz, t1, bd_e]
          · have hM0 := hM1.q (q00 S1 0)
            obtain ⟨T1, g1, g2, g3⟩ := lays_m ok hM0.1 (by omega) (by omega) (by omega) hst hq ho
            rw [hL] at g3
            have key := fun e => spr_m (e := e) ok (hM0.q g2.q) g3 hl hp8 (show v' < 8 by omega) (nI w')
            obtain ⟨T2, k1, k2, k3⟩ := key (fun v47 S48 => if inb (nI w') 8 then bd (F_X11_common 100 (gL S48 151 (nI w').toNatClampNeg) v47.1 S48) (fun r50 S51 => lt (sI S51 122 1 (0 : Int32)) (fun S53 => if inb (nI w') 8 then if ¬ r50 = 0 then bd (f_X11_enters ((gL S53 151 (nI w').toNatClampNeg) / r50) S53) (fun r56 S57 => if ¬ r50 = 0 then bd (f_X11_enters (v47.1 / r50) S57) (fun r60 S61 => some ((0 : Int32), S61)) else none) else none else none)) else none)
            obtain ⟨T3, s1, s2, s3, s4⟩ := ent_e (nL A / nL G) (RwM.nil T2) (by simp)
            obtain ⟨T4, t1, t2, t3, t4⟩ := ent_e (nL B / nL G) s3 (by simp)
            refine AM.y (S1 := T4) ?_ ((((((q00 S1 0).tr g2.q).tr k2.q).tr (q01 T2 0)).tr s2).tr t2) t3
            have kk : gL T2 151 w' = nL A := by rw [k3 w' (by omega), hA]
            unfold f_X11_hints
            rw [lt_e, isE_y ok hM0.1 hst hq ho hen, bd_e, if_neg (show ¬ nI 1 = 0 by decide), in_0_7, if_pos hv, bd_e, if_neg (show ¬ nI 1 = 0 by decide), in_0_7, if_pos hw, bd_e, if_neg (show ¬ nI 1 = 0 by decide), in_0_10, if_pos hp, bd_e, if_neg (show ¬ nI 1 = 0 by decide), g1, bd_e]
            refine k1.trans ?_
            simp only
            simp only [if_pos ww, nI_t (show w' < 2147483648 by omega)]
            rw [kk, hB, show F_X11_common 100 (nL A) (nL B) T2 = F_X11_common (99 + 1) (nL A) (nL B) T2 from rfl, com_m 99 A B (by omega) h12 f2.1, f2.2, bd_e, lt_e, if_pos gz, gL_s, kk, s1, bd_e, if_pos gz, t1, bd_e]
        · refine ⟨-1, none, (fun l e => by cases e), ?_, fun S1 hM1 q1 => ?_⟩
          · refine AC.n (S1 := S) ?_ (Sm.rf S)
            unfold f_X10_hints
            rw [isLet_c, if_pos hv, bd_e, if_neg (show ¬ nI 1 = 0 by decide), isLet_c, if_pos hw, bd_e, if_neg (show ¬ nI 1 = 0 by decide), if_neg (show ¬ p < 0 from hp.1), if_neg (show ¬ 10 < p from hp.2), goes_n ok hC.1 he, bd_e, if_pos z00]
          · refine AM.n (S1 := sI S1 122 0 0) ?_ (q00 S1 0)
            unfold f_X11_hints
            rw [lt_e, isE_n ok (hM1.q (q00 S1 0)).1 he, bd_e, if_pos z00]
      · refine ⟨-1, none, (fun l e => by cases e), ?_, fun S1 hM1 q1 => ?_⟩
        · refine AC.n (S1 := S) ?_ (Sm.rf S)
          unfold f_X10_hints
          rw [isLet_c, if_pos hv, bd_e, if_neg (show ¬ nI 1 = 0 by decide), isLet_c, if_pos hw, bd_e, if_neg (show ¬ nI 1 = 0 by decide)]
          by_cases h1 : p < 0
          · rw [if_pos h1]
          · rw [if_neg h1, if_pos (show 10 < p from Decidable.byContradiction fun h2 => hp ⟨h1, h2⟩)]
        · refine AM.n (S1 := sI S1 122 0 0) ?_ (q00 S1 0)
          unfold f_X11_hints
          rw [lt_e]
          by_cases he : echP c x y
          · obtain ⟨q, st, hq, hst, rfl, rfl, ho, hen⟩ := he
            rw [isE_y ok (hM1.q (q00 S1 0)).1 hst hq ho hen, bd_e, if_neg (show ¬ nI 1 = 0 by decide), in_0_7, if_pos hv, bd_e, if_neg (show ¬ nI 1 = 0 by decide), in_0_7, if_pos hw, bd_e, if_neg (show ¬ nI 1 = 0 by decide), in_0_10, if_neg hp, bd_e, if_pos z00]
          · rw [isE_n ok (hM1.q (q00 S1 0)).1 he, bd_e, if_pos z00]
    · refine ⟨-1, none, (fun l e => by cases e), ?_, fun S1 hM1 q1 => ?_⟩
      · refine AC.n (S1 := S) ?_ (Sm.rf S)
        unfold f_X10_hints
        rw [isLet_c, if_pos hv, bd_e, if_neg (show ¬ nI 1 = 0 by decide), isLet_c, if_neg hw, bd_e, if_pos z00]
      · refine AM.n (S1 := sI S1 122 0 0) ?_ (q00 S1 0)
        unfold f_X11_hints
        rw [lt_e]
        by_cases he : echP c x y
        · obtain ⟨q, st, hq, hst, rfl, rfl, ho, hen⟩ := he
          rw [isE_y ok (hM1.q (q00 S1 0)).1 hst hq ho hen, bd_e, if_neg (show ¬ nI 1 = 0 by decide), in_0_7, if_pos hv, bd_e, if_neg (show ¬ nI 1 = 0 by decide), in_0_7, if_neg hw, bd_e, if_pos z00]
        · rw [isE_n ok (hM1.q (q00 S1 0)).1 he, bd_e, if_pos z00]
  · refine ⟨-1, none, (fun l e => by cases e), ?_, fun S1 hM1 q1 => ?_⟩
    · refine AC.n (S1 := S) ?_ (Sm.rf S)
      unfold f_X10_hints
      rw [isLet_c, if_neg hv, bd_e, if_pos z00]
    · refine AM.n (S1 := sI S1 122 0 0) ?_ (q00 S1 0)
      unfold f_X11_hints
      rw [lt_e]
      by_cases he : echP c x y
      · obtain ⟨q, st, hq, hst, rfl, rfl, ho, hen⟩ := he
        rw [isE_y ok (hM1.q (q00 S1 0)).1 hst hq ho hen, bd_e, if_neg (show ¬ nI 1 = 0 by decide), in_0_7, if_neg hv, bd_e, if_pos z00]
      · rw [isE_n ok (hM1.q (q00 S1 0)).1 he, bd_e, if_pos z00]
