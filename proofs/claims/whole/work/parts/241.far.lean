/-! the class's and the reference's rows of how far -/
def DA (T : St) (ob : Nat) (F : Nat → Nat → Nat) : Prop := ∀ x y, x < 8 → y < 8 → gI T ob (8 * x + y) = nI (F x y)
theorem DA.cg {T : St} {ob : Nat} {F G : Nat → Nat → Nat} (h : DA T ob F) (e : ∀ x y, x < 8 → y < 8 → F x y = G x y) : DA T ob G := fun x y hx hy => by rw [← e x y hx hy]; exact h x y hx hy
abbrev oD : St → St → Prop := Sm (fun a _ => decide (a ≠ 99)) (fun _ => true)
abbrev oG : St → St → Prop := Sm (fun a _ => decide (a ≠ 136)) (fun _ => true)
theorem oD.q {T T' : St} (h : oD T T') : QC T T' := by
  refine ⟨fun a b hab => h.1 a b ?_, fun a b _ => h.2 a b rfl⟩
  have e1 : a ≠ 99 := by intro e; subst e; cases hab
  simp [e1]
theorem oG.q {T T' : St} (h : oG T T') : QM T T' := by
  refine ⟨fun a b hab => h.1 a b ?_, fun a b _ => h.2 a b rfl⟩
  have e1 : a ≠ 136 := by intro e; subst e; cases hab
  simp [e1]
theorem ix8 (a b : Nat) : nI a * (8 : Int32) + nI b = nI (8 * a + b) := by
  rw [show (8 : Int32) = nI 8 from rfl, nMul, nAdd, Nat.mul_comm]
theorem i8x (a b : Nat) : (8 : Int32) * nI a + nI b = nI (8 * a + b) := by
  rw [show (8 : Int32) = nI 8 from rfl, nMul, nAdd]
theorem far_c {T : St} {F : Nat → Nat → Nat} (h : DA T 99 F) {a b : Nat} (ha : a < 8) (hb : b < 8) : f_X9_farOf (nI a) (nI b) T = some (nI (F a b), T) := by
  unfold f_X9_farOf
  rw [ix8, if_pos (show inb (nI (8 * a + b)) 64 by rw [inb_nI (by omega)]; omega), nI_t (by omega), h a b ha hb]
theorem far_m {T : St} {F : Nat → Nat → Nat} (h : DA T 136 F) {a b : Nat} (ha : a < 8) (hb : b < 8) : f_X11_farOf (nI a) (nI b) T = some (nI (F a b), T) := by
  unfold f_X11_farOf
  rw [i8x, if_pos (show inb (nI (8 * a + b)) 64 by rw [inb_nI (by omega)]; omega), nI_t (by omega), h a b ha hb]
theorem DA.st {T : St} {ob : Nat} {F : Nat → Nat → Nat} (h : DA T ob F) {a b v : Nat} (ha : a < 8) (hb : b < 8) : DA (sI T ob (8 * a + b) (nI v)) ob (fun x y => if x = a ∧ y = b then v else F x y) := by
  intro x y hx hy
  rw [gI_s, if_pos rfl]
  by_cases e : x = a ∧ y = b
  · rw [if_pos (by omega)]; dsimp only; rw [if_pos e]
  · rw [if_neg (by omega)]; dsimp only; rw [if_neg e]; exact h x y hx hy
theorem short_c {T : St} {F : Nat → Nat → Nat} (h : DA T 99 F) (hF : ∀ x y, F x y ≤ 1000000) {a b m : Nat} (ha : a < 8) (hb : b < 8) (hm : m ≤ 3000000) : ∃ T', f_X9_shorten (nI a) (nI b) (nI m) T = some ((), T') ∧ oD T T' ∧ DA T' 99 (shF F a b m) := by
  have hf := hF a b
  refine ⟨sI T 99 (8 * a + b) (nI (min (F a b) m)), ?_, (Sm.rf T).sI rfl, (h.st ha hb).cg (fun x y _ _ => ?_)⟩
  · unfold f_X9_shorten
    have w : inb (nI (8 * a + b)) 64 := by rw [inb_nI (by omega)]; omega
    rw [ix8]
    simp only [if_pos w, nI_t (show 8 * a + b < 2147483648 by omega), lt_e, h a b ha hb]
    rw [mnNI (by omega) (by omega)]
  · unfold shF
    by_cases e : x = a ∧ y = b
    · rw [if_pos e, if_pos e, e.1, e.2]
    · rw [if_neg e, if_neg e]
theorem ini_c {T : St} {a : Nat} (ha : a < 8) (h : ∀ x y, x < a → y < 8 → gI T 99 (8 * x + y) = nI (d0 x y)) (e : Int32 → St → Option (Unit × St)) : ∃ T', lp (f_X9_measure_10b (nI a) e) FU 0 T = e (nI 8) T' ∧ oD T T' ∧ ∀ x y, x < a + 1 → y < 8 → gI T' 99 (8 * x + y) = nI (d0 x y) := by
  have h0 := lp_ex (body := f_X9_measure_10b (nI a) e) (Q := fun w => ∃ T', w = e (nI 8) T' ∧ oD T T' ∧ ∀ x y, x < a + 1 → y < 8 → gI T' 99 (8 * x + y) = nI (d0 x y)) 8 (fun b v S => v = nI b ∧ oD T S ∧ ∀ x y, (x < a ∧ y < 8) ∨ (x = a ∧ y < b) → gI S 99 (8 * x + y) = nI (d0 x y)) (fun b k v S hb hI => ?_) (fun k v S hI => ?_) FU 0 (0 : Int32) T (by omega) (by unfold FU; omega) ⟨rfl, Sm.rf T, fun x y hxy => h x y (by omega) (by omega)⟩
  · exact h0
  · obtain ⟨rfl, q, w⟩ := hI
    refine ⟨nI (b + 1), sI S 99 (8 * a + b) (nI (d0 a b)), ?_, rfl, q.sI rfl, fun x y hxy => ?_⟩
    · unfold f_X9_measure_10b f_X9_measure_38 d0
      have w : inb (nI (8 * a + b)) 64 := by rw [inb_nI (by omega)]; omega
      rw [if_neg (nLe8 hb), ix8]
      simp only [if_pos w, nI_t (show 8 * a + b < 2147483648 by omega), lt_e, a1]
      by_cases g : a = b
      · rw [if_pos (by rw [g]), if_pos g]; rfl
      · rw [if_neg (by rw [nEq (by omega) (by omega)]; exact g), if_neg g]; rfl
    · rw [gI_s, if_pos rfl]
      by_cases g : x = a ∧ y = b
      · rw [if_pos (by omega), g.1, g.2]
      · rw [if_neg (by omega)]; exact w x y (by omega)
  · obtain ⟨rfl, q, w⟩ := hI
    refine ⟨S, ?_, q, fun x y hx hy => w x y (by omega)⟩
    unfold f_X9_measure_10b
    rw [if_pos (show (8 : Int32) ≤ nI 8 by decide)]
theorem edge_c {T : St} {c : Cv} (ok : Cok c) (hC : CC T c) (h : DA T 99 d0) (e : Int32 → St → Option (Unit × St)) : ∃ T', lp (f_X9_measure_53b e) FU 0 T = e (nI (cm c)) T' ∧ oD T T' ∧ DA T' 99 (dE c (co c) (cm c)) := by
  have h12 := ok12 ok
  have h0 := lp_ex (body := f_X9_measure_53b e) (Q := fun w => ∃ T', w = e (nI (cm c)) T' ∧ oD T T' ∧ DA T' 99 (dE c (co c) (cm c))) (cm c) (fun i v S => v = nI i ∧ oD T S ∧ DA S 99 (dE c (co c) i)) (fun i k v S hi hI => ?_) (fun k v S hI => ?_) FU 0 (0 : Int32) T (by omega) (by unfold FU; omega) ⟨rfl, Sm.rf T, h⟩
  · exact h0
  · obtain ⟨rfl, q, w⟩ := hI
    have hCS := hC.q q.q
    obtain ⟨k1, k2, ne, d1, d9, _⟩ := ok.2.1 i hi
    have wi : inb (nI i) 12 := by rw [inb_nI (by omega)]; omega
    have bF : ∀ x y, dE c (co c) i x y ≤ 1000000 := fun x y => by have := ((dE_snd (c := c) (o := co c) i (by omega)).1 x y).1; omega
    unfold f_X9_measure_53b f_X9_measure_143
    rw [hCS.1, if_neg (by rw [nLe (by omega) (by omega)]; omega), isOpen_c ok hCS (by omega), bd_e, dE]
    simp only [fl3z]
    by_cases g : (co c).testBit i = true
    · obtain ⟨e1, e2, e3, _⟩ := hCS.2.1 i hi
      obtain ⟨S1, s1, s2, s3⟩ := short_c w bF (a := ca c i) (b := cb c i) (m := cd c i) (by omega) (by omega) (by omega)
      obtain ⟨f1, f2, f3, _⟩ := (hCS.q s2.q).2.1 i hi
      obtain ⟨S2, t1, t2, t3⟩ := short_c s3 (fun x y => Nat.le_trans (shF_le _ _ _ _ _ _) (bF x y)) (a := cb c i) (b := ca c i) (m := cd c i) (by omega) (by omega) (by omega)
      refine ⟨nI (i + 1), S2, ?_, rfl, (q.tr s2).tr t2, by rw [if_pos g]; exact t3⟩
      rw [if_pos g]
      simp only [if_pos wi, nI_t (show i < 2147483648 by omega)]
      rw [e1, e2, e3, s1, bd_e, f1, f2, f3, t1, bd_e, a1]
    · refine ⟨nI (i + 1), S, by rw [if_neg g, a1], rfl, q, by rw [if_neg g]; exact w⟩
  · obtain ⟨rfl, q, w⟩ := hI
    refine ⟨S, ?_, q, w⟩
    unfold f_X9_measure_53b
    rw [(hC.q q.q).1, if_pos (by rw [nLe (by omega) (by omega)]; omega)]
def mixF (F : Nat → Nat → Nat) (k a b : Nat) : Nat → Nat → Nat := fun x y => if x < a ∨ (x = a ∧ y < b) then fwS F k x y else F x y
theorem fwb_c {T : St} {F : Nat → Nat → Nat} {k a : Nat} (hk : k < 8) (ha : a < 8) (h : DA T 99 (mixF F k a 0)) (hF : ∀ x y, F x y ≤ 1000) (hF0 : F k k = 0) (e : Int32 → St → Option (Unit × St)) : ∃ T', lp (f_X9_measure_167b (nI k) (nI a) e) FU 0 T = e (nI 8) T' ∧ oD T T' ∧ DA T' 99 (mixF F k a 8) := by
  have h0 := lp_ex (body := f_X9_measure_167b (nI k) (nI a) e) (Q := fun w => ∃ T', w = e (nI 8) T' ∧ oD T T' ∧ DA T' 99 (mixF F k a 8)) 8 (fun b v S => v = nI b ∧ oD T S ∧ DA S 99 (mixF F k a b)) (fun b kk v S hb hI => ?_) (fun kk v S hI => ?_) FU 0 (0 : Int32) T (by omega) (by unfold FU; omega) ⟨rfl, Sm.rf T, h⟩
  · exact h0
  · obtain ⟨rfl, q, w⟩ := hI
    have m1' : mixF F k a b a k = F a k := by
      unfold mixF
      split
      · unfold fwS; rw [hF0]; omega
      · rfl
    have m2 : mixF F k a b k b = F k b := by
      unfold mixF
      split
      · unfold fwS; rw [hF0]; omega
      · rfl
    have bm : ∀ x y, mixF F k a b x y ≤ 1000000 := by
      intro x y
      have := hF x y
      unfold mixF
      split
      · unfold fwS; omega
      · omega
    have f1 := hF a k
    have f2 := hF k b
    obtain ⟨S1, s1, s2, s3⟩ := short_c w bm (a := a) (b := b) (m := F a k + F k b) ha hb (by omega)
    refine ⟨nI (b + 1), S1, ?_, rfl, q.tr s2, s3.cg (fun x y hx hy => ?_)⟩
    · unfold f_X9_measure_167b
      rw [if_neg (nLe8 hb), far_c w ha hk, bd_e, far_c w hk hb, bd_e, m1', m2, nAdd, s1, bd_e, a1]
    · unfold shF mixF
      by_cases g : x = a ∧ y = b
      · rw [if_pos g, if_neg (by omega), if_pos (by omega), g.1, g.2]; rfl
      · rw [if_neg g]
        by_cases g2 : x < a ∨ (x = a ∧ y < b)
        · rw [if_pos g2, if_pos (by omega)]
        · rw [if_neg g2, if_neg (by omega)]
  · obtain ⟨rfl, q, w⟩ := hI
    refine ⟨S, ?_, q, w⟩
    unfold f_X9_measure_167b
    rw [if_pos (show (8 : Int32) ≤ nI 8 by decide)]
theorem fwa_c {T : St} {F : Nat → Nat → Nat} {k : Nat} (hk : k < 8) (h : DA T 99 F) (hF : ∀ x y, F x y ≤ 1000) (hF0 : F k k = 0) (e : Int32 → St → Option (Unit × St)) : ∃ T', lp (f_X9_measure_159b (nI k) e) FU 0 T = e (nI 8) T' ∧ oD T T' ∧ DA T' 99 (fwS F k) := by
  have h0 := lp_ex (body := f_X9_measure_159b (nI k) e) (Q := fun w => ∃ T', w = e (nI 8) T' ∧ oD T T' ∧ DA T' 99 (fwS F k)) 8 (fun a v S => v = nI a ∧ oD T S ∧ DA S 99 (mixF F k a 0)) (fun a kk v S ha hI => ?_) (fun kk v S hI => ?_) FU 0 (0 : Int32) T (by omega) (by unfold FU; omega) ⟨rfl, Sm.rf T, h.cg (fun x y _ _ => by unfold mixF; rw [if_neg (by omega)])⟩
  · exact h0
  · obtain ⟨rfl, q, w⟩ := hI
    obtain ⟨S1, s1, s2, s3⟩ := fwb_c hk ha w hF hF0 (fun v10 S11 => kk (nI a + (1 : Int32)) S11)
    refine ⟨nI (a + 1), S1, ?_, rfl, q.tr s2, s3.cg (fun x y hx hy => ?_)⟩
    · unfold f_X9_measure_159b
      rw [if_neg (nLe8 ha)]
      refine s1.trans ?_
      rw [a1]
    · unfold mixF
      by_cases g : x < a + 1
      · rw [if_pos (by omega), if_pos (by omega)]
      · rw [if_neg (by omega), if_neg (by omega)]
  · obtain ⟨rfl, q, w⟩ := hI
    refine ⟨S, ?_, q, w.cg (fun x y hx hy => by unfold mixF; rw [if_pos (by omega)])⟩
    unfold f_X9_measure_159b
    rw [if_pos (show (8 : Int32) ≤ nI 8 by decide)]
theorem meas_c {T : St} {c : Cv} (ok : Cok c) (hC : CC T c) : ∃ T', f_X9_measure T = some ((), T') ∧ oD T T' ∧ DA T' 99 (dN c (co c)) := by
  obtain ⟨T1, i1, i2, i3⟩ : ∃ T', f_X9_measure T = lp (f_X9_measure_53b (fun v35 S36 => lp (f_X9_measure_151b (fun v37 S38 => some ((), S38))) FU (0 : Int32) S36)) FU (0 : Int32) T' ∧ oD T T' ∧ DA T' 99 d0 := by
    have h0 := lp_ex (body := f_X9_measure_2b (fun v33 S34 => lp (f_X9_measure_53b (fun v35 S36 => lp (f_X9_measure_151b (fun v37 S38 => some ((), S38))) FU (0 : Int32) S36)) FU (0 : Int32) S34)) (Q := fun w => ∃ T', w = lp (f_X9_measure_53b (fun v35 S36 => lp (f_X9_measure_151b (fun v37 S38 => some ((), S38))) FU (0 : Int32) S36)) FU (0 : Int32) T' ∧ oD T T' ∧ DA T' 99 d0) 8 (fun a v S => v = nI a ∧ oD T S ∧ ∀ x y, x < a → y < 8 → gI S 99 (8 * x + y) = nI (d0 x y)) (fun a kk v S ha hI => ?_) (fun kk v S hI => ?_) FU 0 (0 : Int32) T (by omega) (by unfold FU; omega) ⟨rfl, Sm.rf T, fun x y hx => by omega⟩
    · exact h0
    · obtain ⟨rfl, q, w⟩ := hI
      obtain ⟨S1, s1, s2, s3⟩ := ini_c ha w (fun v31 S32 => kk (nI a + (1 : Int32)) S32)
      refine ⟨nI (a + 1), S1, ?_, rfl, q.tr s2, s3⟩
      unfold f_X9_measure_2b
      rw [if_neg (nLe8 ha)]
      refine s1.trans ?_
      rw [a1]
    · obtain ⟨rfl, q, w⟩ := hI
      refine ⟨S, ?_, q, fun x y hx hy => w x y hx hy⟩
      unfold f_X9_measure_2b
      rw [if_pos (show (8 : Int32) ≤ nI 8 by decide)]
  obtain ⟨T2, j1, j2, j3⟩ := edge_c ok (hC.q i2.q) i3 (fun v35 S36 => lp (f_X9_measure_151b (fun v37 S38 => some ((), S38))) FU (0 : Int32) S36)
  have h0 := lp_ex (body := f_X9_measure_151b (fun v37 S38 => some ((), S38))) (Q := fun w => ∃ T', w = some ((), T') ∧ oD T T' ∧ DA T' 99 (dN c (co c))) 8 (fun k v S => v = nI k ∧ oD T S ∧ DA S 99 (dW c (co c) k)) (fun k kk v S hk hI => ?_) (fun kk v S hI => ?_) FU 0 (0 : Int32) T2 (by omega) (by unfold FU; omega) ⟨rfl, i2.tr j2, j3⟩
  · obtain ⟨T', e1, e2⟩ := h0
    exact ⟨T', i1.trans (j1.trans e1), e2⟩
  · obtain ⟨rfl, q, w⟩ := hI
    obtain ⟨S1, s1, s2, s3⟩ := fwa_c hk w (fun x y => ((dW_snd c (co c) k).1 x y).1) ((dW_snd c (co c) k).2 k) (fun v12 S13 => kk (nI k + (1 : Int32)) S13)
    refine ⟨nI (k + 1), S1, ?_, rfl, q.tr s2, s3⟩
    unfold f_X9_measure_151b
    rw [if_neg (nLe8 hk)]
    refine s1.trans ?_
    rw [a1]
  · obtain ⟨rfl, q, w⟩ := hI
    refine ⟨S, ?_, q, w⟩
    unfold f_X9_measure_151b
    rw [if_pos (show (8 : Int32) ≤ nI 8 by decide)]
/-! the reference -/
theorem rlx_m {T : St} {c : Cv} (ok : Cok c) (hC : CM T 126 c) {q x o : Nat} (hq : q < cm c) (hx : x < 8) (ho : o < 4096) (g : o.testBit q = true) {F : Nat → Nat → Nat} (h : DA T 136 F) (hF : ∀ x y, F x y ≤ 1000000) (x2 : Int32) (e k : Int32 → St → Option (Unit × St)) : ∃ T', f_X11_laysFar_55b (nI o) x2 (nI q) e k (nI x) T = k (nI (x + 1)) T' ∧ oG T T' ∧ DA T' 136 (rlx c q x F) := by
  have h12 := ok12 ok
  obtain ⟨k1, k2, ne, d1, d9, _⟩ := ok.2.1 q hq
  obtain ⟨e1, e2, e3, _⟩ := hC.2.1 q hq
  have f1 := hF x (ca c q)
  have f2 := hF x (cb c q)
  have wq : inb (nI q) 12 := by rw [inb_nI (by omega)]; omega
  have wq2 : inb (nI q) 39 := by rw [inb_nI (by omega)]; omega
  have wa : inb (nI (8 * x + ca c q)) 64 := by rw [inb_nI (by omega)]; omega
  have wb : inb (nI (8 * x + cb c q)) 64 := by rw [inb_nI (by omega)]; omega
  have h1 := h.st (a := x) (b := ca c q) (v := min (F x (ca c q)) (F x (cb c q) + cd c q)) hx (by omega)
  have ra := h1 x (ca c q) hx (by omega)
  have rb := h1 x (cb c q) hx (by omega)
  dsimp only at ra rb
  rw [if_pos ⟨rfl, rfl⟩] at ra
  rw [if_neg (fun z => ne z.2.symm)] at rb
  have h2 := h1.st (a := x) (b := cb c q) (v := min (F x (cb c q)) (min (F x (ca c q)) (F x (cb c q) + cd c q) + cd c q)) hx (by omega)
  refine ⟨_, ?_, ((Sm.rf T).sI rfl).sI rfl, h2.cg (fun a y _ _ => ?_)⟩
  · unfold f_X11_laysFar_55b
    rw [if_neg (nLe8 hx), has_m T (by omega) (by omega), bd_e]
    simp only [fl3z]
    rw [if_pos g]
    simp only [if_pos wq, nI_t (show q < 2147483648 by omega), e1, e2, i8x, lt_e, if_pos wa, if_pos wb, if_pos wq2, nI_t (show 8 * x + ca c q < 2147483648 by omega), nI_t (show 8 * x + cb c q < 2147483648 by omega), h x (ca c q) hx (by omega), h x (cb c q) hx (by omega), e3, nAdd]
    rw [mnNI (by omega) (by omega), rb, ra, show gI (sI T 136 (8 * x + ca c q) (nI (min (F x (ca c q)) (F x (cb c q) + cd c q)))) 126 q = gI T 126 q from rfl, e3, nAdd, mnNI (by omega) (by omega), a1]
  · have ne2 : ¬ cb c q = ca c q := fun z => ne z.symm
    unfold rlx
    simp only [true_and, ne2, if_true, if_false]
theorem rlC_m {T : St} {c : Cv} (ok : Cok c) (hC : CM T 126 c) {q o : Nat} (hq : q < cm c) (ho : o < 4096) {F : Nat → Nat → Nat} (h : DA T 136 F) (hF : ∀ x y, F x y ≤ 1000000) (x2 : Int32) (e : Int32 → St → Option (Unit × St)) (he : ∀ v w S, e v S = e w S) : ∃ T', lp (f_X11_laysFar_55b (nI o) x2 (nI q) e) FU 0 T = e 0 T' ∧ oG T T' ∧ DA T' 136 (if o.testBit q = true then rlC c q F 8 else F) := by
  by_cases g : o.testBit q = true
  · rw [if_pos g]
    have h0 := lp_ex (body := f_X11_laysFar_55b (nI o) x2 (nI q) e) (Q := fun w => ∃ T', w = e 0 T' ∧ oG T T' ∧ DA T' 136 (rlC c q F 8)) 8 (fun x v S => v = nI x ∧ oG T S ∧ DA S 136 (rlC c q F x)) (fun x k v S hx hI => ?_) (fun k v S hI => ?_) FU 0 (0 : Int32) T (by omega) (by unfold FU; omega) ⟨rfl, Sm.rf T, h⟩
    · exact h0
    · obtain ⟨rfl, w1, w2⟩ := hI
      obtain ⟨S1, s1, s2, s3⟩ := rlx_m ok (hC.q w1.q) hq hx ho g w2 (fun a y => Nat.le_trans (rlC_le c q F a y x) (hF a y)) x2 e k
      exact ⟨_, S1, s1, rfl, w1.tr s2, s3⟩
    · obtain ⟨rfl, w1, w2⟩ := hI
      refine ⟨S, ?_, w1, w2⟩
      unfold f_X11_laysFar_55b
      rw [if_pos (show (8 : Int32) ≤ nI 8 by decide)]
      exact he _ _ _
  · rw [if_neg g]
    refine ⟨T, ?_, Sm.rf T, h⟩
    have h12 := ok12 ok
    have l1 : lp (f_X11_laysFar_55b (nI o) x2 (nI q) e) FU 0 T = f_X11_laysFar_55b (nI o) x2 (nI q) e (lp (f_X11_laysFar_55b (nI o) x2 (nI q) e) 4999) 0 T := rfl
    rw [l1]
    unfold f_X11_laysFar_55b
    rw [if_neg (show ¬ (8 : Int32) ≤ 0 by decide), has_m T (by omega) (by omega), bd_e]
    simp only [fl3z]
    rw [if_neg g]
theorem rlQ_m {T : St} {c : Cv} (ok : Cok c) (hC : CM T 126 c) {o : Nat} (ho : o < 4096) {F : Nat → Nat → Nat} (h : DA T 136 F) (hF : ∀ x y, F x y ≤ 1000000) (x2 : Int32) (e : Int32 → St → Option (Unit × St)) : ∃ T', lp (f_X11_laysFar_44b (nI o) x2 e) FU 0 T = e (nI (cm c)) T' ∧ oG T T' ∧ DA T' 136 (rlQ c o F (cm c)) := by
  have h12 := ok12 ok
  have h0 := lp_ex (body := f_X11_laysFar_44b (nI o) x2 e) (Q := fun w => ∃ T', w = e (nI (cm c)) T' ∧ oG T T' ∧ DA T' 136 (rlQ c o F (cm c))) (cm c) (fun q v S => v = nI q ∧ oG T S ∧ DA S 136 (rlQ c o F q)) (fun q k v S hq hI => ?_) (fun k v S hI => ?_) FU 0 (0 : Int32) T (by omega) (by unfold FU; omega) ⟨rfl, Sm.rf T, h⟩
  · exact h0
  · obtain ⟨rfl, w1, w2⟩ := hI
    have bq : ∀ x y, rlQ c o F q x y ≤ 1000000 := fun x y => by
      have := rlQ_mo c o F x y 0 q
      rw [Nat.zero_add] at this
      exact Nat.le_trans this (hF x y)
    obtain ⟨S1, s1, s2, s3⟩ := rlC_m ok (hC.q w1.q) hq ho w2 bq x2 (fun v18 S19 => k (nI q + (1 : Int32)) S19) (fun _ _ _ => rfl)
    refine ⟨_, S1, ?_, rfl, w1.tr s2, s3⟩
    unfold f_X11_laysFar_44b
    rw [(hC.q w1.q).1, if_neg (by rw [nLe (by omega) (by omega)]; omega)]
    refine s1.trans ?_
    rw [a1]
  · obtain ⟨rfl, w1, w2⟩ := hI
    refine ⟨S, ?_, w1, w2⟩
    unfold f_X11_laysFar_44b
    rw [(hC.q w1.q).1, if_pos (by rw [nLe (by omega) (by omega)]; omega)]
theorem rlA_le (c : Cv) (o x y : Nat) : ∀ i, rlA c o i x y ≤ 1000000 := fun i => (rlA_sn c o i x y).1
theorem lays_far {T : St} {c : Cv} (ok : Cok c) (hC : CM T 126 c) {o : Nat} (ho : o < 4096) : ∃ T', f_X11_laysFar (nI o) T = some ((), T') ∧ oG T T' ∧ DA T' 136 (dM c o) := by
  obtain ⟨T1, i1, i2, i3⟩ : ∃ T', f_X11_laysFar (nI o) T = lp (f_X11_laysFar_36b (nI o) (fun v26 S27 => some ((), S27))) FU (0 : Int32) T' ∧ oG T T' ∧ DA T' 136 (fun x y => if x = y then 0 else 1000000) := by
    have h0 := lp_ex (body := f_X11_laysFar_2b (nI o) (fun v24 S25 => lp (f_X11_laysFar_36b (nI o) (fun v26 S27 => some ((), S27))) FU (0 : Int32) S25)) (Q := fun w => ∃ T', w = lp (f_X11_laysFar_36b (nI o) (fun v26 S27 => some ((), S27))) FU (0 : Int32) T' ∧ oG T T' ∧ DA T' 136 (fun x y => if x = y then 0 else 1000000)) 64 (fun i v S => v = nI i ∧ oG T S ∧ ∀ j, j < i → gI S 136 j = nI (if j % 9 = 0 then 0 else 1000000)) (fun i kk v S hi hI => ?_) (fun kk v S hI => ?_) FU 0 (0 : Int32) T (by omega) (by unfold FU; omega) ⟨rfl, Sm.rf T, fun j hj => by omega⟩
    · exact h0
    · obtain ⟨rfl, q, w⟩ := hI
      refine ⟨nI (i + 1), sI S 136 i (nI (if i % 9 = 0 then 0 else 1000000)), ?_, rfl, q.sI rfl, fun j hj => ?_⟩
      · unfold f_X11_laysFar_2b f_X11_laysFar_27
        have wi : inb (nI i) 64 := by rw [inb_nI (by omega)]; omega
        rw [if_neg (show ¬ (64 : Int32) ≤ nI i by rw [lit, nLe (by omega) (by omega)]; omega), show (9 : Int32) = nI 9 from rfl, nRem (by omega) (by omega)]
        simp only [if_pos wi, nI_t (show i < 2147483648 by omega), lt_e, a1]
        by_cases g : i % 9 = 0
        · rw [if_pos (show nI (i % 9) = 0 by rw [g]; rfl), if_pos g]; rfl
        · rw [if_neg (show ¬ nI (i % 9) = 0 by rw [lit, nEq (by omega) (by omega)]; exact g), if_neg g]; rfl
      · rw [gI_s, if_pos rfl]
        by_cases e : j = i
        · rw [if_pos e, e]
        · rw [if_neg e]; exact w j (by omega)
    · obtain ⟨rfl, q, w⟩ := hI
      refine ⟨S, ?_, q, fun x y hx hy => ?_⟩
      · unfold f_X11_laysFar_2b
        rw [if_pos (show (64 : Int32) ≤ nI 64 by decide)]
      · rw [w (8 * x + y) (by omega)]
        by_cases e : x = y
        · rw [if_pos (by omega)]; dsimp only; rw [if_pos e]
        · rw [if_neg (by omega)]; dsimp only; rw [if_neg e]
  have h0 := lp_ex (body := f_X11_laysFar_36b (nI o) (fun v26 S27 => some ((), S27))) (Q := fun w => ∃ T', w = some ((), T') ∧ oG T T' ∧ DA T' 136 (dM c o)) 8 (fun i v S => v = nI i ∧ oG T S ∧ DA S 136 (rlA c o i)) (fun i kk v S hi hI => ?_) (fun kk v S hI => ?_) FU 0 (0 : Int32) T1 (by omega) (by unfold FU; omega) ⟨rfl, i2, i3⟩
  · obtain ⟨T', e1, e2⟩ := h0
    exact ⟨T', i1.trans e1, e2⟩
  · obtain ⟨rfl, q, w⟩ := hI
    obtain ⟨S1, s1, s2, s3⟩ := rlQ_m ok (hC.q q.q) ho w (fun x y => rlA_le c o x y i) (nI i) (fun v20 S21 => kk (nI i + (1 : Int32)) S21)
    refine ⟨nI (i + 1), S1, ?_, rfl, q.tr s2, s3⟩
    unfold f_X11_laysFar_36b
    rw [if_neg (nLe8 hi)]
    refine s1.trans ?_
    rw [a1]
  · obtain ⟨rfl, q, w⟩ := hI
    refine ⟨S, ?_, q, w.cg (fun x y hx hy => rlA_8 ok hx hy)⟩
    unfold f_X11_laysFar_36b
    rw [if_pos (show (8 : Int32) ≤ nI 8 by decide)]
