theorem fos_c {T : St} {n k : Nat} {t : Nat → Nat} {y : SS} {f : Bool} (h : TxC T t) (hT : gI T 1 1 = nI n) (hn : n ≤ 80) (hE : endS t n k y f) : f_X8_faultOfSeason T = some (if f = true then -1 else nI k, T) := by
  obtain ⟨e1, e2, e3, e4⟩ := hE
  have em : mnI (nI n) (60 : Int32) = nI (min n 60) := mnNI (a := n) (b := 60) (by omega) (by omega)
  unfold f_X8_faultOfSeason
  rw [hT, em, lt_e]
  have h0 := lp_ex (body := f_X8_faultOfSeason_17b (nI (min n 60)) (fun v14 S15 => (if 0 < v14.1 then f_X8_faultOfSeason_133 (nI (min n 60)) S15 else (if v14.2.1 = 0 then f_X8_faultOfSeason_133 (nI (min n 60)) S15 else f_X8_faultOfSeason_138 (nI (min n 60)) (0 : Int32) S15)))) (Q := fun w => w = some (if f = true then -1 else nI k, T)) k (fun i v S => S = T ∧ ∃ z, mn t 0 i (0, none) = some z ∧ v = (nI z.1, optI z.2, nI i)) (fun i kk v S hi hI => ?_) (fun kk v S hI => ?_) FU 0 ((0 : Int32), (-1 : Int32), (0 : Int32)) T (by omega) (by unfold FU; omega) ⟨rfl, (0, none), rfl, rfl⟩
  · exact h0
  · obtain ⟨rfl, z, z1, rfl⟩ := hI
    obtain ⟨i1, i2⟩ := mn_inv i z z1
    obtain ⟨z', hz'⟩ := mn_pre (t := t) (a := 0) (x := (0, none)) (k - (i + 1)) (i + 1) y (by rw [show i + 1 + (k - (i + 1)) = k by omega]; exact e2)
    have hs := hz'
    rw [mn_s, z1, Nat.zero_add] at hs
    exact ⟨_, _, (fos_s h (x := min n 60) (by omega) (by omega) i1 i2 _ kk).1 z' hs, rfl, z', hz', rfl⟩
  · obtain ⟨rfl, z, z1, rfl⟩ := hI
    rw [e2] at z1
    obtain rfl := Option.some.inj z1
    obtain ⟨i1, i2⟩ := mn_inv k y e2
    by_cases g : k < min n 60
    · have ff : f = false := by
        cases f with
        | false => rfl
        | true => have := (e4 rfl).1; omega
      subst ff
      rw [if_neg (show ¬ false = true by simp)]
      exact (fos_s h (x := min n 60) g (by omega) i1 i2 _ kk).2 ((e3 rfl).2 g)
    · have ek : k = min n 60 := by omega
      have h60 : (nI n ≤ (60 : Int32)) = (n ≤ 60) := nLe (b := 60) (by omega) (by omega)
      have hg0 : ((0 : Int32) < nI y.1) = (0 < y.1) := nLt (a := 0) (by omega) (by omega)
      have hl0 : (optI y.2 = (0 : Int32)) ↔ y.2 = some 0 := by
        cases hz : y.2 with
        | none => exact ⟨fun q => absurd q (by decide), fun q => by cases q⟩
        | some l =>
          have := i2 l hz
          constructor
          · intro q
            change nI l = (0 : Int32) at q
            rw [lit, nEq (by omega) (by omega)] at q
            rw [q]
          · intro q
            have := Option.some.inj q
            subst this; rfl
      unfold f_X8_faultOfSeason_17b
      dsimp only
      rw [if_pos (show nI (min n 60) ≤ nI k by rw [nLe (by omega) (by omega)]; omega)]
      unfold f_X8_faultOfSeason_133 f_X8_faultOfSeason_138 f_X8_faultOfSeason_154
      rw [if_neg (show ¬ (1 : Int32) = 0 by decide), if_pos (show (0 : Int32) = 0 from rfl), hT, ← ek]
      by_cases c1 : 0 < y.1
      · have ff : f = false := by
          cases f with
          | false => rfl
          | true => exact absurd (Or.inl c1) (e4 rfl).2.2
        rw [if_pos (hg0.mpr c1), ff, if_neg (show ¬ false = true by simp)]
      · rw [if_neg (fun q => c1 (hg0.mp q))]
        by_cases c2 : y.2 = some 0
        · have ff : f = false := by
            cases f with
            | false => rfl
            | true => exact absurd (Or.inr c2) (e4 rfl).2.2
          rw [if_pos (hl0.mpr c2), ff, if_neg (show ¬ false = true by simp)]
        · rw [if_neg (fun q => c2 (hl0.mp q))]
          cases f with
          | true => rw [if_pos (h60.mpr (e4 rfl).2.1), if_pos rfl]
          | false =>
            have : 60 < n := by
              rcases (e3 rfl).1 ek with q | q
              · rcases q with q | q
                · exact absurd q c1
                · exact absurd q c2
              · exact q
            rw [if_neg (fun q => by have := h60.mp q; omega), if_neg (show ¬ false = true by simp)]
theorem endS.un {t : Nat → Nat} {n k k' : Nat} {y y' : SS} {f f' : Bool} (h : endS t n k y f) (h' : endS t n k' y' f') : k' = k ∧ f' = f := by
  obtain ⟨a1, a2, a3, a4⟩ := h
  obtain ⟨b1, b2, b3, b4⟩ := h'
  have ek : k' = k := by
    have lo : ∀ (k k' : Nat) (y y' : SS) (f : Bool), k < k' → k' ≤ min n 60 → mn t 0 k (0, none) = some y → mn t 0 k' (0, none) = some y' → (f = false → (k < min n 60 → smS (t k) y = none)) → (f = true → k = min n 60) → False := by
      intro k k' y y' f hlt hle e1 e2 e3 e4
      cases f with
      | true => have := e4 rfl; omega
      | false =>
        obtain ⟨z, hz⟩ := mn_pre (t := t) (a := 0) (x := (0, none)) (k' - (k + 1)) (k + 1) y' (by rw [show k + 1 + (k' - (k + 1)) = k' by omega]; exact e2)
        rw [mn_s, e1, Nat.zero_add] at hz
        have := e3 rfl (by omega)
        rw [show (some y).bind (smS (t k)) = smS (t k) y from rfl, this] at hz
        cases hz
    by_cases l1 : k < k'
    · exact (lo k k' y y' f l1 b1 a2 b2 (fun h => (a3 h).2) (fun h => (a4 h).1)).elim
    · by_cases l2 : k' < k
      · exact (lo k' k y' y f' l2 a1 b2 a2 (fun h => (b3 h).2) (fun h => (b4 h).1)).elim
      · omega
  subst ek
  rw [a2] at b2
  obtain rfl := Option.some.inj b2
  refine ⟨rfl, ?_⟩
  have lo : ∀ (f f' : Bool), f = true → f' = false → (f = true → k' = min n 60 ∧ n ≤ 60 ∧ ¬ ery y) → (f' = false → (k' = min n 60 → ery y ∨ 60 < n)) → False := by
    intro f f' e1 e2 e3 e4
    obtain ⟨c1, c2, c3⟩ := e3 e1
    rcases e4 e2 c1 with w | w
    · exact c3 w
    · omega
  cases hf : f with
  | true =>
    cases hf' : f' with
    | true => rfl
    | false => exact (lo f f' hf hf' a4 (fun h => (b3 h).1)).elim
  | false =>
    cases hf' : f' with
    | false => rfl
    | true => exact (lo f' f hf' hf b4 (fun h => (a3 h).1)).elim
theorem soa_c {T : St} {n p : Nat} {t : Nat → Nat} (h : TxC T t) (hT : gI T 1 1 = nI n) (hn : n ≤ 60) (hp : p < n) (hA : okA t n p) (hx : adv t n p < n → ltN (t (adv t n p)) = false) : f_X8_signsOfAct (nI p) T = some (nI (adv t n p - p), T) := by
  obtain ⟨a1', a2, a3, a4, a5, a6⟩ := hA
  have kd := kd_da a1'
  have w3 : f_X8_within (nI p) (115 : Int32) (115 : Int32) T = some (flI (decide (115 ≤ t p ∧ t p ≤ 115)), T) := wth_c h (by omega) (by decide) (by decide)
  unfold f_X8_signsOfAct f_X8_signsOfAct_29
  rw [doa_c h (by omega), bd_e, w3, bd_e]
  by_cases e3 : t p = 115
  · have k2 : kdN (t p) = 2 ∧ daN (t p) = 2 := by omega
    have ea : adv t n p = p + 3 + lcN t n (p + 3) := by unfold adv; rw [if_neg (by omega), if_neg (by omega)]
    rw [decide_eq_true (show 115 ≤ t p ∧ t p ≤ 115 by omega), if_neg (show ¬ flI true = 0 by decide), show nI p + (3 : Int32) = nI (p + 3) from nAdd p 3, letters_c (by omega) hT (by omega), bd_e]
    have el : ldN (fun i => ltB (gI T 2 (p + 3 + i))) (n - (p + 3)) = lcN t n (p + 3) := by
      have e : ldN (fun i => ltB (gI T 2 (p + 3 + i))) (n - (p + 3)) = ldN (fun i => ltN (t (p + 3 + i))) (n - (p + 3)) := by
        unfold ldN
        congr 1
        refine lst_eq (fun i => ?_)
        have q : i < n - (p + 3) → ltB (gI T 2 (p + 3 + i)) = ltN (t (p + 3 + i)) := fun hi => by
          obtain ⟨g1, g2⟩ := h (p + 3 + i) (by omega)
          unfold ltB ltN
          rw [g1]
          apply decide_eq_decide.mpr
          rw [nLt (by omega) (by omega), nLt (by omega) (by omega)]; omega
        constructor
        · rintro ⟨i1, i2⟩
          refine ⟨i1, ?_⟩
          dsimp only
          rw [← q i1]; exact i2
        · rintro ⟨i1, i2⟩
          refine ⟨i1, ?_⟩
          dsimp only
          rw [q i1]; exact i2
      rw [e]
      obtain ⟨ld1, ld2, ld3⟩ := ld_a (fun i => ltN (t (p + 3 + i))) (n - (p + 3))
      unfold lcN
      by_cases z : ldN (fun i => ltN (t (p + 3 + i))) (n - (p + 3)) ≤ 6
      · omega
      · exfalso
        have l6 : lcN t n (p + 3) = 6 := by unfold lcN; omega
        have := ld2 6 (by omega)
        rw [ea, l6] at hx
        have hx := hx (by omega)
        rw [hx] at this; cases this
    rw [el, k2.2, ea, show (1 : Int32) + nI 2 + nI (lcN t n (p + 3)) = nI (p + 3 + lcN t n (p + 3) - p) by rw [show (1 : Int32) = nI 1 from rfl, nAdd, nAdd, show p + 3 + lcN t n (p + 3) - p = 1 + 2 + lcN t n (p + 3) by omega]]
  · have ea : adv t n p = p + 1 + daN (t p) := by
      unfold adv
      rcases kd with q | q | q | q
      · rw [if_pos (by omega)]; omega
      · rw [if_pos (by omega)]; omega
      · omega
      · rw [if_neg (by omega), if_pos q.1]; omega
    rw [decide_eq_false (show ¬ (115 ≤ t p ∧ t p ≤ 115) by omega), if_pos (show flI false = 0 from rfl), ea, show (1 : Int32) + nI (daN (t p)) + 0 = nI (p + 1 + daN (t p) - p) by rw [Int32.add_zero, show (1 : Int32) = nI 1 from rfl, nAdd, show p + 1 + daN (t p) - p = 1 + daN (t p) by omega]]
/-! acts on what is now -/
def CN (T : St) (w : Nat → Int32) : Prop := (∀ i, i < 12 → gI T 7 i = w i ∧ gI T 8 i = w (12 + i) ∧ gI T 9 i = w (24 + i)) ∧ gI T 6 3 = w 36 ∧ gI T 6 4 = w 37 ∧ gI T 6 5 = w 38
def MN (T : St) (w : Nat → Int32) : Prop := ∀ k, k < 39 → gI T 126 k = w k
def OkW (m : Nat) (w : Nat → Int32) : Prop := (∀ i, i < m → inR (w i) 1 9 ∧ inR (w (12 + i)) 0 9 ∧ inR (w (24 + i)) 0 9) ∧ inR (w 36) 0 (2 ^ m - 1) ∧ inR (w 38) 0 999
def cvw (c : Cv) (w : Nat → Int32) : Cv := (cm c, ca c, cb c, fun i => (w i).toNatClampNeg, fun i => (w (12 + i)).toNatClampNeg, fun i => (w (24 + i)).toNatClampNeg, (w 36).toNatClampNeg, w 37)
theorem cvw_ok {c : Cv} {w : Nat → Int32} (ok : Cok c) (h : OkW (cm c) w) : Cok (cvw c w) := by
  have h12 := ok12 ok
  have hp := p12 h12
  have h0 : 0 < 2 ^ cm c := Nat.pow_pos (by omega)
  obtain ⟨h1, h2, h3⟩ := h
  refine ⟨h12, fun i hi => ?_, ?_⟩
  · obtain ⟨k1, k2, k3, _⟩ := ok.2.1 i hi
    obtain ⟨d1, d2, d3⟩ := h1 i hi
    obtain ⟨_, a1, a2⟩ := inR_n d1 (by omega)
    obtain ⟨_, b1, b2⟩ := inR_n d2 (by omega)
    obtain ⟨_, c1, c2⟩ := inR_n d3 (by omega)
    exact ⟨k1, k2, k3, a1, a2, b2, c2⟩
  · obtain ⟨_, a1, a2⟩ := inR_n h2 (by omega)
    show (w 36).toNatClampNeg < 2 ^ cm c
    omega
def CE (T : St) (c : Cv) : Prop := gI T 3 2 = nI (cm c) ∧ ∀ i, i < cm c → gI T 4 i = nI (ca c i) ∧ gI T 5 i = nI (cb c i)
def ME (T : St) (c : Cv) : Prop := gI T 122 3 = nI (cm c) ∧ ∀ i, i < cm c → gI T 124 i = nI (ca c i) ∧ gI T 125 i = nI (cb c i)
theorem cvw_c {T : St} {c : Cv} {w : Nat → Int32} (ok : Cok c) (h : OkW (cm c) w) (hE : CE T c) (hN : CN T w) : CC T (cvw c w) := by
  have h12 := ok12 ok
  have hp := p12 h12
  obtain ⟨h1, h2, h3⟩ := h
  refine ⟨hE.1, fun i hi => ?_, ?_, hN.2.2.1⟩
  · have hi : i < cm c := hi
    obtain ⟨d1, d2, d3⟩ := h1 i hi
    obtain ⟨n1, n2, n3⟩ := hN.1 i (by omega)
    exact ⟨(hE.2 i hi).1, (hE.2 i hi).2, n1.trans (inR_n d1 (by omega)).1, n2.trans (inR_n d2 (by omega)).1, n3.trans (inR_n d3 (by omega)).1⟩
  · exact hN.2.1.trans (inR_n h2 (by omega)).1
theorem cvw_m {T : St} {c : Cv} {w : Nat → Int32} (ok : Cok c) (h : OkW (cm c) w) (hE : ME T c) (hN : MN T w) : CM T 126 (cvw c w) := by
  have h12 := ok12 ok
  have hp := p12 h12
  obtain ⟨h1, h2, h3⟩ := h
  refine ⟨hE.1, fun i hi => ?_, ?_, hN 37 (by omega)⟩
  · have hi : i < cm c := hi
    obtain ⟨d1, d2, d3⟩ := h1 i hi
    exact ⟨(hE.2 i hi).1, (hE.2 i hi).2, (hN i (by omega)).trans (inR_n d1 (by omega)).1, (hN _ (by omega)).trans (inR_n d2 (by omega)).1, (hN _ (by omega)).trans (inR_n d3 (by omega)).1⟩
  · exact (hN 36 (by omega)).trans (inR_n h2 (by omega)).1
def acH (m : Nat) (x : Int32) (w : Nat → Int32) : Nat → Int32 := fun k => if k = 37 then w 37 + x else if 24 ≤ k ∧ k < 24 + m then healN (w k) x else w k
def acF (q : Nat) (w : Nat → Int32) : Nat → Int32 := fun k => if k = 36 then w 36 ^^^ ((1 : Int32) <<< (nI q &&& 31)) else w k
def acD (q d b : Nat) (w : Nat → Int32) : Nat → Int32 := fun k => if k = 12 + q then nI b else if k = q then nI d else w k
def acE (l : Pth) (w : Nat → Int32) : Nat → Int32 := fun k => if k = 38 then mnI 999 (w 38 + 1) else if 24 ≤ k ∧ k < 36 then wrA l (fun j => w (24 + j)) (k - 24) else w k
def acW (c : Cv) (kd x y z : Nat) (w : Nat → Int32) : Option (Nat → Int32) :=
  if kd = 0 then some (acH (cm c) (nI x) w) else if kd = 1 then (if x < cm c then some (acF x w) else none) else if kd = 2 then (if x ≤ 7 ∧ y < cm c ∧ echB (cvw c w) x y = true then some (acE (pth (cvw c w) x y) w) else none) else (if x < cm c ∧ 1 ≤ y ∧ ¬ (w x = nI y ∧ w (12 + x) = nI z) then some (acD x y z w) else none)
theorem acW_ok {c : Cv} {kd x y z : Nat} {w w' : Nat → Int32} (ok : Cok c) (h : OkW (cm c) w) (hx : x ≤ 9) (hy : y ≤ 9) (hz : z ≤ 9) (e : acW c kd x y z w = some w') : OkW (cm c) w' := by
  have h12 := ok12 ok
  have hp := p12 h12
  have ok2 := cvw_ok ok h
  obtain ⟨h1, h2, h3⟩ := h
  unfold acW at e
  by_cases k0 : kd = 0
  · rw [if_pos k0] at e
    obtain rfl := Option.some.inj e
    refine ⟨fun i hi => ?_, ?_, ?_⟩
    · obtain ⟨d1, d2, d3⟩ := h1 i hi
      unfold acH
      rw [if_neg (by omega), if_neg (by omega), if_neg (by omega), if_neg (by omega), if_neg (by omega), if_pos (by omega)]
      exact ⟨d1, d2, heal_in d3 (by omega)⟩
    · unfold acH; rw [if_neg (by omega), if_neg (by omega)]; exact h2
    · unfold acH; rw [if_neg (by omega), if_neg (by omega)]; exact h3
  · rw [if_neg k0] at e
    by_cases k1 : kd = 1
    · rw [if_pos k1] at e
      by_cases q : x < cm c
      · rw [if_pos q] at e
        obtain rfl := Option.some.inj e
        refine ⟨fun i hi => ?_, ?_, ?_⟩
        · unfold acF; rw [if_neg (by omega), if_neg (by omega), if_neg (by omega)]; exact h1 i hi
        · obtain ⟨o, o1, o2, o3⟩ := h2
          unfold acF
          rw [if_pos rfl, o3, show (1 : Int32) <<< (nI x &&& 31) = nI (2 ^ x) from nShl (by omega), nXor]
          have h0 : 0 < 2 ^ cm c := Nat.pow_pos (by omega)
          have := xor_lt (j := o) (n := x) (m := cm c) (by omega) q
          exact ⟨_, by omega, by omega, rfl⟩
        · unfold acF; rw [if_neg (by omega)]; exact h3
      · rw [if_neg q] at e; cases e
    · rw [if_neg k1] at e
      by_cases k2 : kd = 2
      · rw [if_pos k2] at e
        by_cases q : x ≤ 7 ∧ y < cm c ∧ echB (cvw c w) x y = true
        · rw [if_pos q] at e
          obtain rfl := Option.some.inj e
          have hl := pth_ok ok2 q.1 (show y < cm (cvw c w) from q.2.1)
          have hin := wrA_in (m := cm c) (pth (cvw c w) x y) (fun j => w (24 + j)) (fun p hp => hl.2 p hp) (fun j hj => (h1 j hj).2.2)
          refine ⟨fun i hi => ?_, ?_, ?_⟩
          · obtain ⟨d1, d2, d3⟩ := h1 i hi
            unfold acE
            rw [if_neg (by omega), if_neg (by omega), if_neg (by omega), if_neg (by omega), if_neg (by omega), if_pos (by omega), show 24 + i - 24 = i by omega]
            exact ⟨d1, d2, hin i hi⟩
          · unfold acE; rw [if_neg (by omega), if_neg (by omega)]; exact h2
          · obtain ⟨o, o1, o2, o3⟩ := h3
            unfold acE
            rw [if_pos rfl, o3, a1, show mnI (999 : Int32) (nI (o + 1)) = nI (min 999 (o + 1)) from mnNI (a := 999) (by omega) (by omega)]
            exact ⟨_, by omega, by omega, rfl⟩
        · rw [if_neg q] at e; cases e
      · rw [if_neg k2] at e
        by_cases q : x < cm c ∧ 1 ≤ y ∧ ¬ (w x = nI y ∧ w (12 + x) = nI z)
        · rw [if_pos q] at e
          obtain rfl := Option.some.inj e
          refine ⟨fun i hi => ?_, ?_, ?_⟩
          · obtain ⟨d1, d2, d3⟩ := h1 i hi
            unfold acD
            refine ⟨?_, ?_, ?_⟩
            · rw [if_neg (by omega)]
              by_cases e2 : i = x
              · rw [if_pos e2]; exact ⟨y, q.2.1, hy, rfl⟩
              · rw [if_neg e2]; exact d1
            · by_cases e2 : i = x
              · rw [if_pos (by omega)]; exact ⟨z, by omega, hz, rfl⟩
              · rw [if_neg (by omega), if_neg (by omega)]; exact d2
            · rw [if_neg (by omega), if_neg (by omega)]; exact d3
          · unfold acD; rw [if_neg (by omega), if_neg (by omega)]; exact h2
          · unfold acD; rw [if_neg (by omega), if_neg (by omega)]; exact h3
        · rw [if_neg q] at e; cases e
