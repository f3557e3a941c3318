/-! passages told: they come -/
theorem lp_1 {β V : Type} {body : (V → St → Option β) → V → St → Option β} {v : V} {S : St} {out : Option β} (h : ∀ k, body k v S = out) : lp body FU v S = out := by
  have := lp_ex (body := body) (Q := fun z => z = out) 0 (fun _ v' S' => v' = v ∧ S' = S) (fun i _ _ _ hi _ => by omega) (fun k v' S' hI => by obtain ⟨rfl, rfl⟩ := hI; exact h k) FU 0 v S (by omega) (by unfold FU; omega) ⟨rfl, rfl⟩
  exact this
theorem rpF.q {T T' : St} {j : Nat} (h : rpF T T' j) : QM T T' := by
  refine ⟨fun a b hab => h.1 a b ?_ ?_, fun a b _ => h.2.2 a b⟩
  · intro e
    subst e
    have : PM 129 b = false := by
      unfold PM scr2
      rw [scr_al (by decide) b]; rfl
    rw [this] at hab; cases hab
  · by_cases e : a = 122
    · subst e
      refine Or.inr ⟨fun e2 => ?_, fun e2 => ?_⟩
      · subst e2; cases hab
      · subst e2; cases hab
    · exact Or.inl e
theorem ngv {p : Nat} (hp : p ≤ 80) : (-1 - nI p).toInt = -1 - (p : Int) := by
  rw [Int32.toInt_sub, nI_int (by omega)]
  show Int.bmod (-1 - (p : Int)) (2 ^ 32) = _
  apply Int.bmod_eq_of_le <;> omega
theorem ng0 {p : Nat} (hp : p ≤ 80) : ¬ (0 : Int32) ≤ -1 - nI p := by
  rw [i_le, ngv hp]
  show ¬ (0 : Int) ≤ _
  omega
def adF (m j q : Nat) (t : Nat → Nat) (old : Nat → Int32) : Nat → Int32 := fun k => if m ≤ k ∧ k < m + j then nI (t (5 * (k - m) + q) - 48) else old k
def adZ (m j : Nat) (old : Nat → Int32) : Nat → Int32 := fun k => if m ≤ k ∧ k < m + j then 0 else old k
theorem adF_0 (m q : Nat) (t : Nat → Nat) (old : Nat → Int32) (k : Nat) : adF m 0 q t old k = old k := by unfold adF; rw [if_neg (by omega)]
theorem adZ_0 (m : Nat) (old : Nat → Int32) (k : Nat) : adZ m 0 old k = old k := by unfold adZ; rw [if_neg (by omega)]
theorem adF_s (m j q : Nat) (t : Nat → Nat) (old : Nat → Int32) (k : Nat) : adF m (j + 1) q t old k = if k = m + j then nI (t (5 * j + q) - 48) else adF m j q t old k := by
  unfold adF
  by_cases e : k = m + j
  · rw [if_pos (by omega), if_pos e, e, show m + j - m = j by omega]
  · rw [if_neg e]
    by_cases g : m ≤ k ∧ k < m + j
    · rw [if_pos (by omega), if_pos g]
    · rw [if_neg (by omega), if_neg g]
theorem adZ_s (m j : Nat) (old : Nat → Int32) (k : Nat) : adZ m (j + 1) old k = if k = m + j then 0 else adZ m j old k := by
  unfold adZ
  by_cases e : k = m + j
  · rw [if_pos (by omega), if_pos e]
  · rw [if_neg e]
    by_cases g : m ≤ k ∧ k < m + j
    · rw [if_pos (by omega), if_pos g]
    · rw [if_neg (by omega), if_neg g]
def opN (o m : Nat) : Nat → Nat
  | 0 => o
  | j + 1 => opN o m j ||| 2 ^ (m + j)
theorem op_lt {o m : Nat} (h : o < 2 ^ m) : ∀ j, opN o m j < 2 ^ (m + j) := by
  intro j
  induction j with
  | zero => exact h
  | succ j ih =>
    have h2 : 2 ^ (m + j) ≤ 2 ^ (m + (j + 1)) := Nat.pow_le_pow_right (by omega) (by omega)
    exact or_lt (Nat.lt_of_lt_of_le ih h2) (by omega)
/-- what the class has behind j lines -/
def PC2 (B T : St) (m o j : Nat) (t : Nat → Nat) : Prop := (∀ k, gI T 4 k = adF m j 0 t (gI B 4) k ∧ gI T 5 k = adF m j 1 t (gI B 5) k ∧ gI T 7 k = adF m j 2 t (gI B 7) k ∧ gI T 8 k = adF m j 3 t (gI B 8) k ∧ gI T 9 k = adZ m j (gI B 9) k) ∧ gI T 6 3 = nI (opN o m j) ∧ gI T 3 2 = nI (m + j) ∧ (∀ a b, a ≠ 4 → a ≠ 5 → a ≠ 7 → a ≠ 8 → a ≠ 9 → (a ≠ 6 ∨ b ≠ 3) → (a ≠ 3 ∨ b ≠ 2) → gI T a b = gI B a b) ∧ ∀ a b, gL T a b = gL B a b
theorem add_c {T : St} {s : Nat} (h : gI T 3 2 = nI s) (hs : s < 12) (a b d e : Int32) : f_X0_add a b d e T = some ((), sI (sI (sI (sI (sI (sI (sI T 4 s a) 5 s b) 7 s d) 8 s e) 9 s 0) 6 3 (gI T 6 3 ||| ((1 : Int32) <<< (nI s &&& 31)))) 3 2 (nI (s + 1))) := by
  have w : inb (nI s) 12 := by rw [inb_nI (by omega)]; omega
  have w2 : nI s < (12 : Int32) := by rw [show (12 : Int32) = nI 12 from rfl, nLt (by omega) (by omega)]; omega
  unfold f_X0_add
  have t1 : gI (sI T 4 s a) 3 2 = nI s := h
  have t2 : gI (sI (sI T 4 s a) 5 s b) 3 2 = nI s := h
  have t3 : gI (sI (sI (sI T 4 s a) 5 s b) 7 s d) 3 2 = nI s := h
  have t4 : gI (sI (sI (sI (sI T 4 s a) 5 s b) 7 s d) 8 s e) 3 2 = nI s := h
  have t5 : gI (sI (sI (sI (sI (sI T 4 s a) 5 s b) 7 s d) 8 s e) 9 s 0) 3 2 = nI s := h
  have t6 : gI (sI (sI (sI (sI (sI T 4 s a) 5 s b) 7 s d) 8 s e) 9 s 0) 6 3 = gI T 6 3 := rfl
  have t7 : gI (sI (sI (sI (sI (sI (sI T 4 s a) 5 s b) 7 s d) 8 s e) 9 s 0) 6 3 (gI T 6 3 ||| ((1 : Int32) <<< (nI s &&& 31)))) 3 2 = nI s := h
  simp only [h, if_pos w2, if_pos w, nI_t (show s < 2147483648 by omega), lt_e, t1, t2, t3, t4, t5, t6, t7, a1]
theorem PC2.st {B T : St} {m o j : Nat} {t : Nat → Nat} (h : PC2 B T m o j t) (hmj : m + j < 12) : PC2 B (sI (sI (sI (sI (sI (sI (sI T 4 (m + j) (nI (t (5 * j) - 48))) 5 (m + j) (nI (t (5 * j + 1) - 48))) 7 (m + j) (nI (t (5 * j + 2) - 48))) 8 (m + j) (nI (t (5 * j + 3) - 48))) 9 (m + j) 0) 6 3 (gI T 6 3 ||| ((1 : Int32) <<< (nI (m + j) &&& 31)))) 3 2 (nI (m + j + 1))) m o (j + 1) t := by
  obtain ⟨h1, h2, h3, h4, h5⟩ := h
  refine ⟨fun k => ?_, ?_, rfl, fun a b n4 n5 n7 n8 n9 n6 n3 => ?_, fun a b => h5 a b⟩
  · obtain ⟨a1, a2, a3, a4, a5⟩ := h1 k
    rw [adF_s, adF_s, adF_s, adF_s, adZ_s, ← a1, ← a2, ← a3, ← a4, ← a5]
    exact ⟨rfl, rfl, rfl, rfl, rfl⟩
  · show gI T 6 3 ||| ((1 : Int32) <<< (nI (m + j) &&& 31)) = _
    rw [h2, show (1 : Int32) <<< (nI (m + j) &&& 31) = nI (2 ^ (m + j)) from nShl (by omega), nOr]; rfl
  · rw [← h4 a b n4 n5 n7 n8 n9 n6 n3, gI_s]
    have r6 : gI (sI (sI (sI (sI (sI (sI T 4 (m + j) (nI (t (5 * j) - 48))) 5 (m + j) (nI (t (5 * j + 1) - 48))) 7 (m + j) (nI (t (5 * j + 2) - 48))) 8 (m + j) (nI (t (5 * j + 3) - 48))) 9 (m + j) 0) 6 3 (gI T 6 3 ||| ((1 : Int32) <<< (nI (m + j) &&& 31)))) a b = gI T a b := by
      rw [gI_s]
      have r5 : gI (sI (sI (sI (sI (sI T 4 (m + j) (nI (t (5 * j) - 48))) 5 (m + j) (nI (t (5 * j + 1) - 48))) 7 (m + j) (nI (t (5 * j + 2) - 48))) 8 (m + j) (nI (t (5 * j + 3) - 48))) 9 (m + j) 0) a b = gI T a b := by
        rw [gI_s, if_neg n9, gI_s, if_neg n8, gI_s, if_neg n7, gI_s, if_neg n5, gI_s, if_neg n4]
      by_cases e : a = 6
      · rw [if_pos e, if_neg (by omega)]; exact r5
      · rw [if_neg e]; exact r5
    by_cases e : a = 3
    · rw [if_pos e, if_neg (by omega)]; exact r6
    · rw [if_neg e]; exact r6
theorem pl_c {B : St} {m L n o : Nat} {t : Nat → Nat} (h3 : gI B 3 2 = nI m) (hO : gI B 6 3 = nI o) (hx : TxC B t) (hL : 1 ≤ L) (hn : n + 1 = 5 * L) (hmL : m + L ≤ 12) (hd : ∀ i, i < n → i % 5 ≠ 4 → 48 ≤ t i) (x3 : Int32) (e : Int32 → St → Option (Int32 × St)) : ∃ T, lp (f_X10_passages_60b (nI n) x3 e) FU 0 B = e (nI (5 * L)) T ∧ PC2 B T m o L t := by
  have h0 := lp_ex (body := f_X10_passages_60b (nI n) x3 e) (Q := fun z => ∃ T, z = e (nI (5 * L)) T ∧ PC2 B T m o L t) L (fun j v S => v = nI (5 * j) ∧ PC2 B S m o j t) (fun j k v S hj hI => ?_) (fun k v S hI => ?_) FU 0 (0 : Int32) B (by omega) (by unfold FU; omega) ⟨rfl, fun k => ⟨(adF_0 _ _ _ _ _).symm, (adF_0 _ _ _ _ _).symm, (adF_0 _ _ _ _ _).symm, (adF_0 _ _ _ _ _).symm, (adZ_0 _ _ _).symm⟩, hO, h3, fun _ _ _ _ _ _ _ _ _ => rfl, fun _ _ => rfl⟩
  · exact h0
  · obtain ⟨rfl, hP⟩ := hI
    have hxS : TxC S t := fun i hi => by
      rw [hP.2.2.2.1 2 i (by omega) (by omega) (by omega) (by omega) (by omega) (by omega) (by omega)]; exact hx i hi
    refine ⟨nI (5 * (j + 1)), _, ?_, rfl, hP.st (by omega)⟩
    unfold f_X10_passages_60b
    rw [if_neg (by rw [nLe (by omega) (by omega)]; omega), show nI (5 * j) + (1 : Int32) = nI (5 * j + 1) from a1 _, show nI (5 * j) + (2 : Int32) = nI (5 * j + 2) from nAdd _ 2, show nI (5 * j) + (3 : Int32) = nI (5 * j + 3) from nAdd _ 3, show nI (5 * j) + (5 : Int32) = nI (5 * j + 5) from nAdd _ 5, dig_c hxS (by omega), bd_e, dig_c hxS (by omega), bd_e, dig_c hxS (by omega), bd_e, dig_c hxS (by omega), bd_e, s48 (hd _ (by omega) (by omega)), s48 (hd _ (by omega) (by omega)), s48 (hd _ (by omega) (by omega)), s48 (hd _ (by omega) (by omega)), add_c hP.2.2.1 (by omega), bd_e, show 5 * j + 5 = 5 * (j + 1) by omega]
  · obtain ⟨rfl, hP⟩ := hI
    refine ⟨S, ?_, hP⟩
    unfold f_X10_passages_60b
    rw [if_pos (by rw [nLe (by omega) (by omega)]; omega)]
theorem lose_c (T : St) : ∃ T', f_X4_lose T = some ((), T') ∧ gI T' 12 2 = 0 ∧ (∀ i, i < 3 → gI T' 91 i = 0) ∧ (∀ a b, a ≠ 91 → (a ≠ 12 ∨ b ≠ 2) → gI T' a b = gI T a b) ∧ ∀ a b, gL T' a b = gL T a b := by
  unfold f_X4_lose
  rw [lt_e]
  have h0 := lp_ex (body := f_X4_lose_7b (fun v4 S5 => some ((), S5))) (Q := fun z => ∃ T', z = some ((), T') ∧ gI T' 12 2 = 0 ∧ (∀ i, i < 3 → gI T' 91 i = 0) ∧ (∀ a b, a ≠ 91 → (a ≠ 12 ∨ b ≠ 2) → gI T' a b = gI T a b) ∧ ∀ a b, gL T' a b = gL T a b) 3 (fun j v S => v = nI j ∧ gI S 12 2 = 0 ∧ (∀ i, i < j → gI S 91 i = 0) ∧ (∀ a b, a ≠ 91 → (a ≠ 12 ∨ b ≠ 2) → gI S a b = gI T a b) ∧ ∀ a b, gL S a b = gL T a b) (fun j k v S hj hI => ?_) (fun k v S hI => ?_) FU 0 (0 : Int32) (sI T 12 2 0) (by omega) (by unfold FU; omega) ⟨rfl, rfl, fun i hi => by omega, fun a b h1 h2 => ?_, fun _ _ => rfl⟩
  · exact h0
  · obtain ⟨rfl, g1, g2, g3, g4⟩ := hI
    refine ⟨nI (j + 1), sI S 91 j 0, ?_, rfl, g1, fun i hi => ?_, fun a b h1 h2 => ?_, fun a b => g4 a b⟩
    · unfold f_X4_lose_7b
      have w : inb (nI j) 3 := by rw [inb_nI (by omega)]; omega
      simp only [if_pos w, nI_t (show j < 2147483648 by omega), lt_e, a1]
      rw [if_neg (show ¬ (3 : Int32) ≤ nI j by rw [lit, nLe (by omega) (by omega)]; omega)]
      rfl
    · rw [gI_s, if_pos rfl]
      by_cases z : i = j
      · rw [if_pos z]
      · rw [if_neg z]; exact g2 i (by omega)
    · rw [gI_s, if_neg h1]; exact g3 a b h1 h2
  · obtain ⟨rfl, g1, g2, g3, g4⟩ := hI
    refine ⟨S, ?_, g1, g2, g3, g4⟩
    unfold f_X4_lose_7b
    rw [if_pos (show (3 : Int32) ≤ nI 3 by decide)]
  · rw [gI_s]
    by_cases e : a = 12
    · rw [if_pos e, if_neg (by omega)]
    · rw [if_neg e]
/-- what the reference has behind j lines -/
def PM2 (B T : St) (m o j : Nat) (t : Nat → Nat) : Prop := (∀ k, k < 12 → gI T 124 k = adF m j 0 t (gI B 124) k ∧ gI T 125 k = adF m j 1 t (gI B 125) k ∧ gI T 126 k = adF m j 2 t (gI B 126) k ∧ gI T 126 (12 + k) = adF m j 3 t (fun k => gI B 126 (12 + k)) k ∧ gI T 126 (24 + k) = adZ m j (fun k => gI B 126 (24 + k)) k) ∧ gI T 126 36 = nI (opN o m j) ∧ gI T 126 37 = gI B 126 37 ∧ gI T 126 38 = gI B 126 38 ∧ gI T 122 3 = nI (m + j) ∧ (∀ a b, a ≠ 124 → a ≠ 125 → a ≠ 126 → (a ≠ 122 ∨ b ≠ 3) → gI T a b = gI B a b) ∧ ∀ a b, gL T a b = gL B a b
theorem PM2.st {B T : St} {m o j : Nat} {t : Nat → Nat} (h : PM2 B T m o j t) (hmj : m + j < 12) : PM2 B (sI (sI (sI (sI (sI (sI (sI T 124 (m + j) (nI (t (5 * j) - 48))) 125 (m + j) (nI (t (5 * j + 1) - 48))) 126 (m + j) (nI (t (5 * j + 2) - 48))) 126 (12 + (m + j)) (nI (t (5 * j + 3) - 48))) 126 (24 + (m + j)) 0) 126 36 (gI T 126 36 ||| ((1 : Int32) <<< (nI (m + j) &&& 31)))) 122 3 (nI (m + j + 1))) m o (j + 1) t := by
  obtain ⟨h1, h2, h37, h38, h3, h4, h5⟩ := h
  have r126 : ∀ k, gI (sI (sI (sI (sI (sI (sI (sI T 124 (m + j) (nI (t (5 * j) - 48))) 125 (m + j) (nI (t (5 * j + 1) - 48))) 126 (m + j) (nI (t (5 * j + 2) - 48))) 126 (12 + (m + j)) (nI (t (5 * j + 3) - 48))) 126 (24 + (m + j)) 0) 126 36 (gI T 126 36 ||| ((1 : Int32) <<< (nI (m + j) &&& 31)))) 122 3 (nI (m + j + 1))) 126 k = if k = 36 then gI T 126 36 ||| ((1 : Int32) <<< (nI (m + j) &&& 31)) else if k = 24 + (m + j) then 0 else if k = 12 + (m + j) then nI (t (5 * j + 3) - 48) else if k = m + j then nI (t (5 * j + 2) - 48) else gI T 126 k := fun k => rfl
  refine ⟨fun k hk => ?_, ?_, ?_, ?_, rfl, fun a b n4 n5 n6 n3 => ?_, fun a b => h5 a b⟩
  · obtain ⟨a1, a2, a3, a4, a5⟩ := h1 k hk
    rw [adF_s, adF_s, adF_s, adF_s, adZ_s, ← a1, ← a2, ← a3, ← a4, ← a5, r126, r126, r126]
    refine ⟨rfl, rfl, ?_, ?_, ?_⟩
    · rw [if_neg (by omega), if_neg (by omega), if_neg (by omega)]
    · rw [if_neg (by omega), if_neg (by omega)]
      by_cases e : k = m + j
      · rw [if_pos (by omega), if_pos e]
      · rw [if_neg (by omega), if_neg (by omega), if_neg e]
    · rw [if_neg (by omega)]
      by_cases e : k = m + j
      · rw [if_pos (by omega), if_pos e]
      · rw [if_neg (by omega), if_neg (by omega), if_neg (by omega), if_neg e]
  · rw [r126, if_pos rfl, h2, show (1 : Int32) <<< (nI (m + j) &&& 31) = nI (2 ^ (m + j)) from nShl (by omega), nOr]; rfl
  · rw [r126, if_neg (by omega), if_neg (by omega), if_neg (by omega), if_neg (by omega)]; exact h37
  · rw [r126, if_neg (by omega), if_neg (by omega), if_neg (by omega), if_neg (by omega)]; exact h38
  · rw [← h4 a b n4 n5 n6 n3, gI_s]
    have r6 : gI (sI (sI (sI (sI (sI (sI T 124 (m + j) (nI (t (5 * j) - 48))) 125 (m + j) (nI (t (5 * j + 1) - 48))) 126 (m + j) (nI (t (5 * j + 2) - 48))) 126 (12 + (m + j)) (nI (t (5 * j + 3) - 48))) 126 (24 + (m + j)) 0) 126 36 (gI T 126 36 ||| ((1 : Int32) <<< (nI (m + j) &&& 31)))) a b = gI T a b := by
      rw [gI_s, if_neg n6, gI_s, if_neg n6, gI_s, if_neg n6, gI_s, if_neg n6, gI_s, if_neg n5, gI_s, if_neg n4]
    by_cases e : a = 122
    · rw [if_pos e, if_neg (by omega)]; exact r6
    · rw [if_neg e]; exact r6
theorem pl_m {B : St} {m L o : Nat} {t : Nat → Nat} (h3 : gI B 122 3 = nI m) (hO : gI B 126 36 = nI o) (h15 : gI B 122 15 = nI L) (hL : 1 ≤ L) (hmL : m + L ≤ 12) (hr : ∀ l i, l < L → i < 4 → gI B 129 (4 * l + i) = nI (t (5 * l + i) - 48)) (e : Int32 → St → Option (Int32 × St)) : ∃ T, lp (f_X11_passages_81b e) FU 0 B = e (nI L) T ∧ PM2 B T m o L t := by
  have h0 := lp_ex (body := f_X11_passages_81b e) (Q := fun z => ∃ T, z = e (nI L) T ∧ PM2 B T m o L t) L (fun j v S => v = nI j ∧ PM2 B S m o j t) (fun j k v S hj hI => ?_) (fun k v S hI => ?_) FU 0 (0 : Int32) B (by omega) (by unfold FU; omega) ⟨rfl, fun k _ => ⟨(adF_0 _ _ _ _ _).symm, (adF_0 _ _ _ _ _).symm, (adF_0 _ _ _ _ _).symm, (adF_0 m 3 t (fun k => gI B 126 (12 + k)) k).symm, (adZ_0 m (fun k => gI B 126 (24 + k)) k).symm⟩, hO, rfl, rfl, h3, fun _ _ _ _ _ _ => rfl, fun _ _ => rfl⟩
  · exact h0
  · obtain ⟨rfl, hP⟩ := hI
    have f15 : gI S 122 15 = nI L := (hP.2.2.2.2.2.1 122 15 (by decide) (by decide) (by decide) (by decide)).trans h15
    have f9 : ∀ i, i < 4 → gI S 129 (4 * j + i) = nI (t (5 * j + i) - 48) := fun i hi => (hP.2.2.2.2.2.1 129 _ (by decide) (by decide) (by decide) (Or.inl (by decide))).trans (hr j i hj hi)
    have f3 := hP.2.2.2.2.1
    refine ⟨nI (j + 1), _, ?_, rfl, hP.st (by omega)⟩
    unfold f_X11_passages_81b
    have w0 : inb (nI (4 * j)) 48 := by rw [inb_nI (by omega)]; omega
    have w1 : inb (nI (4 * j + 1)) 48 := by rw [inb_nI (by omega)]; omega
    have w2 : inb (nI (4 * j + 2)) 48 := by rw [inb_nI (by omega)]; omega
    have w3 : inb (nI (4 * j + 3)) 48 := by rw [inb_nI (by omega)]; omega
    have v0 : inb (nI (m + j)) 12 := by rw [inb_nI (by omega)]; omega
    have v1 : inb (nI (m + j)) 39 := by rw [inb_nI (by omega)]; omega
    have v2 : inb (nI (12 + (m + j))) 39 := by rw [inb_nI (by omega)]; omega
    have v3 : inb (nI (24 + (m + j))) 39 := by rw [inb_nI (by omega)]; omega
    have e4 : (4 : Int32) * nI j = nI (4 * j) := nMul 4 j
    have e41 : nI (4 * j) + (1 : Int32) = nI (4 * j + 1) := nAdd _ 1
    have e42 : nI (4 * j) + (2 : Int32) = nI (4 * j + 2) := nAdd _ 2
    have e43 : nI (4 * j) + (3 : Int32) = nI (4 * j + 3) := nAdd _ 3
    have e12 : (12 : Int32) + nI (m + j) = nI (12 + (m + j)) := nAdd 12 _
    have e24 : (24 : Int32) + nI (m + j) = nI (24 + (m + j)) := nAdd 24 _
    have x0 : gI S 129 (4 * j) = nI (t (5 * j) - 48) := f9 0 (by omega)
    have x1 := f9 1 (by omega)
    have x2 := f9 2 (by omega)
    have x3 := f9 3 (by omega)
    rw [f15, if_neg (by rw [nLe (by omega) (by omega)]; omega)]
    have c1 : gI (sI S 124 (m + j) (nI (t (5 * j) - 48))) 122 3 = nI (m + j) := f3
    have d1 : gI (sI S 124 (m + j) (nI (t (5 * j) - 48))) 129 (4 * j + 1) = nI (t (5 * j + 1) - 48) := x1
    have c2 : gI (sI (sI S 124 (m + j) (nI (t (5 * j) - 48))) 125 (m + j) (nI (t (5 * j + 1) - 48))) 122 3 = nI (m + j) := f3
    have d2 : gI (sI (sI S 124 (m + j) (nI (t (5 * j) - 48))) 125 (m + j) (nI (t (5 * j + 1) - 48))) 129 (4 * j + 2) = nI (t (5 * j + 2) - 48) := x2
    have c3 : gI (sI (sI (sI S 124 (m + j) (nI (t (5 * j) - 48))) 125 (m + j) (nI (t (5 * j + 1) - 48))) 126 (m + j) (nI (t (5 * j + 2) - 48))) 122 3 = nI (m + j) := f3
    have d3 : gI (sI (sI (sI S 124 (m + j) (nI (t (5 * j) - 48))) 125 (m + j) (nI (t (5 * j + 1) - 48))) 126 (m + j) (nI (t (5 * j + 2) - 48))) 129 (4 * j + 3) = nI (t (5 * j + 3) - 48) := x3
    have c4 : gI (sI (sI (sI (sI S 124 (m + j) (nI (t (5 * j) - 48))) 125 (m + j) (nI (t (5 * j + 1) - 48))) 126 (m + j) (nI (t (5 * j + 2) - 48))) 126 (12 + (m + j)) (nI (t (5 * j + 3) - 48))) 122 3 = nI (m + j) := f3
    have c5 : gI (sI (sI (sI (sI (sI S 124 (m + j) (nI (t (5 * j) - 48))) 125 (m + j) (nI (t (5 * j + 1) - 48))) 126 (m + j) (nI (t (5 * j + 2) - 48))) 126 (12 + (m + j)) (nI (t (5 * j + 3) - 48))) 126 (24 + (m + j)) 0) 122 3 = nI (m + j) := f3
    have d5 : gI (sI (sI (sI (sI (sI S 124 (m + j) (nI (t (5 * j) - 48))) 125 (m + j) (nI (t (5 * j + 1) - 48))) 126 (m + j) (nI (t (5 * j + 2) - 48))) 126 (12 + (m + j)) (nI (t (5 * j + 3) - 48))) 126 (24 + (m + j)) 0) 126 36 = gI S 126 36 := by
      rw [gI_s, if_pos rfl, if_neg (by omega), gI_s, if_pos rfl, if_neg (by omega), gI_s, if_pos rfl, if_neg (by omega)]; rfl
    have c6 : gI (sI (sI (sI (sI (sI (sI S 124 (m + j) (nI (t (5 * j) - 48))) 125 (m + j) (nI (t (5 * j + 1) - 48))) 126 (m + j) (nI (t (5 * j + 2) - 48))) 126 (12 + (m + j)) (nI (t (5 * j + 3) - 48))) 126 (24 + (m + j)) 0) 126 36 (gI S 126 36 ||| ((1 : Int32) <<< (nI (m + j) &&& 31)))) 122 3 = nI (m + j) := f3
    simp only [e4, e41, e42, e43, if_pos w0, if_pos w1, if_pos w2, if_pos w3, f3, x0, if_pos v0, if_pos v1, lt_e, nI_t (show 4 * j < 2147483648 by omega), nI_t (show 4 * j + 1 < 2147483648 by omega), nI_t (show 4 * j + 2 < 2147483648 by omega), nI_t (show 4 * j + 3 < 2147483648 by omega), nI_t (show m + j < 2147483648 by omega), c1, d1, c2, d2, c3, d3, e12, if_pos v2, nI_t (show 12 + (m + j) < 2147483648 by omega), c4, e24, if_pos v3, nI_t (show 24 + (m + j) < 2147483648 by omega), c5, d5, c6, a1]
  · obtain ⟨rfl, hP⟩ := hI
    have f15 : gI S 122 15 = nI L := (hP.2.2.2.2.2.1 122 15 (by decide) (by decide) (by decide) (by decide)).trans h15
    refine ⟨S, ?_, hP⟩
    unfold f_X11_passages_81b
    rw [f15, if_pos (by rw [nLe (by omega) (by omega)]; omega)]
