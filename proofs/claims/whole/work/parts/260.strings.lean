/-! the strings that are looked through; the machine that reads a rule -/
def sB : Nat → List Nat
  | 0 => [118, 98, 119, 100, 112, 110, 101]
  | 1 => [60, 62, 61]
  | 2 => [43, 45]
  | 3 => [42, 47]
  | _ => [110, 120, 115, 109]
def ixN (si s : Nat) : Option Nat := lstF (fun k => decide ((sB si).getD k 0 = s)) (sB si).length
theorem str_len {si : Nat} (h : si ≤ 4) (S : St) : f_J0_length_8abf5 si S = some (nI (sB si).length, S) := by
  have e : nI (yL si) >>> ((0 : Int32) &&& 31) = nI (sB si).length := by
    have : si = 0 ∨ si = 1 ∨ si = 2 ∨ si = 3 ∨ si = 4 := by omega
    rcases this with rfl | rfl | rfl | rfl | rfl <;> decide
  unfold f_J0_length_8abf5
  rw [show f_J0_coder_7d493 si S = some (0, S) from rfl, bd_e, e]
theorem str_at {si i : Nat} (h : si ≤ 4) (hi : i < (sB si).length) (S : St) : f_J0_charAt_5068e si (nI i) S = some (nI ((sB si).getD i 0), S) := by
  have : si = 0 ∨ si = 1 ∨ si = 2 ∨ si = 3 ∨ si = 4 := by omega
  rcases this with rfl | rfl | rfl | rfl | rfl
  · have : i = 0 ∨ i = 1 ∨ i = 2 ∨ i = 3 ∨ i = 4 ∨ i = 5 ∨ i = 6 := by change i < 7 at hi; omega
    rcases this with rfl | rfl | rfl | rfl | rfl | rfl | rfl <;> rfl
  · have : i = 0 ∨ i = 1 ∨ i = 2 := by change i < 3 at hi; omega
    rcases this with rfl | rfl | rfl <;> rfl
  · have : i = 0 ∨ i = 1 := by change i < 2 at hi; omega
    rcases this with rfl | rfl <;> rfl
  · have : i = 0 ∨ i = 1 := by change i < 2 at hi; omega
    rcases this with rfl | rfl <;> rfl
  · have : i = 0 ∨ i = 1 ∨ i = 2 ∨ i = 3 := by change i < 4 at hi; omega
    rcases this with rfl | rfl | rfl | rfl <;> rfl
theorem sB_le (si : Nat) : (sB si).length ≤ 7 ∧ 0 < (sB si).length ∧ ∀ i, (sB si).getD i 0 ≤ 255 := by
  have key : ∀ l : List Nat, (∀ x, x ∈ l → x ≤ 255) → ∀ i, l.getD i 0 ≤ 255 := by
    intro l hl i
    by_cases h : i < l.length
    · rw [List.getD_eq_getElem?_getD, List.getElem?_eq_getElem h]
      exact hl _ (List.getElem_mem h)
    · rw [List.getD_eq_getElem?_getD, List.getElem?_eq_none (by omega)]
      show (0 : Nat) ≤ 255
      omega
  unfold sB
  split <;> refine ⟨by decide, by decide, key _ (by decide)⟩
theorem takesOf_m {T : St} {a to si : Nat} {t : Nat → Nat} (h : TaM T a to t) (hs : si ≤ 4) : (∀ k, a < to → ixN si (t a) = some k → f_X11_takesOf si T = some (nI k, sI T 122 11 (nI (a + 1)))) ∧ ((a < to → ixN si (t a) = none) → f_X11_takesOf si T = some (-1, T)) := by
  obtain ⟨h1, h2, h3, h4, h5⟩ := h
  obtain ⟨b7, b0, b255⟩ := sB_le si
  have st : ∀ (e k : Int32 → St → Option (Int32 × St)) (i : Nat), a < to → i < (sB si).length → f_X11_takesOf_2b si e k (nI i) T = if (sB si).getD i 0 = t a then some (nI i, sI T 122 11 (nI (a + 1))) else k (nI (i + 1)) T := by
    intro e k i ha hi
    obtain ⟨g1, g2⟩ := h5 a ha
    have b := b255 i
    unfold f_X11_takesOf_2b
    rw [str_len hs, bd_e, if_neg (by rw [nLe (by omega) (by omega)]; omega), h1, h2, if_neg (by rw [nLe (by omega) (by omega)]; omega), str_at hs hi, bd_e, h1, if_pos (by rw [inb_nI (by omega)]; omega), nI_t (by omega), g1]
    by_cases z : (sB si).getD i 0 = t a
    · rw [if_pos (by rw [z]), if_pos z, lt_e, a1]
    · rw [if_neg (by rw [nEq (by omega) (by omega)]; exact z), if_neg z, a1]
  constructor
  · intro k ha hk
    obtain ⟨k1, k2, k3⟩ := lst_some hk
    have h0 := lp_ex (body := f_X11_takesOf_2b si (fun v9 S10 => some ((-1 : Int32), S10))) (Q := fun z => z = some (nI k, sI T 122 11 (nI (a + 1)))) k (fun i v S => v = nI i ∧ S = T) (fun i kk v S hi hI => ?_) (fun kk v S hI => ?_) FU 0 (0 : Int32) T (by omega) (by unfold FU; omega) ⟨rfl, rfl⟩
    · exact h0
    · obtain ⟨rfl, rfl⟩ := hI
      exact ⟨_, _, (st _ _ i ha (by omega)).trans (if_neg (of_decide_eq_false (k3 i hi))), rfl, rfl⟩
    · obtain ⟨rfl, rfl⟩ := hI
      exact (st _ _ k ha (by omega)).trans (if_pos (of_decide_eq_true k2))
  · intro hn
    by_cases ha : a < to
    · have hk := lst_none (hn ha)
      have h0 := lp_ex (body := f_X11_takesOf_2b si (fun v9 S10 => some ((-1 : Int32), S10))) (Q := fun z => z = some (-1, T)) (sB si).length (fun i v S => v = nI i ∧ S = T) (fun i kk v S hi hI => ?_) (fun kk v S hI => ?_) FU 0 (0 : Int32) T (by omega) (by unfold FU; omega) ⟨rfl, rfl⟩
      · exact h0
      · obtain ⟨rfl, rfl⟩ := hI
        exact ⟨_, _, (st _ _ i ha hi).trans (if_neg (of_decide_eq_false (hk i hi))), rfl, rfl⟩
      · obtain ⟨rfl, rfl⟩ := hI
        unfold f_X11_takesOf_2b
        rw [str_len hs, bd_e, if_pos (by rw [nLe (by omega) (by omega)]; omega)]
    · refine lp_1 (body := f_X11_takesOf_2b si (fun v9 S10 => some ((-1 : Int32), S10))) (fun k => ?_)
      unfold f_X11_takesOf_2b
      rw [str_len hs, bd_e, if_neg (show ¬ nI (sB si).length ≤ 0 by rw [lit, nLe (by omega) (by omega)]; omega), h1, h2, if_pos (by rw [nLe (by omega) (by omega)]; omega)]
theorem yb_all : ∀ s, s < 256 → ∀ k, k < 7 → (yB 0 k = (nI s).toInt8.toInt32 ↔ (sB 0).getD k 0 = s) := by decide +kernel
theorem idx_c {s : Nat} (hs : s ≤ 255) (S : St) : f_J0_indexOf_0f7a4 0 (nI s) S = some (optI (ixN 0 s), S) := by
  unfold f_J0_indexOf_0f7a4 f_J0_indexOf_7cf53
  have l1 : f_J0_isLatin1_aae02 0 S = some (1, S) := rfl
  have l2 : f_J0_length_8abf5 0 S = some (nI 7, S) := str_len (by omega) S
  have l3 : f_J1_canEncode_9a6ad (nI s) S = some (1, S) := by
    unfold f_J1_canEncode_9a6ad
    rw [if_neg (show ¬ nI s < 0 by rw [lit, nLt (by omega) (by omega)]; omega), if_neg (show ¬ (255 : Int32) < nI s by rw [lit, nLt (by omega) (by omega)]; omega)]
  rw [l1, bd_e, if_neg (show ¬ (1 : Int32) = 0 by decide), l2, bd_e]
  have l4 : f_J1_indexOf_4cfef 0 (nI s) 0 (nI 7) S = some (optI (ixN 0 s), S) := by
    unfold f_J1_indexOf_4cfef
    rw [l3, bd_e, if_neg (show ¬ (1 : Int32) = 0 by decide), lt_e, lt_e, if_pos (show mxI (0 : Int32) 0 < mnI (nI 7) (nI (yL 0)) by decide), show mxI (0 : Int32) 0 = 0 by decide, show mnI (nI 7) (nI (yL 0)) = nI 7 by decide]
    have l5 : f_J1_indexOfChar_4cfef 0 (nI s) 0 (nI 7) S = some (optI (ixN 0 s), S) := by
      unfold f_J1_indexOfChar_4cfef
      rw [lt_e]
      have st : ∀ (e k : Int32 → St → Option (Int32 × St)) (i : Nat), i < 7 → f_J1_indexOfChar_4cfef_7b 0 (nI 7) (nI s).toInt8.toInt32 e k (nI i) S = if (sB 0).getD i 0 = s then some (nI i, S) else k (nI (i + 1)) S := by
        intro e k i hi
        unfold f_J1_indexOfChar_4cfef_7b
        have w : inb (nI i) (yL 0) := by rw [inb_nI (by omega)]; exact hi
        have y := yb_all s (by omega) i hi
        rw [if_neg (by rw [nLe (by omega) (by omega)]; omega), if_pos w, nI_t (by omega), a1]
        by_cases z : (sB 0).getD i 0 = s
        · rw [if_pos (y.mpr z), if_pos z]
        · rw [if_neg (fun q => z (y.mp q)), if_neg z]
      cases hk : ixN 0 s with
      | some k =>
        obtain ⟨k1, k2, k3⟩ := lst_some hk
        have k1 : k < 7 := k1
        have h0 := lp_ex (body := f_J1_indexOfChar_4cfef_7b 0 (nI 7) (nI s).toInt8.toInt32 (fun v3 S4 => some ((-1 : Int32), S4))) (Q := fun z => z = some (optI (some k), S)) k (fun i v S' => v = nI i ∧ S' = S) (fun i kk v S' hi hI => ?_) (fun kk v S' hI => ?_) FU 0 (0 : Int32) S (by omega) (by unfold FU; omega) ⟨rfl, rfl⟩
        · exact h0
        · obtain ⟨rfl, rfl⟩ := hI
          exact ⟨_, _, (st _ _ i (by omega)).trans (if_neg (of_decide_eq_false (k3 i hi))), rfl, rfl⟩
        · obtain ⟨rfl, rfl⟩ := hI
          exact (st _ _ k k1).trans (if_pos (of_decide_eq_true k2))
      | none =>
        have hk := lst_none hk
        have h0 := lp_ex (body := f_J1_indexOfChar_4cfef_7b 0 (nI 7) (nI s).toInt8.toInt32 (fun v3 S4 => some ((-1 : Int32), S4))) (Q := fun z => z = some (optI none, S)) 7 (fun i v S' => v = nI i ∧ S' = S) (fun i kk v S' hi hI => ?_) (fun kk v S' hI => ?_) FU 0 (0 : Int32) S (by omega) (by unfold FU; omega) ⟨rfl, rfl⟩
        · exact h0
        · obtain ⟨rfl, rfl⟩ := hI
          exact ⟨_, _, (st _ _ i hi).trans (if_neg (of_decide_eq_false (hk i hi))), rfl, rfl⟩
        · obtain ⟨rfl, rfl⟩ := hI
          unfold f_J1_indexOfChar_4cfef_7b
          rw [if_pos (show nI 7 ≤ nI 7 by decide)]; rfl
    rw [l5, bd_e]
  rw [l4, bd_e, bd_e]
/-! the machine -/
def bindN (s : Nat) : Nat := if s = 42 ∨ s = 47 then 3 else if s = 43 ∨ s = 45 then 2 else if s = 60 ∨ s = 61 ∨ s = 62 then 1 else 0
def bo (b x : Nat) : Prop := x = 126 ∨ (x ≠ 40 ∧ b ≤ bindN x)
theorem bo_dec (b x : Nat) : bo b x ∨ ¬ bo b x := Classical.em _
def boB (b x : Nat) : Bool := decide (x = 126) || (!decide (x = 40) && decide (b ≤ bindN x))
theorem boB_i (b x : Nat) : boB b x = true ↔ bo b x := by unfold boB bo; simp
def rlsN (b : Nat) : List Nat → List Nat → List Nat × List Nat
  | [], O => ([], O)
  | w :: W, O => if boB b w = true then rlsN b W ((2000 + w) :: O) else (w :: W, O)
abbrev RS : Type := Bool × Nat × Nat × Nat × List Nat × List Nat
def sw (x : RS) : Bool := x.1
def sd (x : RS) : Nat := x.2.1
def sk (x : RS) : Nat := x.2.2.1
def sg (x : RS) : Nat := x.2.2.2.1
def sW (x : RS) : List Nat := x.2.2.2.2.1
def sO (x : RS) : List Nat := x.2.2.2.2.2
def stA (s : Nat) (x : RS) : Option RS := if s = 45 then some (true, sd x, sk x, sg x, 126 :: sW x, sO x) else if s = 40 then (if sd x = 4 then none else some (true, sd x + 1, clrN (sk x) (sd x + 1), sg x, 40 :: sW x, sO x)) else if 48 ≤ s ∧ s ≤ 57 then some (false, sd x, sk x, 1, sW x, (s - 48) :: sO x) else match ixN 0 s with
  | some k => some (false, sd x, sk x, 0, sW x, (1000 + k) :: sO x)
  | none => none
def stB (s : Nat) (x : RS) : Option RS := if 48 ≤ s ∧ s ≤ 57 then (match sO x with
    | [] => none
    | v :: O => if sg x = 0 ∨ sg x = 3 then none else some (false, sd x, sk x, sg x + 1, sW x, (10 * v + (s - 48)) :: O)) else if s = 41 then (if sd x = 0 then none else some (false, sd x - 1, sk x, 0, (rlsN 1 (sW x) (sO x)).1.tail, (rlsN 1 (sW x) (sO x)).2)) else if bindN s = 0 then none else if bindN s = 1 ∧ (sk x).testBit (sd x) = true then none else some (true, sd x, if bindN s = 1 then sk x ||| 2 ^ sd x else sk x, 0, s :: (rlsN (bindN s) (sW x) (sO x)).1, (rlsN (bindN s) (sW x) (sO x)).2)
def stR (s : Nat) (x : RS) : Option RS := if sw x = true then stA s x else stB s x
def rn (t : Nat → Nat) (a : Nat) : Nat → RS → Option RS
  | 0, x => some x
  | k + 1, x => (rn t a k x).bind (stR (t (a + k)))
theorem rn_1 (t : Nat → Nat) (a : Nat) (x : RS) : rn t a 1 x = stR (t a) x := rfl
theorem rn_s (t : Nat → Nat) (a k : Nat) (x : RS) : rn t a (k + 1) x = (rn t a k x).bind (stR (t (a + k))) := rfl
theorem rn_add {t : Nat → Nat} {a k l : Nat} {x y z : RS} (h1 : rn t a k x = some y) (h2 : rn t (a + k) l y = some z) : rn t a (k + l) x = some z := by
  revert z
  induction l with
  | zero => intro z h2; rw [← h2]; exact h1
  | succ l ih =>
    intro z h2
    rw [rn_s] at h2
    cases g : rn t (a + k) l y with
    | none => rw [g] at h2; cases h2
    | some w =>
      rw [g] at h2
      rw [← Nat.add_assoc, rn_s, ih g, ← Nat.add_assoc]
      exact h2
theorem rel_x {b : Nat} : ∀ (X W O : List Nat), (∀ x, x ∈ X → bo b x) → (∀ w, W.head? = some w → ¬ bo b w) → rlsN b (X ++ W) O = (W, (X.map (fun x => 2000 + x)).reverse ++ O) := by
  intro X
  induction X with
  | nil =>
    intro W O _ h
    cases W with
    | nil => rfl
    | cons w W =>
      show (if boB b w = true then _ else _) = _
      rw [if_neg (fun z => h w rfl ((boB_i b w).mp z))]; rfl
  | cons x X ih =>
    intro W O h1 h2
    show (if boB b x = true then rlsN b (X ++ W) ((2000 + x) :: O) else _) = _
    rw [if_pos ((boB_i b x).mpr (h1 x (by simp))), ih W _ (fun y hy => h1 y (by simp [hy])) h2]
    simp
def offN (r : Nat) : Nat := if r = 0 then 0 else if r = 1 then 3 else 5
theorem ix_b : ∀ s, s < 256 → ∀ r, r < 3 → ((ixN (r + 1) s).isSome = decide (bindN s = r + 1)) := by decide +kernel
def ixC (s r j : Nat) : Bool := !decide (ixN (r + 1) s = some j) || (decide (enc (2000 + j + offN r) = 2000 + s) && decide (j + offN r ≤ 6) && decide (s ≠ 126 ∧ s ≠ 40 ∧ s ≠ 41 ∧ ¬ (48 ≤ s ∧ s ≤ 57)))
theorem ix_a : ∀ s, s < 256 → ∀ r, r < 3 → ∀ j, j < 3 → ixC s r j = true := by decide +kernel
theorem ix_e {s r j : Nat} (hs : s < 256) (hr : r < 3) (hj : j < 3) (h : ixN (r + 1) s = some j) : enc (2000 + j + offN r) = 2000 + s ∧ j + offN r ≤ 6 ∧ s ≠ 126 ∧ s ≠ 40 ∧ s ≠ 41 ∧ ¬ (48 ≤ s ∧ s ≤ 57) := by
  have := ix_a s hs r hr j hj
  unfold ixC at this
  rw [decide_eq_true h] at this
  simp only [Bool.not_true, Bool.false_or, Bool.and_eq_true, decide_eq_true_eq] at this
  exact ⟨this.1.1, this.1.2, this.2⟩
theorem ix_3 {r s j : Nat} (hr : r < 3) (h : ixN (r + 1) s = some j) : j < 3 := by
  have := (lst_some h).1
  have e : (sB (r + 1)).length ≤ 3 := by
    have : r = 0 ∨ r = 1 ∨ r = 2 := by omega
    rcases this with rfl | rfl | rfl <;> decide
  omega
theorem ix_7 {s j : Nat} (h : ixN 0 s = some j) : j < 7 := (lst_some h).1
theorem ix_0 : ∀ s, s < 256 → (ixN 0 s).isSome = true → s ≠ 45 ∧ s ≠ 40 ∧ ¬ (48 ≤ s ∧ s ≤ 57) := by decide +kernel
theorem bind_le (s : Nat) : bindN s ≤ 3 := by
  unfold bindN
  split
  · omega
  · split
    · omega
    · split <;> omega
/-! heights of codes -/
def hgS (c h : Nat) : Option Nat := if c < 1007 then some (h + 1) else if c = 3000 then (if 1 ≤ h then some h else none) else if 2000 ≤ c ∧ c ≤ 2006 then (if 2 ≤ h then some (h - 1) else none) else none
def hgE : List Nat → Nat → Option Nat
  | [], h => some h
  | c :: C, h => (hgE C h).bind (hgS c)
theorem hgE_ap {C D : List Nat} {h h1 : Nat} (e : hgE D h = some h1) : hgE (C ++ D) h = hgE C h1 := by
  induction C with
  | nil => exact e
  | cons c C ih =>
    show (hgE (C ++ D) h).bind (hgS c) = (hgE C h1).bind (hgS c)
    rw [ih]
def ArL (A : Nat → Int32) : List Nat → Prop
  | [] => True
  | x :: L => A L.length = nI x ∧ ArL A L
theorem ArL.ag {A B : Nat → Int32} : ∀ {L : List Nat}, (∀ i, i < L.length → B i = A i) → ArL A L → ArL B L := by
  intro L
  induction L with
  | nil => intro _ _; trivial
  | cons x L ih =>
    intro h1 h2
    exact ⟨(h1 _ (by simp)).trans h2.1, ih (fun i hi => h1 i (by simp; omega)) h2.2⟩
