/-! the pure side: words for states, first rows -/
theorem gI_s (S : St) (o k : Nat) (v : Int32) (a b : Nat) : gI (sI S o k v) a b = if a = o then (if b = k then v else gI S a b) else gI S a b := rfl
theorem gL_s (S : St) (o k : Nat) (v : Int32) (a b : Nat) : gL (sI S o k v) a b = gL S a b := rfl
theorem gI_l (S : St) (o k : Nat) (v : Int64) (a b : Nat) : gI (sL S o k v) a b = gI S a b := rfl
theorem gL_l (S : St) (o k : Nat) (v : Int64) (a b : Nat) : gL (sL S o k v) a b = if a = o then (if b = k then v else gL S a b) else gL S a b := rfl
theorem lt_e {β γ : Type} (a : γ) (k : γ → Option β) : lt a k = k a := rfl
theorem bd_e {α β : Type} (r : α) (S : St) (k : α → St → Option β) : bd (some (r, S)) k = k r S := rfl
theorem bd_of {α β : Type} {o : Option (α × St)} {r : α} {S : St} (h : o = some (r, S)) (k : α → St → Option β) : bd o k = k r S := by rw [h]; rfl
/-- a loop by its states: from F 0 on, N rounds, then out -/
theorem lp_for {β V : Type} {body : (V → St → Option β) → V → St → Option β} {out : Option β} (N : Nat) (F : Nat → V × St) (hs : ∀ i k, i < N → body k (F i).1 (F i).2 = k (F (i + 1)).1 (F (i + 1)).2) (h0 : ∀ k, body k (F N).1 (F N).2 = out) : ∀ n i, i ≤ N → N - i < n → lp body n (F i).1 (F i).2 = out := by
  intro n
  induction n with
  | zero => intro i _ h; omega
  | succ n ih =>
    intro i hi hn
    show body (lp body n) (F i).1 (F i).2 = out
    by_cases e : i = N
    · subst e; exact h0 _
    · rw [hs i _ (by omega)]
      exact ih (i + 1) (by omega) (by omega)
/-- a loop with a measure: each round ends with out, or goes on with less -/
theorem lp_to {β V : Type} {body : (V → St → Option β) → V → St → Option β} {out : Option β} (I : Nat → V → St → Prop) (hs : ∀ m k v S, I m v S → body k v S = out ∨ ∃ m' v' S', m' < m ∧ I m' v' S' ∧ body k v S = k v' S') : ∀ n m v S, m < n → I m v S → lp body n v S = out := by
  intro n
  induction n with
  | zero => intro m v S h; omega
  | succ n ih =>
    intro m v S hn hI
    show body (lp body n) v S = out
    rcases hs m (lp body n) v S hI with h | ⟨m', v', S', h1, h2, h3⟩
    · exact h
    · rw [h3]; exact ih m' v' S' (by omega) h2
theorem cmp_lt (x y : Int64) : (lg_cmp x y < 0) ↔ x < y := by
  unfold lg_cmp
  by_cases h1 : x > y
  · rw [if_pos h1]
    constructor
    · intro h; exact absurd h (by decide)
    · intro h
      rw [gt_iff_lt, Int64.lt_iff_toInt_lt] at h1
      rw [Int64.lt_iff_toInt_lt] at h
      omega
  · rw [if_neg h1]
    by_cases h2 : x = y
    · rw [if_pos h2]
      constructor
      · intro h; exact absurd h (by decide)
      · intro h; subst h2; rw [Int64.lt_iff_toInt_lt] at h; omega
    · rw [if_neg h2]
      constructor
      · intro _
        rw [gt_iff_lt, Int64.lt_iff_toInt_lt] at h1
        rw [← Int64.toInt_inj] at h2
        rw [Int64.lt_iff_toInt_lt]; omega
      · intro _; decide
theorem cmp_gt (x y : Int64) : (0 < lg_cmp x y) ↔ y < x := by
  unfold lg_cmp
  by_cases h1 : x > y
  · rw [if_pos h1]
    exact ⟨fun _ => h1, fun _ => by decide⟩
  · rw [if_neg h1]
    constructor
    · intro h
      by_cases h2 : x = y
      · rw [if_pos h2] at h; exact absurd h (by decide)
      · rw [if_neg h2] at h; exact absurd h (by decide)
    · intro h; exact absurd h h1
theorem i64_lt (a b : Int32) : a.toInt64 < b.toInt64 ↔ a < b := by
  rw [Int64.lt_iff_toInt_lt, Int32.lt_iff_toInt_lt, Int32.toInt_toInt64, Int32.toInt_toInt64]
theorem in32 (x y z : Int32) {Y Z : Int64} (hY : Y = y.toInt64) (hZ : Z = z.toInt64) (S : St) : f_X11_in x.toInt64 Y Z S = some (if ¬ x < y ∧ ¬ z < x then 1 else 0, S) := by
  subst hY; subst hZ
  unfold f_X11_in
  by_cases h1 : x < y
  · rw [if_pos ((cmp_lt _ _).mpr ((i64_lt _ _).mpr h1)), if_neg (fun h => h.1 h1)]
  · rw [if_neg (fun h => h1 ((i64_lt _ _).mp ((cmp_lt _ _).mp h)))]
    by_cases h2 : z < x
    · rw [if_pos ((cmp_gt _ _).mpr ((i64_lt _ _).mpr h2)), if_neg (fun h => h.2 h2)]
    · rw [if_neg (fun h => h2 ((i64_lt _ _).mp ((cmp_gt _ _).mp h))), if_pos ⟨h1, h2⟩]
theorem flag_e (x : Int32) (S : St) : f_X11_flag x S = some (if x = 0 then 0 else 1, S) := by
  unfold f_X11_flag
  by_cases h : x = 0
  · rw [if_pos h, if_pos h]
  · rw [if_neg h, if_neg h]
theorem i_le {a b : Int32} : a ≤ b ↔ a.toInt ≤ b.toInt := Int32.le_iff_toInt_le
theorem i_lt {a b : Int32} : a < b ↔ a.toInt < b.toInt := Int32.lt_iff_toInt_lt
theorem i_eq {a b : Int32} : a = b ↔ a.toInt = b.toInt := Int32.toInt_inj.symm
