/-! small numbers -/
theorem lit (n : Nat) : (@OfNat.ofNat Int32 n _) = nI (@OfNat.ofNat Nat n _) := rfl
theorem nI_int {a : Nat} (h : a < 2147483648) : (nI a).toInt = (a : Int) := Int32.toInt_ofNat_of_lt (by omega)
theorem nI_t {a : Nat} (h : a < 2147483648) : (nI a).toNatClampNeg = a := Int32.toNatClampNeg_ofNat_of_lt (by omega)
theorem nLt {a b : Nat} (ha : a < 2147483648) (hb : b < 2147483648) : (nI a < nI b) = (a < b) := by
  rw [i_lt, nI_int ha, nI_int hb]; simp
theorem nLe {a b : Nat} (ha : a < 2147483648) (hb : b < 2147483648) : (nI a ≤ nI b) = (a ≤ b) := by
  rw [i_le, nI_int ha, nI_int hb]; simp
theorem nEq {a b : Nat} (ha : a < 2147483648) (hb : b < 2147483648) : (nI a = nI b) = (a = b) := by
  rw [i_eq, nI_int ha, nI_int hb]; apply propext; omega
theorem nAdd (a b : Nat) : nI a + nI b = nI (a + b) := (Int32.ofNat_add a b).symm
theorem nMul (a b : Nat) : nI a * nI b = nI (a * b) := (Int32.ofNat_mul a b).symm
theorem nSub {a b : Nat} (h : b ≤ a) : nI a - nI b = nI (a - b) := by
  have e : nI a = nI (a - b) + nI b := by rw [nAdd, Nat.sub_add_cancel h]
  rw [e, Int32.add_sub_cancel]
theorem inb_nI {a n : Nat} (ha : a < 2147483648) : inb (nI a) n = (a < n) := by
  unfold inb
  rw [nI_t ha, show (0 : Int32) = nI 0 from rfl, nLt ha (by omega)]
  apply propext; omega
theorem nI_z (x : Int32) (h : 0 ≤ x.toInt) : x = nI x.toNatClampNeg := by
  rw [i_eq, nI_int (by have := x.toInt_lt; rw [Int32.toNatClampNeg]; omega)]
  rw [Int32.toNatClampNeg]; omega
/-- an argument between two numbers -/
theorem as_nI {x : Int32} {b : Nat} (h1 : ¬ x < 0) (hb : b < 2147483648) (h2 : x < nI b ∨ x ≤ nI (b - 1) ∧ 0 < b) : ∃ n, n < b ∧ x = nI n := by
  rw [i_lt] at h1
  simp at h1
  refine ⟨x.toNatClampNeg, ?_, nI_z x h1⟩
  rw [i_lt, i_le, nI_int hb, nI_int (by omega)] at h2
  rw [Int32.toNatClampNeg]; omega
theorem as_le {x : Int32} {b : Nat} (h1 : ¬ x < nI 0) (h2 : ¬ nI b < x) (hb : b < 2147483647 := by omega) : ∃ n, n ≤ b ∧ x = nI n := by
  obtain ⟨n, h, e⟩ := as_nI (b := b + 1) h1 (by omega) (Or.inr ⟨by rw [Nat.add_sub_cancel, i_le]; rw [i_lt] at h2; omega, by omega⟩)
  exact ⟨n, by omega, e⟩
theorem as_lt {x : Int32} {b : Nat} (h1 : ¬ x < nI 0) (h2 : x < nI b) (hb : b < 2147483647 := by omega) : ∃ n, n < b ∧ x = nI n := as_nI h1 (by omega) (Or.inl h2)
theorem as_nle {x : Int32} {b : Nat} (h1 : ¬ x < nI 0) (h2 : ¬ nI b ≤ x) (hb : b < 2147483647 := by omega) : ∃ n, n < b ∧ x = nI n := as_nI h1 (by omega) (Or.inl (by rw [i_le] at h2; rw [i_lt]; omega))
/-! whole rows -/
def sR (S : St) (o : Nat) (f : Nat → Int32) : St := (fun a b => if a = o then f b else S.1 a b, S.2)
def sQ (S : St) (o : Nat) (f : Nat → Int64) : St := (S.1, fun a b => if a = o then f b else S.2 a b)
theorem gI_r (S : St) (o : Nat) (f : Nat → Int32) (a b : Nat) : gI (sR S o f) a b = if a = o then f b else gI S a b := rfl
theorem gL_r (S : St) (o : Nat) (f : Nat → Int32) (a b : Nat) : gL (sR S o f) a b = gL S a b := rfl
theorem gI_q (S : St) (o : Nat) (f : Nat → Int64) (a b : Nat) : gI (sQ S o f) a b = gI S a b := rfl
theorem gL_q (S : St) (o : Nat) (f : Nat → Int64) (a b : Nat) : gL (sQ S o f) a b = if a = o then f b else gL S a b := rfl
theorem St_ext {S S' : St} (h1 : ∀ a b, gI S a b = gI S' a b) (h2 : ∀ a b, gL S a b = gL S' a b) : S = S' := by
  cases S; cases S'
  congr
  · funext a b; exact h1 a b
  · funext a b; exact h2 a b
theorem sR_0 {S : St} {o : Nat} {f : Nat → Int32} (h : ∀ k, f k = gI S o k) : sR S o f = S := by
  apply St_ext
  · intro a b; rw [gI_r]; by_cases e : a = o
    · rw [if_pos e, h, e]
    · rw [if_neg e]
  · intro a b; rfl
theorem sR_I (S : St) (o k : Nat) (f : Nat → Int32) (v : Int32) : sI (sR S o f) o k v = sR S o (fun j => if j = k then v else f j) := by
  apply St_ext
  · intro a b; rw [gI_s, gI_r, gI_r]; by_cases e : a = o
    · rw [if_pos e, if_pos e, if_pos e]
    · rw [if_neg e, if_neg e, if_neg e]
  · intro a b; rfl
theorem sI_R (S : St) (o k : Nat) (v : Int32) : sI S o k v = sR S o (fun j => if j = k then v else gI S o j) := by
  apply St_ext
  · intro a b; rw [gI_s, gI_r]; by_cases e : a = o
    · subst e; rw [if_pos rfl]
    · rw [if_neg e, if_neg e]
  · intro a b; rfl
theorem sR_R (S : St) (o : Nat) (f g : Nat → Int32) : sR (sR S o f) o g = sR S o g := by
  apply St_ext
  · intro a b; rw [gI_r, gI_r, gI_r]; by_cases e : a = o
    · rw [if_pos e, if_pos e]
    · rw [if_neg e, if_neg e, if_neg e]
  · intro a b; rfl
theorem sR_e (S : St) (o : Nat) {f g : Nat → Int32} (h : ∀ k, f k = g k) : sR S o f = sR S o g := by rw [funext h]
theorem sC_R (S : St) (o1 o2 n : Nat) : sC S o1 0 o2 0 n = sR S o2 (fun j => if j < n then gI S o1 j else gI S o2 j) := by
  apply St_ext
  · intro a b
    show (if a = o2 then va_cpy (S.1 o1) (S.1 o2) 0 0 n b else S.1 a b) = _
    rw [gI_r]
    by_cases e : a = o2
    · rw [if_pos e, if_pos e]
      unfold va_cpy
      by_cases h : b < n
      · rw [if_pos (by omega), if_pos h]; simp [gI]
      · rw [if_neg (by omega), if_neg h]; rfl
    · rw [if_neg e, if_neg e]; rfl
  · intro a b; rfl
theorem Sim.sR {S S1 : St} (h : Sim S S1) {o : Nat} {f : Nat → Int32} (hs : ∀ k, scr o k = true) : Sim S (sR S1 o f) := by
  refine ⟨fun a b hab => ?_, h.2⟩
  rw [gI_r]
  by_cases e : a = o
  · subst e; rw [hs b] at hab; cases hab
  · rw [if_neg e]; exact h.1 a b hab
theorem scr_al {o : Nat} (h : scrO.contains o = true) (k : Nat) : scr o k = true := by unfold scr; rw [h]; simp
/-! what comes out of a piece of program -/
def Wp {α : Type} (o : Option (α × St)) (Q : α → St → Prop) : Prop := ∃ r S', o = some (r, S') ∧ Q r S'
theorem Wp.rt {α : Type} {r : α} {S : St} {Q : α → St → Prop} (h : Q r S) : Wp (some (r, S)) Q := ⟨r, S, rfl, h⟩
theorem Wp.bd {α β : Type} {o : Option (α × St)} {k : α → St → Option (β × St)} {Q : β → St → Prop} (h : Wp o (fun r S => Wp (k r S) Q)) : Wp (bd o k) Q := by
  obtain ⟨r, S', rfl, h⟩ := h; exact h
theorem Wp.mo {α : Type} {o : Option (α × St)} {Q Q' : α → St → Prop} (h : Wp o Q) (hq : ∀ r S, Q r S → Q' r S) : Wp o Q' := by
  obtain ⟨r, S', e, h⟩ := h; exact ⟨r, S', e, hq r S' h⟩
theorem Wp.eq {α : Type} {o o' : Option (α × St)} {Q : α → St → Prop} (e : o = o') (h : Wp o' Q) : Wp o Q := e ▸ h
theorem Wp.it {α : Type} {c : Prop} [Decidable c] {a b : Option (α × St)} {Q : α → St → Prop} (h1 : c → Wp a Q) (h2 : ¬ c → Wp b Q) : Wp (if c then a else b) Q := by
  by_cases h : c
  · rw [if_pos h]; exact h1 h
  · rw [if_neg h]; exact h2 h
theorem Wp.lp {β V : Type} {body : (V → St → Option (β × St)) → V → St → Option (β × St)} {Q : β → St → Prop} (I : Nat → V → St → Prop) (hs : ∀ m k v S, I m v S → (∀ m' v' S', m' < m → I m' v' S' → Wp (k v' S') Q) → Wp (body k v S) Q) : ∀ n m v S, m < n → I m v S → Wp (lp body n v S) Q := by
  intro n
  induction n with
  | zero => intro m v S h; omega
  | succ n ih =>
    intro m v S hn hI
    show Wp (body (_root_.Jvm.Pilot.CCaveAdviceLaw_law_r4081_87989a.lp body n) v S) Q
    exact hs m _ v S hI (fun m' v' S' hm hI' => ih m' v' S' (by omega) hI')
theorem EQ1.of {α : Type} {Rel : St → Prop} {f g : St → Option (α × St)} (h : ∀ S, Rel S → Wp (f S) (fun r S1 => Wp (g S1) (fun r' S2 => r' = r ∧ Rel S2))) : EQ1 Rel f g := by
  intro S hS
  obtain ⟨r, S1, e1, r', S2, e2, rfl, h2⟩ := h S hS
  exact ⟨r', S1, S2, e1, e2, h2⟩
/-! the parts of the relation, by the places that they speak of -/
theorem RT.fr {S S' : St} (h : RT S) (a : gI S' 1 1 = gI S 1 1 := by rfl) (b : gI S' 122 10 = gI S 122 10 := by rfl) (c : ∀ k, gI S' 2 k = gI S 2 k := by intro k; rfl) (d : ∀ k, gI S' 128 k = gI S 128 k := by intro k; rfl) : RT S' := by
  obtain ⟨n, h1, h2, h3, h4, h5⟩ := h
  exact ⟨n, h1, a.trans h2, b.trans h3, fun i hi => by rw [c, d]; exact h4 i hi, fun i hi => by rw [c]; exact h5 i hi⟩
theorem RC.fr {S S' : St} {m : Nat} (h : RC S m) (a : gI S' 3 2 = gI S 3 2 := by rfl) (b : gI S' 122 3 = gI S 122 3 := by rfl) (c : ∀ k, gI S' 4 k = gI S 4 k := by intro k; rfl) (d : ∀ k, gI S' 5 k = gI S 5 k := by intro k; rfl) (e : ∀ k, gI S' 124 k = gI S 124 k := by intro k; rfl) (f : ∀ k, gI S' 125 k = gI S 125 k := by intro k; rfl) : RC S' m := by
  obtain ⟨h1, h2, h3, h4⟩ := h
  exact ⟨h1, a.trans h2, b.trans h3, fun i hi => by rw [c, d, e, f]; exact h4 i hi⟩
theorem SEq.fr {S S' : St} {o R b : Nat} (h : SEq S o R b) (h1 : ∀ q k, q ≤ 3 → gI S' (o + q) k = gI S (o + q) k) (h2 : ∀ k, b ≤ k → k < b + 39 → gI S' R k = gI S R k) : SEq S' o R b := by
  obtain ⟨a1, a2, a3, a4⟩ := h
  have z : ∀ k, gI S' o k = gI S o k := fun k => h1 0 k (by omega)
  refine ⟨fun i hi => ?_, ?_, ?_, ?_⟩
  · rw [h1 1 i (by omega), h1 2 i (by omega), h1 3 i (by omega), h2 _ (by omega) (by omega), h2 _ (by omega) (by omega), h2 _ (by omega) (by omega)]
    exact a1 i hi
  · rw [z, h2 _ (by omega) (by omega)]; exact a2
  · rw [z, h2 _ (by omega) (by omega)]; exact a3
  · rw [z, h2 _ (by omega) (by omega)]; exact a4
theorem SOk.fr {S S' : St} {m o : Nat} (h : SOk S m o) (h1 : ∀ q k, q ≤ 3 → gI S' (o + q) k = gI S (o + q) k) : SOk S' m o := by
  obtain ⟨a1, a2, a3⟩ := h
  have z : ∀ k, gI S' o k = gI S o k := fun k => h1 0 k (by omega)
  refine ⟨fun i hi => ?_, ?_, ?_⟩
  · rw [h1 1 i (by omega), h1 2 i (by omega), h1 3 i (by omega)]; exact a1 i hi
  · rw [z]; exact a2
  · rw [z]; exact a3
theorem now4 {S S' : St} (a : ∀ k, gI S' 6 k = gI S 6 k) (b : ∀ k, gI S' 7 k = gI S 7 k) (c : ∀ k, gI S' 8 k = gI S 8 k) (d : ∀ k, gI S' 9 k = gI S 9 k) : ∀ q k, q ≤ 3 → gI S' (6 + q) k = gI S (6 + q) k := by
  intro q k hq
  have : q = 0 ∨ q = 1 ∨ q = 2 ∨ q = 3 := by omega
  rcases this with rfl | rfl | rfl | rfl
  · exact a k
  · exact b k
  · exact c k
  · exact d k
/-- the States that are put by -/
def hzO (o : Nat) : Bool := (decide (14 ≤ o) && decide (o ≤ 77)) || (decide (79 ≤ o) && decide (o ≤ 90))
def Hz (S S' : St) : Prop := ∀ o k, hzO o = true → gI S' o k = gI S o k
theorem Hz.rf (S : St) : Hz S S := fun _ _ _ => rfl
theorem Hz.sI {S S1 : St} {o k : Nat} {v : Int32} (h : Hz S S1) (ho : hzO o = false) : Hz S (sI S1 o k v) := by
  intro a b hab
  rw [gI_s, if_neg]
  · exact h a b hab
  · intro e; subst e; rw [ho] at hab; cases hab
theorem Hz.sR {S S1 : St} {o : Nat} {f : Nat → Int32} (h : Hz S S1) (ho : hzO o = false) : Hz S (sR S1 o f) := by
  intro a b hab
  rw [gI_r, if_neg]
  · exact h a b hab
  · intro e; subst e; rw [ho] at hab; cases hab
theorem Hz.sL {S S1 : St} {o k : Nat} {v : Int64} (h : Hz S S1) : Hz S (sL S1 o k v) := h
theorem Hz.sQ {S S1 : St} {o : Nat} {f : Nat → Int64} (h : Hz S S1) : Hz S (sQ S1 o f) := h
theorem Hz.a {S S1 : St} (h : Hz S S1) : ∀ o k, 14 ≤ o → o ≤ 77 → gI S1 o k = gI S o k := fun o k h1 h2 => h o k (by unfold hzO; rw [decide_eq_true h1, decide_eq_true h2]; rfl)
theorem Hz.b {S S1 : St} (h : Hz S S1) : ∀ o k, 79 ≤ o → o ≤ 90 → gI S1 o k = gI S o k := fun o k h1 h2 => h o k (by unfold hzO; rw [decide_eq_true h1, decide_eq_true h2]; simp)
theorem RH.fr {S S' : St} {m : Nat} (h : RH S m) (a : gI S' 12 2 = gI S 12 2 := by rfl) (b : gI S' 122 28 = gI S 122 28 := by rfl) (c : gI S' 12 1 = gI S 12 1 := by rfl) (dd : Hz S S' := by (repeat (first | exact Hz.rf _ | refine Hz.sI ?_ rfl | refine Hz.sR ?_ rfl | refine Hz.sL ?_ | refine Hz.sQ ?_))) (e : ∀ k, gI S' 137 k = gI S 137 k := by intro k; rfl) : RH S' m := by
  have d := dd.a
  obtain ⟨u, f, h1, h2, h3, h4, h5, h6⟩ := h
  exact ⟨u, f, h1, h2, a.trans h3, b.trans h4, c.trans h5, fun j hj => ⟨(h6 j hj).1.fr (fun q k hq => d _ _ (by omega) (by omega)) (fun k _ _ => e k), (h6 j hj).2.fr (fun q k hq => d _ _ (by omega) (by omega))⟩⟩
theorem RK.fr {S S' : St} {m : Nat} (h : RK S m) (a : gI S' 122 4 = gI S 122 4 := by rfl) (b : ∀ k, gI S' 91 k = gI S 91 k := by intro k; rfl) (c : ∀ k, gI S' 155 k = gI S 155 k := by intro k; rfl) (c2 : ∀ k, gI S' 156 k = gI S 156 k := by intro k; rfl) (dd : Hz S S' := by (repeat (first | exact Hz.rf _ | refine Hz.sI ?_ rfl | refine Hz.sR ?_ rfl | refine Hz.sL ?_ | refine Hz.sQ ?_))) (e : ∀ k, gI S' 157 k = gI S 157 k := by intro k; rfl) : RK S' m := by
  have d := dd.b
  obtain ⟨q, h1, h2, h3⟩ := h
  refine ⟨q, h1, a.trans h2, fun i hi => ?_⟩
  obtain ⟨a1, a2, a3, a4, a5⟩ := h3 i hi
  rw [b, c, c2]
  exact ⟨a1, a2, a3, a4, fun x => ⟨(a5 x).1.fr (fun q k hq => d _ _ (by omega) (by omega)) (fun k _ _ => e k), (a5 x).2.fr (fun q k hq => d _ _ (by omega) (by omega))⟩⟩
theorem RR.fr {S S' : St} (h : RR S) (a : gI S' 10 1 = gI S 10 1 := by rfl) (b : gI S' 122 1 = gI S 122 1 := by rfl) (c : ∀ k, gL S' 11 k = gL S 11 k := by intro k; rfl) (d : ∀ k, gL S' 123 k = gL S 123 k := by intro k; rfl) : RR S' := by
  obtain ⟨t, h1, h2, h3, h4⟩ := h
  exact ⟨t, h1, a.trans h2, b.trans h3, fun i hi => by rw [c, d]; exact h4 i hi⟩
theorem RF.fr {S S' : St} (h : RF S) (a : gI S' 101 3 = gI S 101 3 := by rfl) (b : gI S' 122 39 = gI S 122 39 := by rfl) (c : ∀ k, gI S' 102 k = gI S 102 k := by intro k; rfl) (d : ∀ k, gI S' 103 k = gI S 103 k := by intro k; rfl) (e : ∀ k, gI S' 146 k = gI S 146 k := by intro k; rfl) (f : ∀ k, gI S' 147 k = gI S 147 k := by intro k; rfl) : RF S' := by
  obtain ⟨t, h1, h2, h3, h4⟩ := h
  exact ⟨t, h1, a.trans h2, b.trans h3, fun i hi => by rw [c, d, e, f]; exact h4 i hi⟩
theorem RE.fr {S S' : St} (h : RE S) (a : gI S' 104 3 = gI S 104 3 := by rfl) (b : gI S' 122 42 = gI S 122 42 := by rfl) (c : ∀ k, gI S' 105 k = gI S 105 k := by intro k; rfl) (d : ∀ k, gI S' 106 k = gI S 106 k := by intro k; rfl) (c3 : ∀ k, gI S' 107 k = gI S 107 k := by intro k; rfl) (e : ∀ k, gI S' 148 k = gI S 148 k := by intro k; rfl) (f : ∀ k, gI S' 149 k = gI S 149 k := by intro k; rfl) (g : ∀ k, gI S' 150 k = gI S 150 k := by intro k; rfl) : RE S' := by
  obtain ⟨t, h1, h2, h3, h4⟩ := h
  exact ⟨t, h1, a.trans h2, b.trans h3, fun i hi => by rw [c, d, c3, e, f, g]; exact h4 i hi⟩
theorem RU.fr {S S' : St} (h : RU S) (a : gI S' 0 8 = gI S 0 8 := by rfl) (b : gI S' 0 9 = gI S 0 9 := by rfl) (c : gI S' 110 1 = gI S 110 1 := by rfl) (c1 : gI S' 115 1 = gI S 115 1 := by rfl) (d : gI S' 122 18 = gI S 122 18 := by rfl) (e : ∀ k, gI S' 111 k = gI S 111 k := by intro k; rfl) (f : ∀ k, gI S' 116 k = gI S 116 k := by intro k; rfl) (g : ∀ k, gI S' 130 k = gI S 130 k := by intro k; rfl) : RU S' := by
  obtain ⟨r, z, h1, h2, h3, h4, h5, h6, cc, h7, h8⟩ := h
  refine ⟨r, z, h1, h2, a.trans h3, b.trans h4, ?_, d.trans h6, cc, fun i hi => ?_, h8⟩
  · rcases h1 with rfl | rfl
    · exact c.trans h5
    · exact c1.trans h5
  · rw [g]
    refine ⟨(h7 i hi).1, ?_⟩
    rcases h1 with rfl | rfl
    · exact (e i).trans (h7 i hi).2
    · exact (f i).trans (h7 i hi).2
theorem SOk.f6 {S S' : St} {m : Nat} (h : SOk S m 6) (a : ∀ k, gI S' 6 k = gI S 6 k := by intro k; rfl) (b : ∀ k, gI S' 7 k = gI S 7 k := by intro k; rfl) (c : ∀ k, gI S' 8 k = gI S 8 k := by intro k; rfl) (d : ∀ k, gI S' 9 k = gI S 9 k := by intro k; rfl) : SOk S' m 6 := h.fr (now4 a b c d)
theorem SEq.f6 {S S' : St} (h : SEq S 6 126 0) (a : ∀ k, gI S' 6 k = gI S 6 k := by intro k; rfl) (b : ∀ k, gI S' 7 k = gI S 7 k := by intro k; rfl) (c : ∀ k, gI S' 8 k = gI S 8 k := by intro k; rfl) (d : ∀ k, gI S' 9 k = gI S 9 k := by intro k; rfl) (e : ∀ k, gI S' 126 k = gI S 126 k := by intro k; rfl) : SEq S' 6 126 0 := h.fr (now4 a b c d) (fun k _ _ => e k)
theorem in0 (x z : Int32) (S : St) : f_X11_in x.toInt64 (0 : Int64) z.toInt64 S = some (if ¬ x < nI 0 ∧ ¬ z < x then nI 1 else nI 0, S) := in32 x 0 z rfl rfl S
theorem in2 (x y z : Int32) (S : St) : f_X11_in x.toInt64 y.toInt64 z.toInt64 S = some (if ¬ x < y ∧ ¬ z < x then nI 1 else nI 0, S) := in32 x y z rfl rfl S
theorem in_0_2 (x : Int32) (S : St) : f_X11_in x.toInt64 (0 : Int64) (2 : Int64) S = some (if ¬ x < nI 0 ∧ ¬ nI 2 < x then nI 1 else nI 0, S) := in32 x 0 2 (by decide) (by decide) S
theorem in_0_3 (x : Int32) (S : St) : f_X11_in x.toInt64 (0 : Int64) (3 : Int64) S = some (if ¬ x < nI 0 ∧ ¬ nI 3 < x then nI 1 else nI 0, S) := in32 x 0 3 (by decide) (by decide) S
theorem in_0_4 (x : Int32) (S : St) : f_X11_in x.toInt64 (0 : Int64) (4 : Int64) S = some (if ¬ x < nI 0 ∧ ¬ nI 4 < x then nI 1 else nI 0, S) := in32 x 0 4 (by decide) (by decide) S
theorem in_0_5 (x : Int32) (S : St) : f_X11_in x.toInt64 (0 : Int64) (5 : Int64) S = some (if ¬ x < nI 0 ∧ ¬ nI 5 < x then nI 1 else nI 0, S) := in32 x 0 5 (by decide) (by decide) S
theorem in_0_7 (x : Int32) (S : St) : f_X11_in x.toInt64 (0 : Int64) (7 : Int64) S = some (if ¬ x < nI 0 ∧ ¬ nI 7 < x then nI 1 else nI 0, S) := in32 x 0 7 (by decide) (by decide) S
theorem in_0_9 (x : Int32) (S : St) : f_X11_in x.toInt64 (0 : Int64) (9 : Int64) S = some (if ¬ x < nI 0 ∧ ¬ nI 9 < x then nI 1 else nI 0, S) := in32 x 0 9 (by decide) (by decide) S
theorem in_0_10 (x : Int32) (S : St) : f_X11_in x.toInt64 (0 : Int64) (10 : Int64) S = some (if ¬ x < nI 0 ∧ ¬ nI 10 < x then nI 1 else nI 0, S) := in32 x 0 10 (by decide) (by decide) S
theorem in_0_20 (x : Int32) (S : St) : f_X11_in x.toInt64 (0 : Int64) (20 : Int64) S = some (if ¬ x < nI 0 ∧ ¬ nI 20 < x then nI 1 else nI 0, S) := in32 x 0 20 (by decide) (by decide) S
theorem in_0_60 (x : Int32) (S : St) : f_X11_in x.toInt64 (0 : Int64) (60 : Int64) S = some (if ¬ x < nI 0 ∧ ¬ nI 60 < x then nI 1 else nI 0, S) := in32 x 0 60 (by decide) (by decide) S
theorem in_0_255 (x : Int32) (S : St) : f_X11_in x.toInt64 (0 : Int64) (255 : Int64) S = some (if ¬ x < nI 0 ∧ ¬ nI 255 < x then nI 1 else nI 0, S) := in32 x 0 255 (by decide) (by decide) S
theorem in_1_9 (x : Int32) (S : St) : f_X11_in x.toInt64 (1 : Int64) (9 : Int64) S = some (if ¬ x < nI 1 ∧ ¬ nI 9 < x then nI 1 else nI 0, S) := in32 x 1 9 (by decide) (by decide) S
theorem in_1_6 (x : Int32) (S : St) : f_X11_in x.toInt64 (1 : Int64) (6 : Int64) S = some (if ¬ x < nI 1 ∧ ¬ nI 6 < x then nI 1 else nI 0, S) := in32 x 1 6 (by decide) (by decide) S
theorem in_1_60 (x : Int32) (S : St) : f_X11_in x.toInt64 (1 : Int64) (60 : Int64) S = some (if ¬ x < nI 1 ∧ ¬ nI 60 < x then nI 1 else nI 0, S) := in32 x 1 60 (by decide) (by decide) S
theorem in_2_9 (x : Int32) (S : St) : f_X11_in x.toInt64 (2 : Int64) (9 : Int64) S = some (if ¬ x < nI 2 ∧ ¬ nI 9 < x then nI 1 else nI 0, S) := in32 x 2 9 (by decide) (by decide) S
theorem in_48_57 (x : Int32) (S : St) : f_X11_in x.toInt64 (48 : Int64) (57 : Int64) S = some (if ¬ x < nI 48 ∧ ¬ nI 57 < x then nI 1 else nI 0, S) := in32 x 48 57 (by decide) (by decide) S
theorem in_97_104 (x : Int32) (S : St) : f_X11_in x.toInt64 (97 : Int64) (104 : Int64) S = some (if ¬ x < nI 97 ∧ ¬ nI 104 < x then nI 1 else nI 0, S) := in32 x 97 104 (by decide) (by decide) S
theorem flagN (x : Int32) (S : St) : f_X11_flag x S = some (if x = nI 0 then nI 0 else nI 1, S) := flag_e x S
theorem n10 : ¬ nI 1 = nI 0 := by decide
theorem n01 : ¬ nI 0 = nI 1 := by decide
theorem fl0 {c : Prop} {dc : Decidable c} : ((@ite Int32 c dc (nI 1) (nI 0)) = nI 0) = ¬ c := by
  by_cases h : c
  · rw [if_pos h]; exact propext ⟨fun e => absurd e (by decide), fun e => absurd h e⟩
  · rw [if_neg h]; exact propext ⟨fun _ => h, fun _ => rfl⟩
theorem fl1 {c : Prop} {dc : Decidable c} : ((@ite Int32 c dc (nI 1) (nI 0)) = nI 1) = c := by
  by_cases h : c
  · rw [if_pos h]; exact propext ⟨fun e => h, fun e => rfl⟩
  · rw [if_neg h]; exact propext ⟨fun e => absurd e (by decide), fun e => absurd e h⟩
theorem fl2 {c : Prop} {dc : Decidable c} {α : Type} {a b : α} {d : Decidable ((@ite Int32 c dc (nI 1) (nI 0)) = nI 0 ∨ (@ite Int32 c dc (nI 1) (nI 0)) = nI 1)} : @ite α ((@ite Int32 c dc (nI 1) (nI 0)) = nI 0 ∨ (@ite Int32 c dc (nI 1) (nI 0)) = nI 1) d a b = a := by
  rw [if_pos]; rw [fl0, fl1]; by_cases h : c <;> simp [h]
theorem fl3 {c : Prop} {dc : Decidable c} {α : Type} {a b : α} {d : Decidable ((@ite Int32 c dc (nI 1) (nI 0)) = nI 0)} : @ite α ((@ite Int32 c dc (nI 1) (nI 0)) = nI 0) d a b = @ite α c dc b a := by
  by_cases h : c
  · exact (if_neg (by rw [fl0]; exact fun e => e h)).trans (if_pos h).symm
  · exact (if_pos (by rw [fl0]; exact h)).trans (if_neg h).symm
theorem fl4 {c : Prop} {dc : Decidable c} {d : Decidable ((@ite Int32 c dc (nI 1) (nI 0)) = nI 0)} : @ite Int32 ((@ite Int32 c dc (nI 1) (nI 0)) = nI 0) d (nI 0) (nI 1) = @ite Int32 c dc (nI 1) (nI 0) := fl3
/-- two texts with one flag as a test -/
theorem fl5 {c : Prop} {dc : Decidable c} {β : Type} (S : St) (k : Int32 → St → Option β) : bd (@ite (Option (Int32 × St)) c dc (some (nI 1, S)) (some (nI 0, S))) k = k (@ite Int32 c dc (nI 1) (nI 0)) S := by
  by_cases h : c
  · rw [if_pos h, if_pos h]; rfl
  · rw [if_neg h, if_neg h]; rfl
/-- .. the other way round -/
theorem fl6 {c : Prop} {dc : Decidable c} {α : Type} {a b : α} {d : Decidable ((@ite Int32 c dc (nI 1) (nI 0)) = nI 1)} : @ite α ((@ite Int32 c dc (nI 1) (nI 0)) = nI 1) d a b = @ite α c dc a b := by
  by_cases h : c
  · exact (if_pos (by rw [fl1]; exact h)).trans (if_pos h).symm
  · exact (if_neg (by rw [fl1]; exact h)).trans (if_neg h).symm
theorem fl3z {c : Prop} {dc : Decidable c} {α : Type} {a b : α} {d : Decidable ((@ite Int32 c dc (nI 1) (nI 0)) = 0)} : @ite α ((@ite Int32 c dc (nI 1) (nI 0)) = 0) d a b = @ite α c dc b a := fl3 (d := d)
theorem fl2z {c : Prop} {dc : Decidable c} {α : Type} {a b : α} {d : Decidable ((@ite Int32 c dc (nI 1) (nI 0)) = 0 ∨ (@ite Int32 c dc (nI 1) (nI 0)) = 1)} : @ite α ((@ite Int32 c dc (nI 1) (nI 0)) = 0 ∨ (@ite Int32 c dc (nI 1) (nI 0)) = 1) d a b = a := fl2 (d := d)
theorem fl6z {c : Prop} {dc : Decidable c} {α : Type} {a b : α} {d : Decidable ((@ite Int32 c dc (nI 1) (nI 0)) = 1)} : @ite α ((@ite Int32 c dc (nI 1) (nI 0)) = 1) d a b = @ite α c dc a b := fl6 (d := d)
theorem EQX_v {f : St → Option (Option Int32 × St)} {g : St → Option (Int32 × St)} {S : St} {v w : Int32} (S1 S2 : St) (h1 : f S = some (some v, S1)) (h2 : g (sL S1 158 0 v.toInt64) = some (w, S2)) (e : v = w) (h0 : gI S2 122 0 = nI 0) (h3 : gL S2 158 0 = v.toInt64) (hR : RelP S2) : ∃ (o : Option Int32) (S1 : St) (r : Int32) (S2 S3 : St), f S = some (o, S1) ∧ g (xS (fun v : Int32 => v.toInt64) o S1) = some (r, S2) ∧ f_X11_thrown S2 = some (xK o, S3) ∧ (o.isSome = true → gL S3 158 0 = (fun v : Int32 => v.toInt64) r) ∧ RelP S3 :=
  ⟨some v, S1, w, S2, S2, h1, h2, by unfold f_X11_thrown; rw [h0]; rfl, fun _ => (by rw [h3, e]), hR⟩
theorem EQX_n {f : St → Option (Option Int32 × St)} {g : St → Option (Int32 × St)} {S : St} {w : Int32} (S1 S2 : St) (h1 : f S = some (none, S1)) (h2 : g S1 = some (w, S2)) (h0 : gI S2 122 0 = nI 1) (hR : RelP S2) : ∃ (o : Option Int32) (S1 : St) (r : Int32) (S2 S3 : St), f S = some (o, S1) ∧ g (xS (fun v : Int32 => v.toInt64) o S1) = some (r, S2) ∧ f_X11_thrown S2 = some (xK o, S3) ∧ (o.isSome = true → gL S3 158 0 = (fun v : Int32 => v.toInt64) r) ∧ RelP S3 :=
  ⟨none, S1, w, S2, S2, h1, h2, by unfold f_X11_thrown; rw [h0]; rfl, fun h => (by cases h), hR⟩
