/-! the reference's reading of a rule, beside the machine -/
def rF (T T' : St) : Prop := (∀ o k, o ≠ 131 → (o ≠ 122 ∨ (k ≠ 11 ∧ k ≠ 13 ∧ k ≠ 19)) → gI T' o k = gI T o k) ∧ ∀ o k, gL T' o k = gL T o k
theorem rF.rf (T : St) : rF T T := ⟨fun _ _ _ _ => rfl, fun _ _ => rfl⟩
theorem rF.tr {T T1 T2 : St} (h1 : rF T T1) (h2 : rF T1 T2) : rF T T2 := ⟨fun o k a b => (h2.1 o k a b).trans (h1.1 o k a b), fun o k => (h2.2 o k).trans (h1.2 o k)⟩
theorem rF.s2 {T T1 : St} {k : Nat} {v : Int32} (h : rF T T1) (hk : k = 11 ∨ k = 13 ∨ k = 19) : rF T (sI T1 122 k v) := by
  refine ⟨fun o b h1 h2 => ?_, fun o b => h.2 o b⟩
  rw [gI_s]
  by_cases e : o = 122
  · rw [if_pos e, if_neg (by omega)]; exact h.1 o b h1 h2
  · rw [if_neg e]; exact h.1 o b h1 h2
theorem rF.s1 {T T1 : St} {k : Nat} {v : Int32} (h : rF T T1) : rF T (sI T1 131 k v) := by
  refine ⟨fun o b h1 h2 => ?_, fun o b => h.2 o b⟩
  rw [gI_s, if_neg h1]; exact h.1 o b h1 h2
def RD (T : St) (a to : Nat) (t : Nat → Nat) (d : Nat) (C : List Nat) : Prop := TaM T a to t ∧ gI T 122 13 = nI d ∧ gI T 122 19 = nI C.length ∧ ArL (gI T 131) C
theorem RD.at {T : St} {a a' to d : Nat} {t : Nat → Nat} {C : List Nat} (h : RD T a to t d C) (ha : a' ≤ to) : RD (sI T 122 11 (nI a')) a' to t d C := ⟨h.1.at ha, h.2.1, h.2.2.1, ArL.ag (fun i _ => rfl) h.2.2.2⟩
theorem RD.ne {T : St} {a to d d' : Nat} {t : Nat → Nat} {C : List Nat} (h : RD T a to t d C) : RD (sI T 122 13 (nI d')) a to t d' C := ⟨h.1.of h.1.1 h.1.2.2.2.1 rfl (fun _ _ => rfl), rfl, h.2.2.1, ArL.ag (fun i _ => rfl) h.2.2.2⟩
theorem codes_n {T : St} {a to z : Nat} {t : Nat → Nat} {v : Int32} (h : TaM T a to t) (hz : gI T 122 19 = nI z) (h8 : z < 80) : ∃ T', f_X11_codes v T = some ((), T') ∧ TaM T' a to t ∧ gI T' 122 19 = nI (z + 1) ∧ rF T T' := by
  refine ⟨sI (sI T 131 z v) 122 19 (nI (z + 1)), ?_, h.of h.1 h.2.2.2.1 rfl (fun _ _ => rfl), rfl, (rF.rf T).s1.s2 (by omega)⟩
  unfold f_X11_codes
  rw [hz, if_pos (by rw [inb_nI (by omega)]; omega), nI_t (by omega), lt_e, show gI (sI T 131 z v) 122 19 = nI z from hz, a1, lt_e]
theorem codes_m {T : St} {a to d : Nat} {t : Nat → Nat} {C : List Nat} (h : RD T a to t d C) (hz : C.length < 80) (c : Nat) : ∃ T', f_X11_codes (nI c) T = some ((), T') ∧ RD T' a to t d (c :: C) ∧ rF T T' := by
  refine ⟨sI (sI T 131 C.length (nI c)) 122 19 (nI (C.length + 1)), ?_, ⟨h.1.of h.1.1 h.1.2.2.2.1 rfl (fun _ _ => rfl), h.2.1, rfl, ?_, ?_⟩, (rF.rf T).s1.s2 (by omega)⟩
  · unfold f_X11_codes
    rw [h.2.2.1, if_pos (by rw [inb_nI (by omega)]; omega), nI_t (by omega), lt_e, show gI (sI T 131 C.length (nI c)) 122 19 = nI C.length from h.2.2.1, a1, lt_e]
  · rw [gI_s, if_neg (by decide), gI_s, if_pos rfl, if_pos rfl]
  · refine ArL.ag (fun i hi => ?_) h.2.2.2
    rw [gI_s, if_neg (by decide), gI_s, if_pos rfl, if_neg (by omega)]
def okR (t : Nat → Nat) (to a b : Nat) (x : RS) (C : List Nat) (T T' : St) (k : Nat) (D X : List Nat) (y : RS) : Prop := RD T' (a + k) to t (sd x) (D ++ C) ∧ rF T T' ∧ D.length ≤ k ∧ rn t a k x = some y ∧ sw y = false ∧ sd y = sd x ∧ sk y < 32 ∧ sW y = X ++ sW x ∧ (∀ z, z ∈ X → bo b z) ∧ (X.map (fun x => 2000 + x)).reverse ++ sO y = D.map enc ++ sO x ∧ (∀ h, hgE D h = some (h + 1)) ∧ (sg y = 0 ∨ sg y = 3 ∨ dgB t to (a + k) = false)
def noR (t : Nat → Nat) (to a : Nat) (x : RS) (C : List Nat) (T T' : St) (k : Nat) (y : RS) : Prop := TaM T' (a + k) to t ∧ rF T T' ∧ (∃ z, z ≤ C.length + k ∧ gI T' 122 19 = nI z) ∧ rn t a k x = some y ∧ (a + k = to → sw y = true ∨ 0 < sd y) ∧ (a + k < to → stR (t (a + k)) y = none)
/-- what stands behind an expression of rank r -/
def nxR (t : Nat → Nat) (to p r : Nat) (y : RS) : Prop := p < to → (r = 0 → bindN (t p) = 0 ∨ (bindN (t p) = 1 ∧ (sk y).testBit (sd y) = true)) ∧ (0 < r → bindN (t p) < r + 1)
def goT (t : Nat → Nat) (to a : Nat) (x : RS) (C : List Nat) (T : St) (w : Option (Int32 × St)) : Prop := (∃ T' k D X y, w = some (1, T') ∧ okR t to a 4 x C T T' k D X y ∧ ∀ i, i ≤ sd x → (sk y).testBit i = (sk x).testBit i) ∨ (∃ T' k y, w = some (0, T') ∧ noR t to a x C T T' k y)
def goR (t : Nat → Nat) (to a r : Nat) (x : RS) (C : List Nat) (T : St) (w : Option (Int32 × St)) : Prop := (∃ T' k D X y, w = some (1, T') ∧ okR t to a (r + 1) x C T T' k D X y ∧ (∀ i, i ≤ sd x → (0 < r ∨ i < sd x) → (sk y).testBit i = (sk x).testBit i) ∧ nxR t to (a + k) r y) ∨ (∃ T' k y, w = some (0, T') ∧ noR t to a x C T T' k y)
def PT (n : Nat) : Prop := ∀ T a to t x C, RD T a to t (sd x) C → to ≤ 40 → C.length ≤ a → sw x = true → sd x ≤ 4 → sk x < 32 → (to - a) + 5 * (4 - sd x) + 1 ≤ n → goT t to a x C T ((F_rr n).1 T)
def PR (n : Nat) : Prop := ∀ r T a to t x C, r ≤ 3 → RD T a to t (sd x) C → to ≤ 40 → C.length ≤ a → sw x = true → sd x ≤ 4 → sk x < 32 → (r < 3 → ∀ w, (sW x).head? = some w → ¬ bo (r + 1) w) → (r = 0 → (sk x).testBit (sd x) = false) → (to - a) + 5 * (4 - sd x) + 1 + (4 - r) ≤ n → goR t to a r x C T ((F_rr n).2 (nI r) T)
theorem noR.pre {t : Nat → Nat} {to a l k : Nat} {x x1 y : RS} {C C1 : List Nat} {T T1 T' : St} (h : noR t to (a + l) x1 C1 T1 T' k y) (hm : rn t a l x = some x1) (hF : rF T T1) (hC : C1.length ≤ C.length + l) : noR t to a x C T T' (l + k) y := by
  obtain ⟨h1, h2, ⟨z, h3, h4⟩, h5, h6, h7⟩ := h
  rw [Nat.add_assoc] at h1 h6 h7
  exact ⟨h1, hF.tr h2, ⟨z, by omega, h4⟩, rn_add hm h5, h6, h7⟩
theorem rn_num {t : Nat → Nat} {a : Nat} {x : RS} (hw : sw x = true) : ∀ i, 1 ≤ i → i ≤ 3 → (∀ j, j < i → 48 ≤ t (a + j) ∧ t (a + j) ≤ 57) → rn t a i x = some (false, sd x, sk x, i, sW x, vlN t a i :: sO x) := by
  intro i
  induction i with
  | zero => intro h; omega
  | succ i ih =>
    intro _ h3 hd
    by_cases e : i = 0
    · subst e
      have d0 := hd 0 (by omega)
      rw [Nat.add_zero] at d0
      rw [rn_1]
      unfold stR stA
      rw [if_pos hw, if_neg (by omega), if_neg (by omega), if_pos d0]
      have : vlN t a (0 + 1) = t a - 48 := by rw [vlN, vlN, Nat.add_zero]; omega
      rw [this]
    · rw [rn_s, ih (by omega) (by omega) (fun j hj => hd j (by omega))]
      show stR (t (a + i)) _ = _
      unfold stR stB
      rw [if_neg (show ¬ sw (false, sd x, sk x, i, sW x, vlN t a i :: sO x) = true from (by decide : ¬ false = true)), if_pos (hd i (by omega))]
      show (if i = 0 ∨ i = 3 then none else some (false, sd x, sk x, i + 1, sW x, (10 * vlN t a i + (t (a + i) - 48)) :: sO x)) = _
      rw [if_neg (by omega)]; rfl
theorem m1_e (d : Nat) : nI (d + 1) - (1 : Int32) = nI d := by rw [m1 (by omega), Nat.add_sub_cancel]
theorem stA_o {s : Nat} {x : RS} (h1 : s ≠ 45) (h2 : s = 40 → sd x = 4) (h3 : ¬ (48 ≤ s ∧ s ≤ 57)) (h4 : ixN 0 s = none) : stA s x = none := by
  unfold stA
  rw [if_neg h1]
  by_cases e : s = 40
  · rw [if_pos e, if_pos (h2 e)]
  · rw [if_neg e, if_neg h3, h4]
theorem pt_s {n : Nat} (hT : PT n) (hR : PR n) : PT (n + 1) := by
  intro T a to t x C hD hto hC hw hd hk hn
  show goT t to a x C T (f_X11_readsThing (F_rr n).1 (F_rr n).2 T)
  have hA := hD.1
  have ha := hA.2.2.2.1
  have h255 := fun (h : a < to) => (hA.2.2.2.2 a h).2
  have stw : ∀ s, stR s x = stA s x := fun s => by unfold stR; rw [if_pos hw]
  have tk := takesM (s := 45) hA (by omega)
  unfold f_X11_readsThing
  by_cases c1 : a < to ∧ t a = 45
  · have e1 : f_X11_takes (45 : Int32) T = some (nI 1, sI T 122 11 (nI (a + 1))) := tk.1 c1
    have m1 : rn t a 1 x = some (true, sd x, sk x, sg x, 126 :: sW x, sO x) := by rw [rn_1, stw]; unfold stA; rw [if_pos c1.2]
    have hD1 : RD (sI T 122 11 (nI (a + 1))) (a + 1) to t (sd (true, sd x, sk x, sg x, 126 :: sW x, sO x)) C := hD.at (by omega)
    have hF1 : rF T (sI T 122 11 (nI (a + 1))) := (rF.rf T).s2 (by omega)
    rw [e1, bd_e, if_neg (show ¬ nI 1 = 0 by decide)]
    rcases hT _ _ _ _ _ _ hD1 hto (by omega) rfl hd hk (by show (to - (a + 1)) + 5 * (4 - sd x) + 1 ≤ n; omega) with ⟨T', k, D, X, y, r1, ⟨o1, o2, o3, o4, o5, o6, o7, o8, o9, o10, o11, o12⟩, kb⟩ | ⟨T', k, y, r1, no⟩
    · have hl : (D ++ C).length < 80 := by rw [List.length_append]; have := o1.1.2.2.2.1; omega
      obtain ⟨T2, q1, q2, q3⟩ := codes_m o1 hl 3000
      refine Or.inl ⟨T2, 1 + k, 3000 :: D, X ++ [126], y, ?_, ⟨?_, (hF1.tr o2).tr q3, ?_, rn_add m1 o4, o5, o6, o7, ?_, ?_, ?_, ?_, ?_⟩, kb⟩
      · rw [r1, bd_e, show (3000 : Int32) = nI 3000 from rfl, q1, bd_e, if_pos (Or.inr rfl)]
      · rw [← Nat.add_assoc]; exact q2
      · rw [List.length_cons]; omega
      · rw [o8, List.append_assoc]; rfl
      · intro z hz
        rw [List.mem_append] at hz
        rcases hz with hz | hz
        · exact o9 z hz
        · rw [List.mem_singleton] at hz; exact Or.inl hz
      · rw [List.map_append, List.reverse_append]
        show 2126 :: ((X.map (fun x => 2000 + x)).reverse ++ sO y) = 2126 :: (D.map enc ++ sO x)
        rw [o10]; rfl
      · intro h
        show (hgE D h).bind (hgS 3000) = _
        rw [o11]
        show hgS 3000 (h + 1) = _
        unfold hgS
        rw [if_neg (by omega), if_pos rfl, if_pos (by omega)]
      · rw [← Nat.add_assoc]; exact o12
    · have np := no.pre (x := x) (C := C) (T := T) m1 hF1 (by omega)
      obtain ⟨n1, n2, ⟨z, n3, n4⟩, n5, n6, n7⟩ := np
      obtain ⟨n1', _, ⟨z', n3', n4'⟩, _, _, _⟩ := no
      have hz : z' < 80 := by have := n1'.2.2.2.1; omega
      obtain ⟨T2, q1, q2, q3, q4⟩ := codes_n (v := 3000) n1' n4' hz
      refine Or.inr ⟨T2, 1 + k, y, ?_, ?_, n2.tr q4, ⟨z' + 1, by omega, q3⟩, n5, n6, n7⟩
      · rw [r1, bd_e, q1, bd_e, if_pos (Or.inl rfl)]
      · rw [← Nat.add_assoc]; exact q2
  · have e1 : f_X11_takes (45 : Int32) T = some (nI 0, T) := tk.2 c1
    rw [e1, bd_e, if_pos z00, isDig_m hA, bd_e]
    have n45 : a < to → t a ≠ 45 := fun h e => c1 ⟨h, e⟩
    cases gd : dgB t to a with
    | true =>
      rw [if_neg (show ¬ flI true = 0 by decide)]
      obtain ⟨K, K1, K3, Kd, Ks⟩ : ∃ K, 1 ≤ K ∧ K ≤ 3 ∧ (∀ i, i < K → dgB t to (a + i) = true) ∧ (K = 3 ∨ dgB t to (a + K) = false) := by
        cases g1 : dgB t to (a + 1) with
        | false => exact ⟨1, by omega, by omega, fun i hi => by rw [show i = 0 by omega]; exact gd, Or.inr g1⟩
        | true =>
          cases g2 : dgB t to (a + 2) with
          | false => exact ⟨2, by omega, by omega, fun i hi => by
              have : i = 0 ∨ i = 1 := by omega
              rcases this with rfl | rfl
              · exact gd
              · exact g1, Or.inr g2⟩
          | true => exact ⟨3, by omega, by omega, fun i hi => by
              have : i = 0 ∨ i = 1 ∨ i = 2 := by omega
              rcases this with rfl | rfl | rfl
              · exact gd
              · exact g1
              · exact g2, Or.inl rfl⟩
      have Kt : a + K ≤ to := by
        have := (of_decide_eq_true (Kd (K - 1) (by omega))).1
        omega
      have Kv : vlN t a K < 1000 := by
        have v := vl_le (t := t) (a := a) K (fun i hi => (of_decide_eq_true (Kd i hi)).2.2)
        have p : 10 ^ K ≤ 10 ^ 3 := Nat.pow_le_pow_right (by omega) K3
        omega
      have e2 : f_X11_number (3 : Int32) T = some (nI (vlN t a K), sI T 122 11 (nI (a + K))) := num_m (d := 3) hA (by omega) K3 K1 Kd Ks
      obtain ⟨T2, q1, q2, q3⟩ := codes_m (hD.at Kt) (by omega) (vlN t a K)
      refine Or.inl ⟨T2, K, [vlN t a K], [], _, ?_, ⟨q2, ((rF.rf T).s2 (by omega)).tr q3, K1, rn_num hw K K1 K3 (fun j hj => (of_decide_eq_true (Kd j hj)).2), rfl, rfl, hk, rfl, (fun z hz => by cases hz), ?_, ?_, ?_⟩, fun i _ => rfl⟩
      · rw [e2, bd_e, q1, bd_e]
      · show vlN t a K :: sO x = enc (vlN t a K) :: sO x
        rw [enc_s (by omega)]
      · intro h
        show hgS (vlN t a K) h = _
        unfold hgS
        rw [if_pos (by omega)]
      · rcases Ks with Ks | Ks
        · exact Or.inr (Or.inl Ks)
        · exact Or.inr (Or.inr Ks)
    | false =>
      rw [if_pos (show flI false = 0 from rfl)]
      have ng : a < to → ¬ (48 ≤ t a ∧ t a ≤ 57) := fun h e => by
        have : dgB t to a = true := decide_eq_true ⟨h, e⟩
        rw [gd] at this; cases this
      obtain ⟨tf1, tf2⟩ := takesOf_m (si := 0) hA (by omega)
      by_cases c2 : a < to ∧ (ixN 0 (t a)).isSome = true
      · obtain ⟨j, hj⟩ := Option.isSome_iff_exists.mp c2.2
        have j7 := ix_7 hj
        have e2 := tf1 j c2.1 hj
        obtain ⟨T2, q1, q2, q3⟩ := codes_m (hD.at (a' := a + 1) (by omega)) (by omega) (1000 + j)
        have m1 : rn t a 1 x = some (false, sd x, sk x, 0, sW x, (1000 + j) :: sO x) := by
          rw [rn_1, stw]
          unfold stA
          obtain ⟨z1, z2, z3⟩ := ix_0 (t a) (by have := h255 c2.1; omega) c2.2
          rw [if_neg z1, if_neg z2, if_neg z3, hj]
        refine Or.inl ⟨T2, 1, [1000 + j], [], _, ?_, ⟨q2, ((rF.rf T).s2 (by omega)).tr q3, Nat.le_refl _, m1, rfl, rfl, hk, rfl, (fun z hz => by cases hz), ?_, ?_, Or.inl rfl⟩, fun i _ => rfl⟩
        · rw [e2, bd_e, if_neg (nn0 _ (by omega)), show (1000 : Int32) + nI j = nI (1000 + j) from nAdd 1000 j, q1, bd_e]
        · show (1000 + j) :: sO x = enc (1000 + j) :: sO x
          rw [enc_s (by omega)]
        · intro h
          show hgS (1000 + j) h = _
          unfold hgS
          rw [if_pos (by omega)]
      · have i0 : a < to → ixN 0 (t a) = none := fun h => by
          cases g : ixN 0 (t a) with
          | none => rfl
          | some j => exact absurd ⟨h, by rw [g]; rfl⟩ c2
        rw [tf2 i0, bd_e, if_pos (show (-1 : Int32) < 0 by decide), hD.2.1]
        have fail : (a < to → t a = 40 → sd x = 4) → goT t to a x C T (some (0, T)) := by
          intro h4
          refine Or.inr ⟨T, 0, x, rfl, hA, rF.rf T, ⟨C.length, by omega, hD.2.2.1⟩, rfl, fun _ => Or.inl hw, fun h => ?_⟩
          rw [Nat.add_zero] at h ⊢
          rw [stw]
          exact stA_o (n45 h) (h4 h) (ng h) (i0 h)
        by_cases c3 : sd x = 4
        · rw [if_pos (show nI (sd x) = (4 : Int32) by rw [c3]; rfl)]
          exact fail (fun _ _ => c3)
        · rw [if_neg (show ¬ nI (sd x) = (4 : Int32) by rw [show (4 : Int32) = nI 4 from rfl, nEq (by omega) (by omega)]; exact c3)]
          have tk4 := takesM (s := 40) hA (by omega)
          by_cases c4 : a < to ∧ t a = 40
          · have e4 : f_X11_takes (40 : Int32) T = some (nI 1, sI T 122 11 (nI (a + 1))) := tk4.1 c4
            have m1 : rn t a 1 x = some (true, sd x + 1, clrN (sk x) (sd x + 1), sg x, 40 :: sW x, sO x) := by
              rw [rn_1, stw]
              unfold stA
              rw [if_neg (n45 c4.1), if_pos c4.2, if_neg c3]
            have hD1 : RD (sI (sI T 122 11 (nI (a + 1))) 122 13 (nI (sd x + 1))) (a + 1) to t (sd (true, sd x + 1, clrN (sk x) (sd x + 1), sg x, 40 :: sW x, sO x)) C := (hD.at (a' := a + 1) (by omega)).ne
            have hF1 : rF T (sI (sI T 122 11 (nI (a + 1))) 122 13 (nI (sd x + 1))) := ((rF.rf T).s2 (by omega)).s2 (by omega)
            have kl := clrN_le (sk x) (sd x + 1)
            rw [e4, bd_e, if_neg (show ¬ nI 1 = 0 by decide), lt_e, show gI (sI T 122 11 (nI (a + 1))) 122 13 = nI (sd x) from hD.2.1, a1]
            rcases hR 0 _ _ _ _ _ _ (by omega) hD1 hto (by omega) rfl (show sd x + 1 ≤ 4 by omega) (show clrN (sk x) (sd x + 1) < 32 by omega) (fun _ w hw2 => by
                have : w = 40 := by
                  change some 40 = some w at hw2
                  exact (Option.some.inj hw2).symm
                subst this
                rintro (z | z)
                · omega
                · exact z.1 rfl) (fun _ => by
                show (clrN (sk x) (sd x + 1)).testBit (sd x + 1) = false
                rw [clrN_tb (by omega)]; simp) (by show (to - (a + 1)) + 5 * (4 - (sd x + 1)) + 1 + (4 - 0) ≤ n; omega) with ⟨T', k, D, X, y, r1, ⟨o1, o2, o3, o4, o5, o6, o7, o8, o9, o10, o11, o12⟩, kb, nx⟩ | ⟨T', k, y, r1, no⟩
            · have r1' : (F_rr n).2 (0 : Int32) (sI (sI T 122 11 (nI (a + 1))) 122 13 (nI (sd x + 1))) = some (1, T') := r1
              rw [r1', bd_e, if_neg (show ¬ (1 : Int32) = 0 by decide)]
              have tk1 := takesM (s := 41) o1.1 (by omega)
              have mk := rn_add m1 o4
              have cc := o1.1.2.2.2.1
              have stb : ∀ s, stR s y = stB s y := fun s => by unfold stR; rw [if_neg (by rw [o5]; simp)]
              by_cases c5 : a + 1 + k < to ∧ t (a + 1 + k) = 41
              · have e5 : f_X11_takes (41 : Int32) T' = some (nI 1, sI T' 122 11 (nI (a + 1 + k + 1))) := tk1.1 c5
                have rl : rlsN 1 (sW y) (sO y) = (40 :: sW x, (X.map (fun x => 2000 + x)).reverse ++ sO y) := by
                  rw [o8]
                  refine rel_x X (40 :: sW x) (sO y) o9 (fun w hw2 => ?_)
                  have : w = 40 := by
                    change some 40 = some w at hw2
                    exact (Option.some.inj hw2).symm
                  subst this
                  rintro (z | z)
                  · omega
                  · exact z.1 rfl
                have o10' : (X.map (fun x => 2000 + x)).reverse ++ sO y = D.map enc ++ sO x := o10
                have o6' : sd y = sd x + 1 := o6
                have m2 : stR (t (a + (1 + k))) y = some (false, sd x, sk y, 0, sW x, D.map enc ++ sO x) := by
                  rw [stb, ← Nat.add_assoc, c5.2]
                  unfold stB
                  rw [if_neg (by omega), if_pos rfl, if_neg (by omega), rl, o10', o6']
                  rfl
                rw [e5, bd_e, if_neg (show ¬ nI 1 = 0 by decide), lt_e, show gI (sI T' 122 11 (nI (a + 1 + k + 1))) 122 13 = nI (sd x + 1) from o1.2.1, m1_e (sd x)]
                have hRD : RD (sI (sI T' 122 11 (nI (a + 1 + k + 1))) 122 13 (nI (sd x))) (a + 1 + k + 1) to t (sd x) (D ++ C) := (o1.at (a' := a + 1 + k + 1) (by omega)).ne
                refine Or.inl ⟨_, 1 + k + 1, D, [], (false, sd x, sk y, 0, sW x, D.map enc ++ sO x), rfl, ⟨?_, (hF1.tr o2).tr (((rF.rf T').s2 (by omega)).s2 (by omega)), by omega, ?_, rfl, rfl, o7, rfl, (fun z hz => by cases hz), rfl, o11, Or.inl rfl⟩, fun i hi => ?_⟩
                · rw [show a + (1 + k + 1) = a + 1 + k + 1 by omega]; exact hRD
                · rw [rn_s, mk]; exact m2
                · have := kb i (by show i ≤ sd x + 1; omega) (Or.inr (by show i < sd x + 1; omega))
                  rw [show (sk (false, sd x, sk y, 0, sW x, D.map enc ++ sO x)) = sk y from rfl, this]
                  show (clrN (sk x) (sd x + 1)).testBit i = _
                  rw [clrN_tb (by omega), decide_eq_false (by omega)]; simp
              · have e5 : f_X11_takes (41 : Int32) T' = some (nI 0, T') := tk1.2 c5
                rw [e5, bd_e, if_pos z00]
                have o6' : sd y = sd x + 1 := o6
                refine Or.inr ⟨T', 1 + k, y, rfl, ?_, hF1.tr o2, ⟨(D ++ C).length, ?_, o1.2.2.1⟩, mk, fun _ => Or.inr (by omega), fun hlt => ?_⟩
                · rw [← Nat.add_assoc]; exact o1.1
                · rw [List.length_append]; omega
                · rw [← Nat.add_assoc] at hlt ⊢
                  rw [stb]
                  unfold stB
                  by_cases z : 48 ≤ t (a + 1 + k) ∧ t (a + 1 + k) ≤ 57
                  · rw [if_pos z]
                    have zg : sg y = 0 ∨ sg y = 3 := by
                      rcases o12 with q | q | q
                      · exact Or.inl q
                      · exact Or.inr q
                      · have : dgB t to (a + 1 + k) = true := decide_eq_true ⟨hlt, z⟩
                        rw [q] at this; cases this
                    cases hO : sO y with
                    | nil => rfl
                    | cons v O => show (if sg y = 0 ∨ sg y = 3 then none else _) = none; rw [if_pos zg]
                  · rw [if_neg z, if_neg (fun q => c5 ⟨hlt, q⟩)]
                    rcases (nx hlt).1 rfl with q | q
                    · rw [if_pos q]
                    · rw [if_neg (by omega), if_pos q]
            · have r1' : (F_rr n).2 (0 : Int32) (sI (sI T 122 11 (nI (a + 1))) 122 13 (nI (sd x + 1))) = some (0, T') := r1
              rw [r1', bd_e, if_pos rfl]
              exact Or.inr ⟨T', 1 + k, y, rfl, no.pre m1 hF1 (by omega)⟩
          · have e4 : f_X11_takes (40 : Int32) T = some (nI 0, T) := tk4.2 c4
            rw [e4, bd_e, if_pos z00]
            exact fail (fun h e => absurd ⟨h, e⟩ c4)
