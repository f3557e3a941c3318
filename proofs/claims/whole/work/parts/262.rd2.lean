theorem bo_mo {b x : Nat} (h : bo (b + 1) x) : bo b x := by
  rcases h with h | h
  · exact Or.inl h
  · exact Or.inr ⟨h.1, by omega⟩
theorem b24 {gT : St → Option (Int32 × St)} {gR : Int32 → St → Option (Int32 × St)} {r : Nat} (hr : r < 3) (e k : Int32 → St → Option (Int32 × St)) (S : St) : f_X11_readsRank_24b gT gR (nI r) e k 1 S = bd (f_X11_takesOf (r + 1) S) (fun r4 S5 => if 0 ≤ r4 then bd (gR (nI (r + 1)) S5) (fun r7 S8 => if r7 = 0 then some (0, S8) else bd (f_X11_codes ((2000 : Int32) + r4 + nI (offN r)) S8) (fun _ S2 => k (if r = 0 then 0 else 1) S2)) else some (1, S5)) := by
  have : r = 0 ∨ r = 1 ∨ r = 2 := by omega
  unfold f_X11_readsRank_24b f_X11_readsRank_96 f_X11_readsRank_109
  rcases this with rfl | rfl | rfl
  · simp only [if_neg (show ¬ (1 : Int32) = 0 by decide), if_pos (show nI 0 = (0 : Int32) from rfl), if_pos (show nI 0 ≤ (0 : Int32) by decide), a1]
    rfl
  · simp only [if_neg (show ¬ (1 : Int32) = 0 by decide), if_neg (show ¬ nI 1 = (0 : Int32) by decide), if_pos (show nI 1 = (1 : Int32) from rfl), if_neg (show ¬ nI 1 ≤ (0 : Int32) by decide), a1]
    rfl
  · simp only [if_neg (show ¬ (1 : Int32) = 0 by decide), if_neg (show ¬ nI 2 = (0 : Int32) by decide), if_neg (show ¬ nI 2 = (1 : Int32) by decide), if_neg (show ¬ nI 2 ≤ (0 : Int32) by decide), a1]
    rfl
theorem lp_r {n : Nat} (hR : PR n) {r a to : Nat} {t : Nat → Nat} {x : RS} {C : List Nat} {T0 : St} (hr : r < 3) (hto : to ≤ 40) (hC : C.length ≤ a) (hd : sd x ≤ 4) (hst : ∀ w, (sW x).head? = some w → ¬ bo (r + 1) w) (hb : r = 0 → (sk x).testBit (sd x) = false) (hn : (to - a) + 5 * (4 - sd x) + 1 + (4 - r) ≤ n + 1) : ∀ m k T D X y, okR t to a (r + 1) x C T0 T k D X y → (∀ i, i ≤ sd x → (sk y).testBit i = (sk x).testBit i) → (a + k < to → bindN (t (a + k)) < r + 2) → to - (a + k) + 1 < m → goR t to a r x C T0 (lp (f_X11_readsRank_24b (F_rr n).1 (F_rr n).2 (nI r) (fun v25 S26 => some ((1 : Int32), S26))) m 1 T) := by
  intro m
  induction m with
  | zero => intro k T D X y _ _ _ h; omega
  | succ m ih =>
    intro k T D X y ok hkb hnx hm
    show goR t to a r x C T0 (f_X11_readsRank_24b (F_rr n).1 (F_rr n).2 (nI r) (fun v25 S26 => some ((1 : Int32), S26)) (lp (f_X11_readsRank_24b (F_rr n).1 (F_rr n).2 (nI r) (fun v25 S26 => some ((1 : Int32), S26))) m) 1 T)
    rw [b24 hr]
    have ok' := ok
    obtain ⟨o1, o2, o3, o4, o5, o6, o7, o8, o9, o10, o11, o12⟩ := ok
    have hpos := o1.1.2.2.2.1
    obtain ⟨tf1, tf2⟩ := takesOf_m (si := r + 1) o1.1 (by omega)
    by_cases c : a + k < to ∧ (ixN (r + 1) (t (a + k))).isSome = true
    · obtain ⟨j, hj⟩ := Option.isSome_iff_exists.mp c.2
      have j3 := ix_3 hr hj
      have h255 := (o1.1.2.2.2.2 _ c.1).2
      obtain ⟨z1, z2, z3, z4, z5, z6⟩ := ix_e (by omega) hr j3 hj
      have zb : bindN (t (a + k)) = r + 1 := by
        have := ix_b (t (a + k)) (by omega) r hr
        rw [c.2] at this
        exact of_decide_eq_true this.symm
      have rl : rlsN (r + 1) (sW y) (sO y) = (sW x, D.map enc ++ sO x) := by
        rw [o8, rel_x X (sW x) (sO y) o9 hst, o10]
      generalize hk2 : (if r + 1 = 1 then sk y ||| 2 ^ sd x else sk y) = k2
      have k32 : k2 < 32 := by
        rw [← hk2]
        split
        · exact or_lt (m := 5) o7 (by omega)
        · exact o7
      have m1 : stR (t (a + k)) y = some (true, sd x, k2, 0, t (a + k) :: sW x, D.map enc ++ sO x) := by
        unfold stR stB
        rw [if_neg (by rw [o5]; simp), if_neg z6, if_neg z5, if_neg (by omega), if_neg (by
          rintro ⟨q1, q2⟩
          have r0 : r = 0 := by omega
          rw [o6, hkb _ (Nat.le_refl _), hb r0] at q2
          cases q2), zb, rl, o6, hk2]
      have mk : rn t a (k + 1) x = some (true, sd x, k2, 0, t (a + k) :: sW x, D.map enc ++ sO x) := by
        rw [rn_s, o4]; exact m1
      have e := tf1 j c.1 hj
      rw [e, bd_e, if_pos (n0p j (by omega))]
      have hF1 : rF T0 (sI T 122 11 (nI (a + k + 1))) := o2.s2 (by omega)
      have hD1 : RD (sI T 122 11 (nI (a + k + 1))) (a + k + 1) to t (sd (true, sd x, k2, 0, t (a + k) :: sW x, D.map enc ++ sO x)) (D ++ C) := o1.at (by omega)
      have hl : (D ++ C).length ≤ a + k + 1 := by rw [List.length_append]; omega
      rcases hR (r + 1) _ _ _ _ _ _ (by omega) hD1 hto hl rfl hd k32 (fun _ w hw => by
          change some (t (a + k)) = some w at hw
          have := Option.some.inj hw
          subst this
          rintro (q | q)
          · exact z3 q
          · omega) (fun q => by omega) (by show (to - (a + k + 1)) + 5 * (4 - sd x) + 1 + (4 - (r + 1)) ≤ n; omega) with ⟨T2, kk, D2, X2, y3, r1, ⟨p1, p2, p3, p4, p5, p6, p7, p8, p9, p10, p11, p12⟩, kb, nx⟩ | ⟨T2, kk, y3, r1, no⟩
      · have pc := p1.1.2.2.2.1
        have hl2 : (D2 ++ (D ++ C)).length < 80 := by rw [List.length_append, List.length_append]; omega
        obtain ⟨T3, q1, q2, q3⟩ := codes_m p1 hl2 (2000 + j + offN r)
        have ec : (2000 : Int32) + nI j + nI (offN r) = nI (2000 + j + offN r) := by rw [show (2000 : Int32) = nI 2000 from rfl, nAdd, nAdd]
        rw [r1, bd_e, if_neg (show ¬ (1 : Int32) = 0 by decide), ec, q1, bd_e]
        have okn : okR t to a (r + 1) x C T0 T3 (k + 1 + kk) ((2000 + j + offN r) :: (D2 ++ D)) (X2 ++ [t (a + k)]) y3 := by
          refine ⟨?_, (hF1.tr p2).tr q3, ?_, rn_add mk p4, p5, p6, p7, ?_, ?_, ?_, ?_, ?_⟩
          · rw [show a + (k + 1 + kk) = a + k + 1 + kk by omega, List.cons_append, List.append_assoc]
            exact q2
          · rw [List.length_cons, List.length_append]; omega
          · rw [p8, List.append_assoc]; rfl
          · intro z hz
            rw [List.mem_append] at hz
            rcases hz with hz | hz
            · exact bo_mo (p9 z hz)
            · rw [List.mem_singleton] at hz
              subst hz
              exact Or.inr ⟨z4, by omega⟩
          · rw [List.map_append, List.reverse_append]
            show (2000 + t (a + k)) :: ((X2.map (fun x => 2000 + x)).reverse ++ sO y3) = enc (2000 + j + offN r) :: ((D2 ++ D).map enc ++ sO x)
            rw [z1, p10, List.map_append, List.append_assoc]
            rfl
          · intro h
            show (hgE (D2 ++ D) h).bind (hgS (2000 + j + offN r)) = _
            rw [hgE_ap (o11 h), p11]
            show hgS (2000 + j + offN r) (h + 1 + 1) = _
            unfold hgS
            rw [if_neg (by omega), if_neg (by omega), if_pos (by omega), if_pos (by omega), show h + 1 + 1 - 1 = h + 1 by omega]
          · rw [show a + (k + 1 + kk) = a + k + 1 + kk by omega]; exact p12
        have p6' : sd y3 = sd x := p6
        have kb' : ∀ i, i ≤ sd x → (sk y3).testBit i = k2.testBit i := fun i hi => kb i hi (Or.inl (by omega))
        by_cases r0 : r = 0
        · rw [if_pos r0]
          obtain ⟨m', rfl⟩ : ∃ m', m = m' + 1 := ⟨m - 1, by omega⟩
          have ex : lp (f_X11_readsRank_24b (F_rr n).1 (F_rr n).2 (nI r) (fun v25 S26 => some ((1 : Int32), S26))) (m' + 1) 0 T3 = some (1, T3) := by
            show f_X11_readsRank_24b (F_rr n).1 (F_rr n).2 (nI r) _ _ 0 T3 = _
            unfold f_X11_readsRank_24b
            rw [if_pos rfl]
          rw [ex]
          have hk2' : sk y ||| 2 ^ sd x = k2 := by rw [← hk2, if_pos (by omega)]
          refine Or.inl ⟨T3, k + 1 + kk, _, _, y3, rfl, okn, fun i hi hq => ?_, fun hlt => ⟨fun _ => ?_, fun q => by omega⟩⟩
          · rw [kb' i hi, ← hk2', Nat.testBit_or, Nat.testBit_two_pow, decide_eq_false (by omega), Bool.or_false, hkb i hi]
          · rw [show a + (k + 1 + kk) = a + k + 1 + kk by omega] at hlt ⊢
            have := (nx hlt).2 (by omega)
            by_cases q : bindN (t (a + k + 1 + kk)) = 0
            · exact Or.inl q
            · refine Or.inr ⟨by omega, ?_⟩
              rw [p6', kb' _ (Nat.le_refl _), ← hk2', Nat.testBit_or, Nat.testBit_two_pow]; simp
        · rw [if_neg r0]
          have hk2' : sk y = k2 := by rw [← hk2, if_neg (by omega)]
          refine ih (k + 1 + kk) T3 _ _ y3 okn (fun i hi => ?_) (fun hlt => ?_) (by omega)
          · rw [kb' i hi, ← hk2', hkb i hi]
          · rw [show a + (k + 1 + kk) = a + k + 1 + kk by omega] at hlt ⊢
            exact (nx hlt).2 (by omega)
      · rw [r1, bd_e, if_pos rfl]
        exact Or.inr ⟨T2, k + 1 + kk, y3, rfl, noR.pre (l := k + 1) no mk hF1 (by rw [List.length_append]; omega)⟩
    · rw [tf2 (fun h => by
        cases g : ixN (r + 1) (t (a + k)) with
        | none => rfl
        | some j => exact absurd ⟨h, by rw [g]; rfl⟩ c), bd_e, if_neg n0m]
      have nb : a + k < to → bindN (t (a + k)) < r + 1 := fun h => by
        have h255 := (o1.1.2.2.2.2 _ h).2
        have i := ix_b (t (a + k)) (by omega) r hr
        have := hnx h
        have : bindN (t (a + k)) ≠ r + 1 := fun q => by
          rw [decide_eq_true q] at i
          exact c ⟨h, i⟩
        omega
      exact Or.inl ⟨T, k, D, X, y, rfl, ok', fun i hi _ => hkb i hi, fun h => ⟨fun q => Or.inl (by have := nb h; omega), fun _ => nb h⟩⟩
theorem pr_s {n : Nat} (hT : PT n) (hR : PR n) : PR (n + 1) := by
  intro r T a to t x C hr hD hto hC hw hd hk hst hb hn
  show goR t to a r x C T (f_X11_readsRank (F_rr n).1 (F_rr n).2 (nI r) T)
  unfold f_X11_readsRank
  by_cases e : r = 3
  · subst e
    rw [if_pos (show nI 3 = (3 : Int32) from rfl)]
    rcases hT T a to t x C hD hto hC hw hd hk (by omega) with ⟨T', k, D, X, y, r1, ok, kb⟩ | ⟨T', k, y, r1, no⟩
    · rw [r1, bd_e, if_pos (Or.inr rfl)]
      exact Or.inl ⟨T', k, D, X, y, rfl, ok, fun i h _ => kb i h, fun _ => ⟨fun z => by omega, fun _ => by have := bind_le (t (a + k)); omega⟩⟩
    · rw [r1, bd_e, if_pos (Or.inl rfl)]
      exact Or.inr ⟨T', k, y, rfl, no⟩
  · rw [if_neg (show ¬ nI r = (3 : Int32) by rw [show (3 : Int32) = nI 3 from rfl, nEq (by omega) (by omega)]; exact e), a1]
    rcases hR (r + 1) T a to t x C (by omega) hD hto hC hw hd hk (fun h w hw2 z => hst (by omega) w hw2 (bo_mo z)) (fun z => by omega) (by omega) with ⟨T', k, D, X, y, r1, ⟨o1, o2, o3, o4, o5, o6, o7, o8, o9, o10, o11, o12⟩, kb, nx⟩ | ⟨T', k, y, r1, no⟩
    · rw [r1, bd_e, if_neg (show ¬ (1 : Int32) = 0 by decide)]
      exact lp_r hR (by omega) hto hC hd (hst (by omega)) hb hn FU k T' D X y ⟨o1, o2, o3, o4, o5, o6, o7, o8, fun z hz => bo_mo (o9 z hz), o10, o11, o12⟩ (fun i h => kb i h (Or.inl (by omega))) (fun h => (nx h).2 (by omega)) (by unfold FU; omega)
    · rw [r1, bd_e, if_pos rfl]
      exact Or.inr ⟨T', k, y, rfl, no⟩
theorem rr_all : ∀ n, PT n ∧ PR n := by
  intro n
  induction n with
  | zero => exact ⟨fun T a to t x C _ _ _ _ _ _ h => by omega, fun r T a to t x C _ _ _ _ _ _ _ _ _ h => by omega⟩
  | succ n ih => exact ⟨pt_s ih.1 ih.2, pr_s ih.1 ih.2⟩
/-- the machine at first -/
def x0 : RS := (true, 0, 0, 0, [], [])
def bg3 (T : St) (n : Nat) : St := sI (bgS T (nI (min n 40))) 122 19 0
/-- how it ends: a place; whether it is a rule -/
def endR (t : Nat → Nat) (n k : Nat) (y : RS) (D : List Nat) (f : Bool) : Prop := k ≤ min n 40 ∧ rn t 0 k x0 = some y ∧ (f = false → (k = min n 40 → (sw y = true ∨ 0 < sd y ∨ 40 < n)) ∧ (k < min n 40 → stR (t k) y = none)) ∧ (f = true → k = min n 40 ∧ n ≤ 40 ∧ sw y = false ∧ sd y = 0 ∧ (rlsN 1 (sW y) (sO y)).2 = D.map enc ∧ hgE D 0 = some 1)
theorem rule_m {T : St} {n : Nat} {t : Nat → Nat} (h10 : gI T 122 10 = nI n) (hn : n ≤ 80) (h0 : 0 < n) (hx : ∀ i, i < n → gI T 128 i = nI (t i) ∧ t i ≤ 255) : ∃ T' k y D f, f_X11_readsRule T = some (if f = true then 0 else -1 - nI k, T') ∧ rF (bg3 T n) T' ∧ endR t n k y D f ∧ (f = true → gI T' 122 19 = nI D.length ∧ ArL (gI T' 131) D ∧ D.length ≤ 40) := by
  have hA : RD (bg3 T n) 0 (min n 40) t (sd x0) [] := ⟨⟨rfl, rfl, by omega, by omega, fun i hi => hx i (by omega)⟩, rfl, rfl, trivial⟩
  have em : mnI (nI n) (40 : Int32) = nI (min n 40) := mnNI (a := n) (b := 40) (by omega) (by omega)
  have start : f_X11_readsRule T = bd (F_X11_readsRank 100 (0 : Int32) (bg3 T n)) (fun r8 S9 => (if r8 = 0 then f_X11_readsRule_29 (nI n) (0 : Int32) S9 else f_X11_readsRule_24 (nI n) S9)) := by
    unfold f_X11_readsRule
    rw [begins_m, bd_e, lt_e, h10, em, if_neg (show ¬ nI n = 0 by rw [lit, nEq (by omega) (by omega)]; omega)]
    rfl
  have fl : ∀ (T' : St) (k : Nat) (is : Bool), TaM T' (0 + k) (min n 40) t → f_X11_faultOf (nI n) (40 : Int32) (flI is) T' = some (if is = true ∧ 0 + k = min n 40 ∧ n ≤ 40 then 0 else -1 - nI (0 + k), T') := fun T' k is h => flt_m (most := 40) h rfl hn (by omega) is
  have run := (rr_all 100).2 0 (bg3 T n) 0 (min n 40) t x0 [] (by omega) hA (by omega) (by show 0 ≤ 0; omega) rfl (by show 0 ≤ 4; omega) (by show 0 < 32; omega) (fun _ w hw => by cases hw) (fun _ => rfl) (by show (min n 40 - 0) + 5 * (4 - 0) + 1 + (4 - 0) ≤ 100; omega)
  rw [start]
  unfold f_X11_readsRule_24 f_X11_readsRule_29
  rcases run with ⟨T', k, D, X, y, r1, ⟨o1, o2, o3, o4, o5, o6, o7, o8, o9, o10, o11, o12⟩, kb, nx⟩ | ⟨T', k, y, r1, n1, n2, n3, n4, n5, n6⟩
  · have r1' : F_X11_readsRank 100 (0 : Int32) (bg3 T n) = some (1, T') := r1
    have kt := o1.1.2.2.2.1
    rw [Nat.zero_add] at kt
    have f1 := fl T' k true o1.1
    rw [List.append_nil] at o1
    have o6' : sd y = 0 := o6
    have o8' : sW y = X ++ [] := o8
    have o10' : (X.map (fun x => 2000 + x)).reverse ++ sO y = D.map enc ++ [] := o10
    rw [r1', bd_e, if_neg (show ¬ (1 : Int32) = 0 by decide), show f_X11_faultOf (nI n) (40 : Int32) 1 T' = _ from f1, bd_e, Nat.zero_add]
    by_cases g : k = min n 40 ∧ n ≤ 40
    · refine ⟨T', k, y, D, true, by rw [if_pos ⟨rfl, g⟩, if_pos rfl], o2, ⟨kt, o4, (fun z => by cases z), fun _ => ⟨g.1, g.2, o5, o6', ?_, o11 0⟩⟩, fun _ => ⟨o1.2.2.1, o1.2.2.2, by omega⟩⟩
      rw [o8', rel_x X [] (sO y) o9 (fun w hw => by cases hw), o10', List.append_nil]
    · refine ⟨T', k, y, D, false, by rw [if_neg (fun z => g z.2), if_neg (by simp)], o2, ⟨kt, o4, fun _ => ⟨fun z => Or.inr (Or.inr (by omega)), fun z => ?_⟩, (fun z => by cases z)⟩, (fun z => by cases z)⟩
      unfold stR stB
      rw [if_neg (by rw [o5]; simp)]
      by_cases dz : 48 ≤ t k ∧ t k ≤ 57
      · rw [if_pos dz]
        have zg : sg y = 0 ∨ sg y = 3 := by
          rw [Nat.zero_add] at o12
          rcases o12 with q | q | q
          · exact Or.inl q
          · exact Or.inr q
          · have : dgB t (min n 40) k = true := decide_eq_true ⟨z, dz⟩
            rw [q] at this; cases this
        cases hO : sO y with
        | nil => rfl
        | cons v O => show (if sg y = 0 ∨ sg y = 3 then none else _) = none; rw [if_pos zg]
      · rw [if_neg dz]
        rw [Nat.zero_add] at nx
        by_cases q41 : t k = 41
        · rw [if_pos q41, if_pos o6']
        · rw [if_neg q41]
          rcases (nx z).1 rfl with q | q
          · rw [if_pos q]
          · rw [if_neg (by omega), if_pos q]
  · have r1' : F_X11_readsRank 100 (0 : Int32) (bg3 T n) = some (0, T') := r1
    have f1 := fl T' k false n1
    have kt := n1.2.2.2.1
    rw [Nat.zero_add] at kt n5 n6
    rw [r1', bd_e, if_pos rfl, show f_X11_faultOf (nI n) (40 : Int32) 0 T' = _ from f1, bd_e, Nat.zero_add]
    refine ⟨T', k, y, [], false, by rw [if_neg (fun z => by cases z.1), if_neg (by simp)], n2, ⟨kt, n4, fun _ => ⟨fun z => ?_, n6⟩, (fun z => by cases z)⟩, (fun z => by cases z)⟩
    rcases n5 z with q | q
    · exact Or.inl q
    · exact Or.inr (Or.inl q)
