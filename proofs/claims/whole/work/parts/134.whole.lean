theorem whole_of {Rel : St → Prop} (hE_sign : ∀ a1 : Int32, EQ1 Rel (f_X10_sign a1) (f_X11_sign a1))
    (hE_end : ∀ a1 : Int32, EQ1 Rel (f_X10_end a1) (f_X11_end a1))
    (hE_passages : EQ1 Rel (f_X10_passages) (f_X11_passages))
    (hE_rule : EQ1 Rel (f_X10_rule) (f_X11_rule))
    (hE_passage : ∀ a1 a2 : Int32, EQX Rel (fun v : Int32 => v.toInt64) (fun v : Int32 => v.toInt64) (f_X10_passage a1 a2) (f_X11_passage a1 a2))
    (hE_cavern : ∀ a1 a2 : Int32, EQX Rel (fun v : Int32 => v.toInt64) (fun v : Int32 => v.toInt64) (f_X10_cavern a1 a2) (f_X11_cavern a1 a2))
    (hE_sheet : ∀ a1 a2 a3 a4 : Int32, EQ1 Rel (f_X10_sheet a1 a2 a3 a4) (f_X11_sheet a1 a2 a3 a4))
    (hE_calls : ∀ a1 a2 : Int32, EQ1 Rel (f_X10_calls a1 a2) (f_X11_calls a1 a2))
    (hE_hours : ∀ a1 : Int32, EQ1 Rel (f_X10_hours a1) (f_X11_hours a1))
    (hE_falls : ∀ a1 : Int32, EQ1 Rel (f_X10_falls a1) (f_X11_falls a1))
    (hE_digs : ∀ a1 a2 a3 : Int32, EQ1 Rel (f_X10_digs a1 a2 a3) (f_X11_digs a1 a2 a3))
    (hE_season : EQ1 Rel (f_X10_season) (f_X11_season))
    (hE_undo : EQ1 Rel (f_X10_undo) (f_X11_undo))
    (hE_route : ∀ a1 a2 : Int32, EQ1 Rel (f_X10_route a1 a2) (f_X11_route a1 a2))
    (hE_hears : ∀ a1 a2 : Int32, EQ1 Rel (f_X10_hears a1 a2) (f_X11_hears a1 a2))
    (hE_asks : ∀ a1 a2 : Int32, EQ1 Rel (f_X10_asks a1 a2) (f_X11_asks a1 a2))
    (hE_becomes : EQ1 Rel (f_X10_becomes) (f_X11_becomes))
    (hE_keeps : ∀ a1 a2 : Int32, EQ1 Rel (f_X10_keeps a1 a2) (f_X11_keeps a1 a2))
    (hE_apart : ∀ a1 a2 a3 : Int32, EQ1 Rel (f_X10_apart a1 a2 a3) (f_X11_apart a1 a2 a3))
    (hE_longest : ∀ a1 : Int32, EQ1 Rel (f_X10_longest a1) (f_X11_longest a1))
    (hE_rounds : EQ1 Rel (f_X10_rounds) (f_X11_rounds))
    (hE_way : ∀ a1 a2 : Int32, EQ1 Rel (f_X10_way a1 a2) (f_X11_way a1 a2))
    (hE_meets : ∀ a1 a2 : Int32, EQ1 Rel (f_X10_meets a1 a2) (f_X11_meets a1 a2))
    (hE_heart : EQ1 Rel (f_X10_heart) (f_X11_heart))
    (hE_ropes : EQ1 Rel (f_X10_ropes) (f_X11_ropes))
    (hE_needed : EQ1 Rel (f_X10_needed) (f_X11_needed))
    (hE_tour : ∀ a1 a2 : Int32, EQ1 Rel (f_X10_tour a1 a2) (f_X11_tour a1 a2))
    (hE_halves : EQ1 Rel (f_X10_halves) (f_X11_halves))
    (hE_guides : EQ1 Rel (f_X10_guides) (f_X11_guides))
    (hE_most : EQ1 Rel (f_X10_most) (f_X11_most))
    (hE_told : ∀ a1 a2 : Int32, EQ1 Rel (f_X10_told a1 a2) (f_X11_told a1 a2))
    (hE_forget : EQ1 Rel (f_X10_forget) (f_X11_forget))
    (hE_fits : EQ1 Rel (f_X10_fits) (f_X11_fits))
    (hE_next : EQ1 Rel (f_X10_next) (f_X11_next))
    (hE_heard : ∀ a1 a2 a3 : Int32, EQ1 Rel (f_X10_heard a1 a2 a3) (f_X11_heard a1 a2 a3))
    (hE_denied : EQ1 Rel (f_X10_denied) (f_X11_denied))
    (hE_laws : EQ1 Rel (f_X10_laws) (f_X11_laws))
    (hE_listens : EQ1 Rel (f_X10_listens) (f_X11_listens))
    (hE_hints : ∀ a1 a2 a3 a4 a5 : Int32, EQ1 Rel (f_X10_hints a1 a2 a3 a4 a5) (f_X11_hints a1 a2 a3 a4 a5))
    (hE_game : ∀ a1 a2 : Int32, EQ1 Rel (f_X10_game a1 a2) (f_X11_game a1 a2))
    (hE_law : EQ1 Rel (f_X10_law) (f_X11_law))
    (hE_rests : ∀ a1 : Int32, EQ1 Rel (f_X10_rests a1) (f_X11_rests a1))
    (hE_years : ∀ a1 a2 : Int32, EQ1 Rel (f_X10_years a1 a2) (f_X11_years a1 a2))
    (hE_keep : ∀ a1 : Int32, EQ1 Rel (f_X10_keep a1) (f_X11_keep a1))
    (hE_again : ∀ a1 : Int32, EQ1 Rel (f_X10_again a1) (f_X11_again a1))
    (hE_count : ∀ a1 : Int32, EQ1 Rel (f_X10_count a1) (f_X11_count a1))
    (hE_row : ∀ a1 : Int32, EQX Rel (fun v : Int64 => v) (fun v : Int64 => v) (f_X10_row a1) (f_X11_row a1))
    (hRel0 : Rel S0z) {p : Program} {e : Env} {s : State} {m : MethodId} {below : List Frame} {meth : Method} {c : Code} (l : Launch) {b N : Nat} {xs : Nat → Int32} (hN : N ≤ 3072) (hst : l.stackTraces = false) (C0 : lw_At p s m meth c b N xs) : W p l e room_1 s m #[Value.ref b] below meth c s.heap [] 0 0 (lw_Z below #[Value.ref b] s) (entryFrame m ([Value.ref b] : List Value).toArray 8) := by
  obtain ⟨hx, hb, hr, hml, hown, hts, hX, hbl, hlocks, hgv⟩ := id C0
  obtain ⟨c0, iS0, hKn0⟩ := u_known (C := RX0) (T := TX0) (N := 4) (n := 4) hts (fun w hw => (List.mem_filter.mp (zinX0 w hw)).1) (hts (.instantiable RX0 4) (List.mem_filter.mp nw_X0).1)
  obtain ⟨c1, iS1, hKn1⟩ := u_known (C := RX1) (T := TX1) (N := 4) (n := 4) hts (fun w hw => (List.mem_filter.mp (zinX1 w hw)).1) (hts (.instantiable RX1 4) (List.mem_filter.mp nw_X1).1)
  obtain ⟨c2, iS2, hKn2⟩ := u_known (C := RX2) (T := TX2) (N := 9) (n := 9) hts (fun w hw => (List.mem_filter.mp (zinX2 w hw)).1) (hts (.instantiable RX2 9) (List.mem_filter.mp nw_X2).1)
  obtain ⟨c3, iS3, hKn3⟩ := u_known (C := RX3) (T := TX3) (N := 7) (n := 7) hts (fun w hw => (List.mem_filter.mp (zinX3 w hw)).1) (hts (.instantiable RX3 7) (List.mem_filter.mp nw_X3).1)
  obtain ⟨c4, iS4, hKn4⟩ := u_known (C := RX4) (T := TX4) (N := 5) (n := 5) hts (fun w hw => (List.mem_filter.mp (zinX4 w hw)).1) (hts (.instantiable RX4 5) (List.mem_filter.mp nw_X4).1)
  obtain ⟨c5, iS5, hKn5⟩ := u_known (C := RX5) (T := TX5) (N := 2) (n := 2) hts (fun w hw => (List.mem_filter.mp (zinX5 w hw)).1) (hts (.instantiable RX5 2) (List.mem_filter.mp nw_X5).1)
  obtain ⟨c6, iS6, hKn6⟩ := u_known (C := RX6) (T := TX6) (N := 10) (n := 10) hts (fun w hw => (List.mem_filter.mp (zinX6 w hw)).1) (hts (.instantiable RX6 10) (List.mem_filter.mp nw_X6).1)
  obtain ⟨c7, iS7, hKn7⟩ := u_known (C := RX7) (T := TX7) (N := 6) (n := 6) hts (fun w hw => (List.mem_filter.mp (zinX7 w hw)).1) (hts (.instantiable RX7 6) (List.mem_filter.mp nw_X7).1)
  obtain ⟨c8, iS8, hKn8⟩ := u_known (C := RX8) (T := TX8) (N := 2) (n := 2) hts (fun w hw => (List.mem_filter.mp (zinX8 w hw)).1) (hts (.instantiable RX8 2) (List.mem_filter.mp nw_X8).1)
  obtain ⟨c9, iS9, hKn9⟩ := u_known (C := RX9) (T := TX9) (N := 3) (n := 3) hts (fun w hw => (List.mem_filter.mp (zinX9 w hw)).1) (hts (.instantiable RX9 3) (List.mem_filter.mp nw_X9).1)
  obtain ⟨c10, iS10, hKn10⟩ := u_known (C := RX10) (T := TX10) (N := 13) (n := 13) hts (fun w hw => (List.mem_filter.mp (zinX10 w hw)).1) (hts (.instantiable RX10 13) (List.mem_filter.mp nw_X10).1)
  obtain ⟨c11, iS11, hKn11⟩ := u_known (C := RX11) (T := TX11) (N := 54) (n := 54) hts (fun w hw => (List.mem_filter.mp (zinX11 w hw)).1) (hts (.instantiable RX11 54) (List.mem_filter.mp nw_X11).1)
  obtain ⟨dC, dI, hKc⟩ : ∃ (dC : Nat → ClassId) (dI : Nat → Nat → Nat), ∀ (k : Nat) (q : vw_C), vwCl[k]? = some q → u_Kn s q.1 q.2.1 q.2.2 (dC k) (dI k) := by
    refine ⟨fun k => match k with | 0 => c0 | 1 => c1 | 2 => c2 | 3 => c3 | 4 => c4 | 5 => c5 | 6 => c6 | 7 => c7 | 8 => c8 | 9 => c9 | 10 => c10 | _ => c11, fun k => match k with | 0 => iS0 | 1 => iS1 | 2 => iS2 | 3 => iS3 | 4 => iS4 | 5 => iS5 | 6 => iS6 | 7 => iS7 | 8 => iS8 | 9 => iS9 | 10 => iS10 | _ => iS11, ?_⟩
    intro k q hq
    match k, hq with
    | 0, hq => cases hq; exact hKn0
    | 1, hq => cases hq; exact hKn1
    | 2, hq => cases hq; exact hKn2
    | 3, hq => cases hq; exact hKn3
    | 4, hq => cases hq; exact hKn4
    | 5, hq => cases hq; exact hKn5
    | 6, hq => cases hq; exact hKn6
    | 7, hq => cases hq; exact hKn7
    | 8, hq => cases hq; exact hKn8
    | 9, hq => cases hq; exact hKn9
    | 10, hq => cases hq; exact hKn10
    | 11, hq => cases hq; exact hKn11
    | k + 12, hq => simp [vwCl] at hq
  have harr : ∀ ty : FieldType, (∀ C, ty ≠ .object C) → Cond.arrayClass ty ∈ lw_tbl → ∃ cA : ClassId, ArrOfT s cA ty ∧ va_RA s cA ty := by
    intro ty hty hw
    obtain ⟨cA, kA, comp, h1, h2, h3⟩ := Cond.arrayClass_spec (hts _ hw)
    refine ⟨cA, fun n z => ⟨fun k h => (by cases h), kA, h2, comp, h3⟩, ?_⟩
    cases ty with
    | object C => exact absurd rfl (hty C)
    | _ => exact h1
  obtain ⟨y12, a12⟩ := harr .int (fun _ h => by cases h) (zt1 (List.mem_of_getElem? (i := 105) rfl))
  obtain ⟨y13, a13⟩ := harr .char (fun _ h => by cases h) (zt1 (List.mem_of_getElem? (i := 50) rfl))
  obtain ⟨y14, a14⟩ := harr .long (fun _ h => by cases h) (zt1 (List.mem_of_getElem? (i := 146) rfl))
  obtain ⟨y15, a15⟩ := harr .boolean (fun _ h => by cases h) (zt1 (List.mem_of_getElem? (i := 174) rfl))
  have hAO : va_AO "CaveAdvice$State" s := va_AO.of (A := #[Value.ref b]) (hts _ (zt1 (List.mem_of_getElem? (i := 154) rfl)))
  obtain ⟨y16, a16⟩ : ∃ cA : ClassId, ArrOfT s cA (.object "CaveAdvice$State") ∧ va_RA s cA (.object "CaveAdvice$State") := by
    obtain ⟨comp, cA, kA, f1, -, f2, f3, f4⟩ := Cond.arrayOver_spec hAO
    exact ⟨cA, fun n z => ⟨fun k h => (by cases h), kA, f2, comp, f3⟩, kA, comp, f2, f3, f1, f4⟩
  obtain ⟨cy, e12, e13, e14, e15, e16⟩ : ∃ cy : Nat → ClassId, cy 12 = y12 ∧ cy 13 = y13 ∧ cy 14 = y14 ∧ cy 15 = y15 ∧ cy 16 = y16 := ⟨fun k => if k = 12 then y12 else if k = 13 then y13 else if k = 14 then y14 else if k = 15 then y15 else y16, rfl, rfl, rfl, rfl, rfl⟩
  subst e12; subst e13; subst e14; subst e15; subst e16
  have hKK : va_K (dC, dI) vwCl (zty cy) s := by
    refine ⟨hKc, fun k q hq => ?_⟩
    match k, hq with
    | 0, hq => cases hq; exact a12
    | 1, hq => cases hq; exact a13
    | 2, hq => cases hq; exact a14
    | 3, hq => cases hq; exact a15
    | 4, hq => cases hq; exact a16
    | k + 5, hq => simp [zty] at hq
  obtain ⟨adK, adV, t20, hzX⟩ := start_zX hts hgv
  obtain ⟨ad0, z1, z2, z3, z4⟩ : ∃ ad0 : Nat → Nat, (∀ i, i < 5 → ad0 (1000 + i) = adK i) ∧ (∀ i, i < 5 → ad0 (1010 + i) = adV i) ∧ ad0 1020 = t20 ∧ ad0 2000 = b := by
    refine ⟨fun q => if q < 1010 then adK (q - 1000) else if q < 1020 then adV (q - 1010) else if q = 1020 then t20 else b, fun i hi => ?_, fun i hi => ?_, rfl, rfl⟩
    · show (if 1000 + i < 1010 then adK (1000 + i - 1000) else _) = _
      rw [if_pos (by omega), Nat.add_sub_cancel_left]
    · show (if 1010 + i < 1010 then _ else if 1010 + i < 1020 then adV (1010 + i - 1010) else _) = _
      rw [if_neg (by omega), if_pos (by omega), Nat.add_sub_cancel_left]
  have hK : KG ((p, l, e, room_1, s), (m, #[Value.ref b], below, meth, c), ((dC, dI), cy), (0, ad0), (fun q : Nat => s.heap.size ≤ q), lw_Z below #[Value.ref b] s) cL_law RL 8 200 601024 7293034 := ⟨hx, hb, hown, hml, ⟨by show (200 : Nat) ≤ 2048; decide, by show (100 * 200 : Nat) ≤ 84000; decide, Nat.le_refl _, Nat.le_refl _⟩, fun w hw => hts w (List.mem_filter.mp hw).1, hKK, fun _ h => h, hAO⟩
  have walk : JG ((p, l, e, room_1, s), (m, #[Value.ref b], below, meth, c), ((dC, dI), cy), (0, ad0), (fun q : Nat => s.heap.size ≤ q), lw_Z below #[Value.ref b] s) 0 [(0, .ref 2000)] [] 0 G0z 0 0 := by
    refine g_new hK zclX10 ck_L_8 nw_X10 in_X10 dL_law_0 (by decide +kernel) zdfX10 (by decide) (okc (Or.inr (by decide)) okn) oksn (by decide) (by decide) ?_
    refine g_dup hK dL_law_3 rfl ?_
    refine g_call hK (c_X10_init (G := G0z)) dL_law_4 rfl ml_L_22 mi_X10_init in_X10 mc_X10_init hy_X10_init ⟨by decide, by decide⟩ ⟨by decide, by decide⟩ (okc (Or.inr (by decide)) okn) (oksc (okr (by decide)) oksn) rfl (Nat.le_of_ble_eq_true rfl) ?_
    refine g_astore_n hK (L' := [(1, .ref 0), (0, .ref 2000)]) dL_law_7 rfl (by decide) rfl ?_
    refine g_new hK zclX11 ck_L_23 nw_X11 in_X11 dL_law_8 (by decide +kernel) zdfX11 (by decide) (okc (okr (by decide)) (okc (Or.inr (by decide)) okn)) oksn (by decide) (by decide) ?_
    refine g_dup hK dL_law_11 rfl ?_
    refine g_call hK (c_X11_init (G := q_X10_init G0z)) dL_law_12 rfl ml_L_25 mi_X11_init in_X11 mc_X11_init hy_X11_init ⟨by decide, by decide⟩ ⟨by decide, by decide⟩ (okc (okr (by decide)) (okc (Or.inr (by decide)) okn)) (oksc (okr (by decide)) oksn) rfl (Nat.le_of_ble_eq_true rfl) ?_
    refine g_astore_n hK (L' := [(2, .ref 122), (1, .ref 0), (0, .ref 2000)]) dL_law_15 rfl (by decide) rfl ?_
    refine g_iconst hK (1 : Int32) dL_law_16 ic_1 ?_
    refine g_newa (atype := .long) (ty := .long) (ki := 14) (t0 := 2) hK ac_long rfl dL_law_17 (by decide +kernel) (by decide +kernel) (by decide) tn_1 (by decide) (fun _ => rfl) (gr_ty (fun _ h => by cases h)) (1, .inr (.inl (fun _ => 0))) (fun ad cy => zcG_long (by decide +kernel) (by decide +kernel)) (fun _ => rfl) (by decide) (okc (okr (by decide)) (okc (okr (by decide)) (okc (Or.inr (by decide)) okn))) oksn (by decide) (by decide) ?_
    refine g_astore_n hK (L' := [(3, .ref 158), (2, .ref 122), (1, .ref 0), (0, .ref 2000)]) dL_law_19 rfl (by decide) rfl ?_
    refine g_iconst hK (nI 0) dL_law_20 (by decide) ?_
    refine g_istore hK (L' := [(4, .int (nI 0)), (3, .ref 158), (2, .ref 122), (1, .ref 0), (0, .ref 2000)]) dL_law_21 (by decide) rfl ?_
    intro hG hn0 ad H locs ls had hP hD hS hl'
    have hinj : zinj ad := fun i j hi hj e1 => hD.1 i j _ _ (zwG_get hi) (zwG_get hj) e1
    have hnew : ∀ o, o < zN → s.heap.size ≤ ad o := fun o ho => hD.2 o _ (zwG_get ho)
    have hX9 : zX ad s s.heap := hzX ad (fun i hi => ⟨(had _ (Or.inr (by omega))).trans (z1 i hi), (had _ (Or.inr (by omega))).trans (z2 i hi)⟩) ((had _ (Or.inr (by decide))).trans z3) hnew
    refine va_forget (fun q hq => hS.2.2 q hq) ?_
    have loop := law_loop hE_sign hE_end hE_passages hE_rule hE_passage hE_cavern hE_sheet hE_calls hE_hours hE_falls hE_digs hE_season hE_undo hE_route hE_hears hE_asks hE_becomes hE_keeps hE_apart hE_longest hE_rounds hE_way hE_meets hE_heart hE_ropes hE_needed hE_tour hE_halves hE_guides hE_most hE_told hE_forget hE_fits hE_next hE_heard hE_denied hE_laws hE_listens hE_hints hE_game hE_law hE_rests hE_years hE_keep hE_again hE_count hE_row hN hst C0 hKK hinj hX9 ((had _ (Or.inr (by decide))).trans z4) hnew (e := e) (below := below) (N + 1) 0 159 8303 S0z (by omega) (by omega) (by omega) (by omega) hRel0
    exact loop H [] ls (zfin hP) ⟨hS.1, fun q h1 h2 => hS.2.1 q h1 (Nat.not_le.mpr h1), fun _ h => nomatch h⟩ (lv_sub hl' [4, 3, 2, 1, 0] rfl)
  rw [lg_entry_eq]
  have hl := lv_entry ([.ref b]) (n := 8) (Nat.le_of_ble_eq_true rfl)
  have h0 : okG G0z 0 := ⟨fun _ _ _ => ⟨rfl, rfl⟩, fun _ _ _ h => by cases h⟩
  refine walk h0 (Nat.le_refl _) ad0 s.heap [] _ (fun _ _ => rfl) (fun k q h => by simp [zwG] at h) ⟨fun i j p q h => by simp [zwG] at h, fun k q h => by simp [zwG] at h⟩ va_S.rf ?_
  have e0 : ([(0, Value.ref 2000)] : List (Nat × Value)).map (mL ad0) = lv_args 0 [.ref b] := by
    show [(0, Value.ref (ad0 2000))] = [(0, Value.ref b)]
    rw [z4]
  rw [e0, hml]
  exact hl
