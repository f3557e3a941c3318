/-- the law's context -/
abbrev KL (p : Program) (l : Launch) (e : Env) (s : State) (m : MethodId) (b : Nat) (below : List Frame) (meth : Method) (c : Code) (D : va_G) (ad : Nat → Nat) (cy : Nat → ClassId) (nc ns : Nat) : CT := ((p, l, e, room_1, s), (m, #[Value.ref b], below, meth, c), (D, ad, cy), (lw_Z below #[Value.ref b] s, nc, ns))
theorem zlast {N i : Nat} (hN : N ≤ 3072) (hi : i ≤ 3078) (h : ¬ (nI N - (6 : Int32)) < nI i) : i + 6 ≤ N := by
  rw [Int32.lt_iff_toInt_lt, show (6 : Int32) = nI 6 from rfl, pk_sub_toInt (by omega) (by omega), nI_toInt (by omega)] at h
  omega
set_option maxHeartbeats 4000000 in
theorem law_loop {Rel : St → Prop} (hE_sign : ∀ a1 : Int32, EQ1 Rel (f_X10_sign a1) (f_X11_sign a1))
    (hE_end : ∀ a1 : Int32, EQ1 Rel (f_X10_end a1) (f_X11_end a1))
    (hE_passages : EQ1 Rel (f_X10_passages) (f_X11_passages))
    (hE_rule : EQ1 Rel (f_X10_rule) (f_X11_rule))
    (hE_passage : ∀ a1 a2 : Int32, EQX Rel (fun v : Int32 => v.toInt64) (fun v : Int32 => v.toInt64) (f_X10_passage a1 a2) (f_X11_passage a1 a2))
    (hE_cavern : ∀ a1 a2 : Int32, EQX Rel (fun v : Int32 => v.toInt64) (fun v : Int32 => v.toInt64) (f_X10_cavern a1 a2) (f_X11_cavern a1 a2))
    (hE_sheet : ∀ a1 a2 a3 a4 : Int32, EQ1 Rel (f_X10_sheet a1 a2 a3 a4) (f_X11_sheet a1 a2 a3 a4))
    (hE_calls : ∀ a1 a2 : Int32, EQ1 Rel (f_X10_calls a1 a2) (f_X11_calls a1 a2))
    (hE_hours : ∀ a1 : Int32, EQ1 Rel (f_X10_hours a1) (f_X11_hours a1))
    (hE_falls : ∀ a1 : Int32, EQ1 Rel (f_X10_falls a1) (f_X11_falls a1))
    (hE_digs : ∀ a1 a2 a3 : Int32, EQ1 Rel (f_X10_digs a1 a2 a3) (f_X11_digs a1 a2 a3))
    (hE_season : EQ1 Rel (f_X10_season) (f_X11_season))
    (hE_undo : EQ1 Rel (f_X10_undo) (f_X11_undo))
    (hE_route : ∀ a1 a2 : Int32, EQ1 Rel (f_X10_route a1 a2) (f_X11_route a1 a2))
    (hE_hears : ∀ a1 a2 : Int32, EQ1 Rel (f_X10_hears a1 a2) (f_X11_hears a1 a2))
    (hE_asks : ∀ a1 a2 : Int32, EQ1 Rel (f_X10_asks a1 a2) (f_X11_asks a1 a2))
    (hE_becomes : EQ1 Rel (f_X10_becomes) (f_X11_becomes))
    (hE_keeps : ∀ a1 a2 : Int32, EQ1 Rel (f_X10_keeps a1 a2) (f_X11_keeps a1 a2))
    (hE_apart : ∀ a1 a2 a3 : Int32, EQ1 Rel (f_X10_apart a1 a2 a3) (f_X11_apart a1 a2 a3))
    (hE_longest : ∀ a1 : Int32, EQ1 Rel (f_X10_longest a1) (f_X11_longest a1))
    (hE_rounds : EQ1 Rel (f_X10_rounds) (f_X11_rounds))
    (hE_way : ∀ a1 a2 : Int32, EQ1 Rel (f_X10_way a1 a2) (f_X11_way a1 a2))
    (hE_meets : ∀ a1 a2 : Int32, EQ1 Rel (f_X10_meets a1 a2) (f_X11_meets a1 a2))
    (hE_heart : EQ1 Rel (f_X10_heart) (f_X11_heart))
    (hE_ropes : EQ1 Rel (f_X10_ropes) (f_X11_ropes))
    (hE_needed : EQ1 Rel (f_X10_needed) (f_X11_needed))
    (hE_tour : ∀ a1 a2 : Int32, EQ1 Rel (f_X10_tour a1 a2) (f_X11_tour a1 a2))
    (hE_halves : EQ1 Rel (f_X10_halves) (f_X11_halves))
    (hE_guides : EQ1 Rel (f_X10_guides) (f_X11_guides))
    (hE_most : EQ1 Rel (f_X10_most) (f_X11_most))
    (hE_told : ∀ a1 a2 : Int32, EQ1 Rel (f_X10_told a1 a2) (f_X11_told a1 a2))
    (hE_forget : EQ1 Rel (f_X10_forget) (f_X11_forget))
    (hE_fits : EQ1 Rel (f_X10_fits) (f_X11_fits))
    (hE_next : EQ1 Rel (f_X10_next) (f_X11_next))
    (hE_heard : ∀ a1 a2 a3 : Int32, EQ1 Rel (f_X10_heard a1 a2 a3) (f_X11_heard a1 a2 a3))
    (hE_denied : EQ1 Rel (f_X10_denied) (f_X11_denied))
    (hE_laws : EQ1 Rel (f_X10_laws) (f_X11_laws))
    (hE_listens : EQ1 Rel (f_X10_listens) (f_X11_listens))
    (hE_hints : ∀ a1 a2 a3 a4 a5 : Int32, EQ1 Rel (f_X10_hints a1 a2 a3 a4 a5) (f_X11_hints a1 a2 a3 a4 a5))
    (hE_game : ∀ a1 a2 : Int32, EQ1 Rel (f_X10_game a1 a2) (f_X11_game a1 a2))
    (hE_law : EQ1 Rel (f_X10_law) (f_X11_law))
    (hE_rests : ∀ a1 : Int32, EQ1 Rel (f_X10_rests a1) (f_X11_rests a1))
    (hE_years : ∀ a1 a2 : Int32, EQ1 Rel (f_X10_years a1 a2) (f_X11_years a1 a2))
    (hE_keep : ∀ a1 : Int32, EQ1 Rel (f_X10_keep a1) (f_X11_keep a1))
    (hE_again : ∀ a1 : Int32, EQ1 Rel (f_X10_again a1) (f_X11_again a1))
    (hE_count : ∀ a1 : Int32, EQ1 Rel (f_X10_count a1) (f_X11_count a1))
    (hE_row : ∀ a1 : Int32, EQX Rel (fun v : Int64 => v) (fun v : Int64 => v) (f_X10_row a1) (f_X11_row a1))
    {p : Program} {l : Launch} {e : Env} {s : State} {m : MethodId} {b : Nat} {below : List Frame} {meth : Method} {c : Code} {D : va_G} {ad : Nat → Nat} {cy : Nat → ClassId} {N : Nat} {xs : Nat → Int32} (hN : N ≤ 3072) (hst : l.stackTraces = false)
    (C0 : lw_At p s m meth c b N xs) (hKK : va_K D vwCl (zty cy) s) (hinj : zinj ad) (hzX : zX ad s s.heap) (hb : ad 2000 = b) (hnew : ∀ o, o < zN → s.heap.size ≤ ad o) :
    ∀ (n i nc ns : Nat) (S : St), N < i + 6 * n → i ≤ 3078 → nc ≤ 200 + i → ns ≤ 20000 + i → Rel S → J (KL p l e s m b below meth c D ad cy nc ns) 23 [(0, .ref 2000), (1, .ref 0), (2, .ref 122), (3, .ref 158), (4, .int (nI i))] [] S := by
  obtain ⟨hx, hbb, hr, hml, hown, hts, hX, hbl, hlocks, hgv⟩ := C0
  have hout : ¬ zA ad b := by
    rintro ⟨o, ho, e1⟩
    have := hnew o ho
    omega
  intro n
  induction n with
  | zero =>
    intro i nc ns S h1 h2 h3 h4 hRel
    have hK : KO (KL p l e s m b below meth c D ad cy nc ns) cL_law RL 8 200 (some .boolean) := ⟨hx, hbb, hown, hml, ⟨by show (200 : Nat) ≤ 2048; decide, by show (100 * 200 : Nat) ≤ 84000; decide, by show nc ≤ 601024; omega, by show ns ≤ 7293034; omega⟩, hr, hlocks, fun w hw => hts w (List.mem_filter.mp hw).1, hKK, hinj, hzX⟩
    have hsc : zSc (KL p l e s m b below meth c D ad cy nc ns) N xs := by
      show va_X (ad 2000) N xs s s.heap ∧ ad 2000 < s.heap.size ∧ ¬ zA ad (ad 2000)
      rw [hb]; exact ⟨hX, hbl, hout⟩
    refine j_iload hK dL_law_23 4 rfl ?_
    refine j_aload_n hK dL_law_25 0 rfl rfl ?_
    refine j_slen hK hsc dL_law_26 ?_
    refine j_bipush hK (6 : Int32) dL_law_27 bi_6 ?_
    refine j_isub hK dL_law_29 ?_
    refine j_icmp_gt hK 1601 dL_law_30 (by decide) (fun _ => ?_) (fun hc => ?_)
    · refine j_iconst hK (1 : Int32) dL_law_1601 ic_1 ?_
      intro H locs ls hP hS hl'
      refine va_forget (fun q hq => ?_) ?_
      · obtain ⟨o, ho, e1⟩ := hS.2.2 q hq
        rw [e1]; exact hnew o ho
      · refine W.widen (k := 601024) (n := 7293034) (by omega) (by omega) ?_
        exact lw_ret hx hbb hr hlocks dL_law_1602
    · have := zlast hN h2 hc
      omega
  | succ n ih =>
    intro i nc ns S h1 h2 h3 h4 hRel
    have hK : KO (KL p l e s m b below meth c D ad cy nc ns) cL_law RL 8 200 (some .boolean) := ⟨hx, hbb, hown, hml, ⟨by show (200 : Nat) ≤ 2048; decide, by show (100 * 200 : Nat) ≤ 84000; decide, by show nc ≤ 601024; omega, by show ns ≤ 7293034; omega⟩, hr, hlocks, fun w hw => hts w (List.mem_filter.mp hw).1, hKK, hinj, hzX⟩
    have hsc : zSc (KL p l e s m b below meth c D ad cy nc ns) N xs := by
      show va_X (ad 2000) N xs s s.heap ∧ ad 2000 < s.heap.size ∧ ¬ zA ad (ad 2000)
      rw [hb]; exact ⟨hX, hbl, hout⟩
    have hz : zroom (KL p l e s m b below meth c D ad cy nc ns) := ⟨hst, by show nc + 1 ≤ 601024; omega, by show ns + 6 ≤ 7293034; omega⟩
    refine j_iload hK dL_law_23 4 rfl ?_
    refine j_aload_n hK dL_law_25 0 rfl rfl ?_
    refine j_slen hK hsc dL_law_26 ?_
    refine j_bipush hK (6 : Int32) dL_law_27 bi_6 ?_
    refine j_isub hK dL_law_29 ?_
    refine j_icmp_gt hK 1601 dL_law_30 (by decide) (fun _ => ?_) (fun hc => ?_)
    · refine j_iconst hK (1 : Int32) dL_law_1601 ic_1 ?_
      intro H locs ls hP hS hl'
      refine va_forget (fun q hq => ?_) ?_
      · obtain ⟨o, ho, e1⟩ := hS.2.2 q hq
        rw [e1]; exact hnew o ho
      · refine W.widen (k := 601024) (n := 7293034) (by omega) (by omega) ?_
        exact lw_ret hx hbb hr hlocks dL_law_1602
    · have hle := zlast hN h2 hc
      refine j_aload_n hK dL_law_33 0 rfl rfl ?_
      refine j_iload hK dL_law_34 4 rfl ?_
      refine j_sld hK hsc dL_law_36 (vp_in_nI (by omega) (by omega)) ?_
      refine j_bipush hK (63 : Int32) dL_law_37 bi_63 ?_
      refine j_iand hK dL_law_39 ?_
      refine law_sw hE_sign hE_end hE_passages hE_rule hE_passage hE_cavern hE_sheet hE_calls hE_hours hE_falls hE_digs hE_season hE_undo hE_route hE_hears hE_asks hE_becomes hE_keeps hE_apart hE_longest hE_rounds hE_way hE_meets hE_heart hE_ropes hE_needed hE_tour hE_halves hE_guides hE_most hE_told hE_forget hE_fits hE_next hE_heard hE_denied hE_laws hE_listens hE_hints hE_game hE_law hE_rests hE_years hE_keep hE_again hE_count hE_row hK hz hsc hle hN hRel (fun nc' ns' S' q1 q2 hRel' q3 q4 => ?_)
      have q3 : nc' ≤ nc + 1 := q3
      have q4 : ns' ≤ ns + 6 := q4
      have hK' : KO (KL p l e s m b below meth c D ad cy nc' ns') cL_law RL 8 200 (some .boolean) := ⟨hx, hbb, hown, hml, ⟨by show (200 : Nat) ≤ 2048; decide, by show (100 * 200 : Nat) ≤ 84000; decide, by show nc' ≤ 601024; omega, by show ns' ≤ 7293034; omega⟩, hr, hlocks, fun w hw => hts w (List.mem_filter.mp hw).1, hKK, hinj, hzX⟩
      refine j_iinc (v := nI (i + 6)) hK' (L' := [(4, .int (nI (i + 6))), (0, .ref 2000), (1, .ref 0), (2, .ref 122), (3, .ref 158)]) dL_law_1595 4 rfl (nI_add i 6) (by decide) rfl ?_
      refine j_goto hK' 23 dL_law_1598 (by decide) ?_
      refine j_sub [1, 2, 3, 4, 0] rfl ?_
      exact ih (i + 6) nc' ns' S' (by omega) (by omega) (by omega) (by omega) hRel'
