theorem relT {S S1 S2 : St} (hS : RelP S) (a2 : QC (sI S 1 1 0) S1) (b2 : QM (sI S1 122 10 0) S2) (c1 : gI S1 10 1 = gI S 10 1) (c2 : ∀ k, gL S1 11 k = gL S 11 k) (d1 : gI S2 122 1 = gI S1 122 1) (d2 : ∀ k, gL S2 123 k = gL S1 123 k) : RelP S2 := by
  have h0 : RelP (sI (sI S 1 1 0) 122 10 0) := by
    obtain ⟨⟨n, n1, n2, n3, n4, n5⟩, ⟨m, hCC, hO, hH, hK⟩, hN, hR, hF, hE, hU⟩ := id hS
    exact ⟨⟨0, by omega, rfl, rfl, fun i hi => absurd hi (by omega), n5⟩, ⟨m, hCC.fr, hO.f6, hH.fr, hK.fr⟩, hN.f6, hR.fr, hF.fr, hE.fr, hU.fr⟩
  refine h0.row (fun a b hab => ?_) ?_
  · rw [b2.1 a b (by unfold PM; rw [hab]; simp), gI_s, gI_s, a2.1 a b (by unfold PC; rw [hab]; simp)]
  · obtain ⟨t, t1, t2, t3, t4⟩ := hS.2.2.2.1
    refine ⟨t, t1, ?_, ?_, fun i hi => ?_⟩
    · rw [b2.1 10 1 rfl]; exact c1.trans t2
    · rw [d1]; exact (a2.1 122 1 rfl).trans t3
    · rw [b2.2 11 i rfl, d2]; exact (c2 i).trans ((t4 i hi).trans (a2.2 123 i rfl).symm)
set_option maxRecDepth 16384 in
theorem eq_calls : ∀ a1 a2 : Int32, EQ1 RelP (f_X10_calls a1 a2) (f_X11_calls a1 a2) := by
  intro x y
  apply EQ1.of
  intro S hS
  obtain ⟨c, o, r, ok, hC, hM⟩ := hS.x
  obtain ⟨n, n1, n2, n3, n4, n5⟩ := id hS.1
  have h12 := ok12 ok
  obtain ⟨f1, f2⟩ := refu_c (x := x) (y := y) ok hC.1 n1 n2
  by_cases he : echP c x y
  · obtain ⟨q, st, hq, hst, rfl, rfl, ho, hen⟩ := he
    have hl := pth_ok ok hst hq
    obtain ⟨T1, g1, g2, g3, g4⟩ := f2 st q rfl rfl hst hq ho hen
    by_cases hc : clOk (clN S 2 n) n
    · have hn1 : 1 ≤ n ∧ n ≤ 6 := ⟨by have := hc.2.1; have := clN_le S 2 n; omega, by have := hc.1; have := hc.2.2; omega⟩
      obtain ⟨m, u, f, hR, hO, hN, hw⟩ := hS.r
      have hm : m = cm c := by
        have e1 := hR.2.1.2.1
        have e2 := hC.1.1
        have e3 := hR.2.1.1
        rw [e2, nEq (by omega) (by omega)] at e1
        exact e1.symm
      subst hm
      have hw' := id hw
      obtain ⟨hu, hf, w2, w28, w1, _⟩ := hw'
      have hw1 : RHw T1 (cm c) u f := hw.of (fun b => g1.1 _ _ (by omega) (by omega) (by omega)) (g1.1 _ _ (by omega) (by omega) (by omega)) (fun b => g1.1 _ _ (by omega) (by omega) (by omega)) (fun a b h1 h2 => g1.1 _ _ (by omega) (by omega) (by omega))
      have sl : 14 ≤ 14 + 4 * ((f + u) % 16) ∧ 14 + 4 * ((f + u) % 16) ≤ 74 := by omega
      have off : ∀ a b, (a < 14 ∨ 77 < a) → gI (tk T1 (14 + 4 * ((f + u) % 16)) 6) a b = gI T1 a b := fun a b h => tk_off (by omega)
      have hL2 : ∀ a b, gL (tk T1 (14 + 4 * ((f + u) % 16)) 6) a b = gL T1 a b := fun a b => rfl
      have hz2 : ∀ a b, 14 ≤ a → a ≤ 77 → gI (tk T1 (14 + 4 * ((f + u) % 16)) 6) a b = gI (tk S (14 + 4 * ((f + u) % 16)) 6) a b := by
        intro a b h1 h2
        have e6 : ∀ k, gI T1 6 k = gI S 6 k := fun k => g1.1 _ _ (by omega) (by omega) (by omega)
        have e7 : ∀ k, gI T1 7 k = gI S 7 k := fun k => g1.1 _ _ (by omega) (by omega) (by omega)
        have e8 : ∀ k, gI T1 8 k = gI S 8 k := fun k => g1.1 _ _ (by omega) (by omega) (by omega)
        have e9 : ∀ k, gI T1 9 k = gI S 9 k := fun k => g1.1 _ _ (by omega) (by omega) (by omega)
        have ez : ∀ a b, 14 ≤ a → a ≤ 77 → gI T1 a b = gI S a b := fun a b h1 h2 => g1.1 _ _ (by omega) (by omega) (by omega)
        unfold tk
        simp only [gI_s, gI_r, e6, e7, e8, e9]
        rw [ez _ _ h1 h2]
        simp only [ez (14 + 4 * ((f + u) % 16) + 1) _ (by omega) (by omega), ez (14 + 4 * ((f + u) % 16) + 2) _ (by omega) (by omega), ez (14 + 4 * ((f + u) % 16) + 3) _ (by omega) (by omega)]
      have mk := mark_e hw1
      generalize hT2 : tk T1 (14 + 4 * ((f + u) % 16)) 6 = T2 at off hL2 hz2 mk
      have hC2 : CX T2 c o r := (hC.q g1.q).of off
      have hE2 : ECs c T2 (pth c st q) (pen c st q) := g2.of off
      obtain ⟨T3, p1', p2, p3, p4⟩ := put_e (nI (sumD c (pth c st q))).toInt64 (RwC.nil T2) (by simp)
      have q23 : QC T2 T3 := (q10 T2 0).tr p2
      have et2 : ∀ a b, a ≠ 10 → (a < 14 ∨ 77 < a) → a ≠ 92 → a ≠ 93 → a ≠ 94 → gI T3 a b = gI S a b := fun a b h1 h2 h3 h4 h5 => (p4 a b h1).trans ((e10 a b h1).trans ((off a b h2).trans (g1.1 a b h3 h4 h5)))
      obtain ⟨T4, s1, s2, s3, s4⟩ := puts_c (tx := fun i => gI S 2 i - 97) (n := n) ok (hC2.q q23) ((hE2.p e10).p p4) hl hn1.2 (fun i hi => by rw [et2 2 i (by omega) (by omega) (by omega) (by omega) (by omega)]) p3 (by simp)
      have q24 : QC T2 T4 := q23.tr s2
      have i12 : ∀ k, gI T4 12 k = gI S 12 k := fun k => (q24.1 12 k rfl).trans ((off _ _ (by omega)).trans (g1.1 _ _ (by omega) (by omega) (by omega)))
      have wo := wear_c ok s3 hl
      generalize hT5 : sI (sR T4 9 (wrA (pth c st q) (gI T4 9))) 6 5 (mnI 999 (gI T4 6 5 + 1)) = T5 at wo
      have o5 : ∀ a b, a ≠ 9 → (a ≠ 6 ∨ b ≠ 5) → gI T5 a b = gI T4 a b := by
        intro a b h1 h2
        rw [← hT5, gI_s]
        by_cases e : a = 6
        · rw [if_pos e, if_neg (by omega), gI_r, if_neg h1]
        · rw [if_neg e, gI_r, if_neg h1]
      have l5 : ∀ a b, gL T5 a b = gL T4 a b := fun a b => by rw [← hT5]; rfl
      have se : f_X4_settle 1 T5 = some ((), stS u f T5) := settle_e ((o5 _ _ (by omega) (by omega)).trans ((i12 _).trans w2)) ((o5 _ _ (by omega) (by omega)).trans ((i12 _).trans w1)) hu hf
      generalize hT6 : sI (stS u f T5) 1 1 0 = T6
      have o6 : ∀ a b, a ≠ 12 → (a ≠ 1 ∨ b ≠ 1) → gI T6 a b = gI T5 a b := by
        intro a b h1 h2
        rw [← hT6, gI_s]
        by_cases e : a = 1
        · rw [if_pos e, if_neg (by omega), stS_off h1]
        · rw [if_neg e, stS_off h1]
      have l6 : ∀ a b, gL T6 a b = gL T5 a b := fun a b => by rw [← hT6]; exact stS_L
      -- the class's end
      have cls : f_X10_calls (nI st) (nI q) S = some (nI (pen c st q), T6) := by
        unfold f_X10_calls f_X10_calls_71 f_X10_wearByEcho
        rw [g3 hc, bd_e, if_pos rfl, mk, bd_e, begin_e, bd_e, e10 92 4 (by omega), hE2.2.1, p1', bd_e, et2 1 1 (by omega) (by omega) (by omega) (by omega) (by omega), n2, s1, bd_e, wo, bd_e, bd_e, o5 92 5 (by omega) (by omega), s3.2.2.1, se, bd_e, lt_e, hT6]
      have big : ∀ a b, 122 ≤ a → gI T6 a b = gI S a b := fun a b h => (o6 _ _ (by omega) (by omega)).trans ((o5 _ _ (by omega) (by omega)).trans ((q24.1 a b (by unfold PC; rw [decide_eq_true h]; rfl)).trans ((off _ _ (by omega)).trans (g1.1 _ _ (by omega) (by omega) (by omega)))))
      have bigL : ∀ a b, 122 ≤ a → gL T6 a b = gL S a b := fun a b h => (l6 _ _).trans ((l5 _ _).trans ((q24.2 a b (by unfold LC; exact decide_eq_true h)).trans ((hL2 _ _).trans (g1.2 _ _))))
      have small : ∀ a b, a < 122 → scr2 a b = false → a ≠ 9 → (a ≠ 6 ∨ b ≠ 5) → a ≠ 12 → (a < 14 ∨ 77 < a) → (a ≠ 1 ∨ b ≠ 1) → gI T6 a b = gI S a b := by
        intro a b h0 h1 h2 h3 h4 h5 h6
        have hs : scr a b = false := by
          unfold scr2 at h1
          simp only [Bool.or_eq_false_iff] at h1
          exact h1.1.1
        have k1 : a ≠ 92 := by intro e; subst e; cases hs
        have k2 : a ≠ 93 := by intro e; subst e; cases hs
        have k3 : a ≠ 94 := by intro e; subst e; cases hs
        exact (o6 _ _ h4 h6).trans ((o5 _ _ h2 h3).trans ((q24.1 a b (by unfold PC; rw [h1]; simp)).trans ((off _ _ h5).trans (g1.1 _ _ k1 k2 k3))))
      have hM6 : MX T6 c r := by
        obtain ⟨⟨h1, h2, h4, h5⟩, b2, b3, b4, b5⟩ := hM
        refine ⟨⟨(big _ _ (by omega)).trans h1, fun i hi => ?_, (big _ _ (by omega)).trans h4, (big _ _ (by omega)).trans h5⟩, b2, (big _ _ (by omega)).trans b3, fun i hi => (big _ _ (by omega)).trans (b4 i hi), b5⟩
        rw [big 124 i (by omega), big 125 i (by omega), big 126 i (by omega), big 126 (12 + i) (by omega), big 126 (24 + i) (by omega)]
        exact h2 i hi
      refine ⟨_, _, cls, ?_⟩
      -- the reference
      have hM0 : MX (sI T6 122 0 0) c r := hM6.q (q00 T6 0)
      obtain ⟨_, r2⟩ := readsCall_m (T := sI T6 122 0 0) (x := nI st) (y := nI q) ok hM0.1 n1 ((big 122 10 (by omega)).trans n3)
      obtain ⟨U2, t1, t2, t3, t4, t5⟩ := r2 st q rfl rfl hst hq ho hen
      have et : ∀ i, i < n → gI (sI T6 122 0 0) 128 i = gI S 2 i := fun i hi => (big 128 i (by omega)).trans (n4 i hi).symm
      have ecl : clN (sI T6 122 0 0) 128 n = clN S 2 n := clN_eq et
      rw [ecl] at t4
      obtain ⟨v1, v2⟩ := t4 hc
      have qq : QM (sI T6 122 10 0) U2 := by
        have : QM (sI T6 122 10 0) (sI (sI T6 122 0 0) 122 10 0) := smcg (q00 T6 0) 122 10 0
        exact this.tr t1
      have hMU : MX U2 c r := by
        have : MX (sI T6 122 10 0) c r := ⟨hM6.1, hM6.2⟩
        exact this.q qq
      obtain ⟨U3, x1, x2, x3⟩ := lays_m ok hMU.1 (by omega) (by omega) (by omega) hst hq ho
      obtain ⟨U4, y1, y2, y3, y4⟩ := ent_e (nI (sumD c (pth c st q))).toInt64 (RwM.nil U3) (by simp)
      have qU4 : QM U3 U4 := (q01 U3 0).tr y2
      obtain ⟨U5, z1, z2, z3, z4⟩ := puts_m (tx := fun i => gI S 2 i - 97) (n := n) ok (hMU.q (x2.q.tr qU4)) ((x3.p e01).p y4) hl hn1.2 (fun i hi => by
        rw [y4 138 i (by omega), e01 138 i (by omega), x2.1 138 i (by omega) (by omega) (by omega), v2 i hi, et i hi]) y3 (by simp) (fun v19 S20 => bd (f_X11_putsBy S20) (fun r21 S22 => bd (f_X11_wears 126 S22) (fun r24 S25 => bd (f_X11_adds (gI S25 122 25) S25) (fun r27 S28 => some (r27, S28)))))
      have qA : QM (sI T6 122 10 0) U5 := ((qq.tr x2.q).tr qU4).tr z2
      have m28 : gI U5 122 28 = nI u := (qA.1 122 28 rfl).trans ((big 122 28 (by omega)).trans w28)
      have pb := putsBy_e m28 hu
      generalize hU6 : sR U5 137 (fun k => if 39 * u ≤ k ∧ k < 39 * u + 39 then gI U5 126 (k - 39 * u) else gI U5 137 k) = U6 at pb
      have o7 : ∀ a b, a ≠ 137 → gI U6 a b = gI U5 a b := fun a b h => by rw [← hU6, gI_r, if_neg h]
      have hE6 : EMs c U6 (pth c st q) (pen c st q) := by
        obtain ⟨h1, h2, h3, h4⟩ := z3
        refine ⟨(o7 _ _ (by omega)).trans h1, (o7 _ _ (by omega)).trans h2, (o7 _ _ (by omega)).trans h3, fun i hi => ?_⟩
        rw [o7 134 i (by omega), o7 135 i (by omega)]
        exact h4 i hi
      have we := wears_m (ar := 126) ok hE6 hl (by omega) (by omega)
      generalize hU7 : sI (sR U6 126 (wrM (pth c st q) U6 126)) 126 38 (mnI 999 (gI U6 126 38 + 1)) = U7 at we
      have o8 : ∀ a b, a ≠ 126 → gI U7 a b = gI U6 a b := fun a b h => by rw [← hU7, gI_s, if_neg h, gI_r, if_neg h]
      have l8 : ∀ a b, gL U7 a b = gL U5 a b := fun a b => by rw [← hU7, ← hU6]; rfl
      have u28 : gI U7 122 28 = nI u := (o8 _ _ (by omega)).trans ((o7 _ _ (by omega)).trans m28)
      have ad := addsN (nI (pen c st q)) u28 hu
      refine ⟨nI (pen c st q), adS u U7, ?_, rfl, ?_⟩
      · unfold f_X11_calls
        rw [lt_e, v1, bd_e, if_pos (show (0 : Int32) ≤ nI n by rw [lit, nLe (by omega) (by omega)]; omega), x1, bd_e, lt_e, e01 122 26 (by omega), x3.2.1, y1, bd_e]
        refine z1.trans ?_
        rw [pb, bd_e, we, bd_e, o8 122 25 (by omega), o7 122 25 (by omega), z3.2.2.1, ad, bd_e]
      · -- the relation
        have m126 : ∀ k, gI U5 126 k = gI S 126 k := fun k => (qA.1 126 k rfl).trans (big 126 k (by omega))
        have m137 : ∀ k, gI U5 137 k = gI S 137 k := fun k => (qA.1 137 k rfl).trans (big 137 k (by omega))
        have lowU : ∀ a b, a < 122 → gI U7 a b = gI T6 a b := fun a b h => (o8 _ _ (by omega)).trans ((o7 _ _ (by omega)).trans ((qA.1 a b (by unfold PM; rw [decide_eq_true h]; rfl)).trans (by rw [gI_s, if_neg (by omega)])))
        have lowE : ∀ a b, a < 122 → gI (adS u U7) a b = gI T6 a b := fun a b h => (adS_off (by omega) (by omega)).trans (lowU a b h)
        have now9 : ∀ k, gI T6 9 k = wrA (pth c st q) (gI S 9) k := by
          intro k
          rw [o6 _ _ (by omega) (by omega), ← hT5, gI_s, if_neg (by omega), gI_r, if_pos rfl]
          congr 1
          funext j
          exact (q24.1 9 j rfl).trans ((off _ _ (by omega)).trans (g1.1 _ _ (by omega) (by omega) (by omega)))
        have w65 : gI T4 6 5 = gI S 6 5 := (q24.1 6 5 rfl).trans ((off _ _ (by omega)).trans (g1.1 _ _ (by omega) (by omega) (by omega)))
        have hmw : ∀ k, wrM (pth c st q) U6 126 k = wrM (pth c st q) S 126 k := by
          intro k
          unfold wrM
          have e : ∀ j, gI U6 126 j = gI S 126 j := fun j => (o7 _ _ (by omega)).trans (m126 j)
          simp only [e]
        obtain ⟨nE, oE⟩ := worn (S := S) (E := adS u U7) (l := pth c st q) h12 hl.2 hO hN (fun k => (lowE _ _ (by omega)).trans (small _ _ (by omega) rfl (by omega) (by omega) (by omega) (by omega) (by omega))) (fun k => (lowE _ _ (by omega)).trans (small _ _ (by omega) rfl (by omega) (by omega) (by omega) (by omega) (by omega))) (fun k => (lowE _ _ (by omega)).trans (now9 k)) ((lowE _ _ (by omega)).trans (small _ _ (by omega) rfl (by omega) (by omega) (by omega) (by omega) (by omega))) ((lowE _ _ (by omega)).trans (small _ _ (by omega) rfl (by omega) (by omega) (by omega) (by omega) (by omega))) (by
          rw [lowE _ _ (by omega), o6 _ _ (by omega) (by omega), ← hT5, gI_s, if_pos rfl, if_pos rfl, w65]) (fun k hk => by
          rw [adS_off (by omega) (by omega), ← hU7, gI_s, if_pos rfl, if_neg (by omega), gI_r, if_pos rfl, hmw]) (by
          rw [adS_off (by omega) (by omega), ← hU7, gI_s, if_pos rfl, if_pos rfl, o7 _ _ (by omega), m126])
        have hRR : RR (adS u U7) := by
          have hlen : ([(nI (sumD c (pth c st q))).toInt64] ++ rowF (fun p => cmo c r (nI p) (pth c st q) (gI S 2 p - 97)) n).length ≤ 16 := by
            rw [List.length_append, rowF_l]; simp; omega
          refine ⟨_, hlen, ?_, ?_, fun i hi => ?_⟩
          · rw [lowE 10 1 (by omega), o6 _ _ (by omega) (by omega), o5 _ _ (by omega) (by omega)]; exact s4.1
          · have : gI (adS u U7) 122 1 = gI U5 122 1 := by
              have e1 : gI (adS u U7) 122 1 = gI U7 122 1 := by
                unfold adS; split
                · rw [gI_s, if_pos rfl, if_neg (by omega)]
                · rw [gI_s, if_pos rfl, if_neg (by omega), gI_r, if_neg (by omega), gI_s, if_pos rfl, if_neg (by omega)]
              exact e1.trans ((o8 _ _ (by omega)).trans (o7 _ _ (by omega)))
            rw [this]; exact z4.1
          · have la : ∀ a b, gL (adS u U7) a b = gL U7 a b := fun a b => by unfold adS; split <;> rfl
            rw [la, la, l8, l8, z4.2 i hi]
            have : gL U5 11 i = gL T4 11 i := (qA.2 11 i rfl).trans ((l6 _ _).trans (l5 _ _))
            rw [this]; exact s4.2 i hi
        have hRE : RelR (adS u U7) (cm c) := by
          refine hR.fin hRR ?_ ?_ (fun a b hd hsc k1 k2 => ?_)
          · rw [lowE 1 1 (by omega), ← hT6]; rfl
          · have e1 : gI (adS u U7) 122 10 = gI U7 122 10 := by
              unfold adS; split
              · rw [gI_s, if_pos rfl, if_neg (by omega)]
              · rw [gI_s, if_pos rfl, if_neg (by omega), gI_r, if_neg (by omega), gI_s, if_pos rfl, if_neg (by omega)]
            rw [e1, o8 _ _ (by omega), o7 _ _ (by omega), qA.1 122 10 rfl]; rfl
          · obtain ⟨d1, d2, d3, d4, d5, d6, d7, d8, d9⟩ := dom_no hd
            by_cases hlt : a < 122
            · rw [lowE a b hlt]
              exact small a b hlt hsc d4 (by omega) d5 (by omega) k1
            · have e1 : gI (adS u U7) a b = gI U7 a b := by
                by_cases e : a = 122
                · subst e
                  unfold adS; split
                  · rw [gI_s, if_pos rfl, if_neg (by omega)]
                  · rw [gI_s, if_pos rfl, if_neg (by omega), gI_r, if_neg (by omega), gI_s, if_pos rfl, if_neg (by omega)]
                · exact adS_off e d8
              rw [e1, o8 a b d7, o7 a b d8, qA.1 a b (by unfold PM; rw [hsc]; simp), gI_s]
              by_cases e : a = 122
              · rw [if_pos e, if_neg (by omega)]; exact big a b (by omega)
              · rw [if_neg e]; exact big a b (by omega)
        refine hRE.p oE nE ?_
        refine act_done hw h12 hN hO S w2 w1 (fun k => ?_) u28 (fun a b h1 h2 => ?_) (fun k => ?_)
        · rw [lowU 12 k (by omega), ← hT6, gI_s, if_neg (by omega)]
          unfold stS
          split
          · rw [gI_s, gI_s, if_pos rfl, if_pos rfl]
            split
            · rfl
            · rw [o5 _ _ (by omega) (by omega), i12]
          · rw [gI_s, gI_s, if_pos rfl, if_pos rfl]
            split
            · rfl
            · rw [o5 _ _ (by omega) (by omega), i12]
        · rw [lowU a b (by omega), o6 _ _ (by omega) (by omega), o5 _ _ (by omega) (by omega), q24.1 a b (by unfold PC scr2; rw [scr_st (by omega) (by omega), decide_eq_false (show ¬ a = 10 by omega), decide_eq_false (show ¬ a = 122 by omega)]; simp), hz2 a b h1 h2]
        · rw [o8 _ _ (by omega), ← hU6, gI_r, if_pos rfl, m126, m137]
    · refine ⟨-1 - nI (min (clN S 2 n) 6), sI T1 1 1 0, ?_, ?_⟩
      · unfold f_X10_calls f_X10_calls_71
        rw [g4 hc, bd_e, if_neg (neg0 (Nat.min_le_right _ _)).1, lt_e]
      · have q1 : QC (sI S 1 1 0) (sI T1 1 1 0) := smcg g1.q 1 1 0
        have hM1 : MX (sI T1 1 1 0) c r := by
          have : MX (sI S 1 1 0) c r := ⟨hM.1, hM.2⟩
          exact this.c q1
        have big : ∀ a b, 122 ≤ a → gI (sI T1 1 1 0) a b = gI S a b := fun a b h => by rw [gI_s, if_neg (by omega), g1.1 _ _ (by omega) (by omega) (by omega)]
        obtain ⟨_, r2⟩ := readsCall_m (T := sI (sI T1 1 1 0) 122 0 0) (x := nI st) (y := nI q) ok (hM1.q (q00 _ 0)).1 n1 ((big 122 10 (by omega)).trans n3)
        obtain ⟨U2, t1, t2, t3, t4, t5⟩ := r2 st q rfl rfl hst hq ho hen
        have et : ∀ i, i < n → gI (sI (sI T1 1 1 0) 122 0 0) 128 i = gI S 2 i := fun i hi => (big 128 i (by omega)).trans (n4 i hi).symm
        rw [clN_eq et] at t5
        have qq : QM (sI (sI T1 1 1 0) 122 10 0) U2 := by
          have : QM (sI (sI T1 1 1 0) 122 10 0) (sI (sI (sI T1 1 1 0) 122 0 0) 122 10 0) := smcg (q00 _ 0) 122 10 0
          exact this.tr t1
        refine ⟨-1 - nI (min (clN S 2 n) 6), U2, ?_, rfl, relT hS q1 qq (g1.1 10 1 (by omega) (by omega) (by omega)) (fun k => g1.2 11 k) t2 t3⟩
        unfold f_X11_calls
        rw [lt_e, t5 hc, bd_e, if_neg (neg0 (Nat.min_le_right _ _)).2]
  · refine ⟨-100, sI S 1 1 0, ?_, ?_⟩
    · unfold f_X10_calls f_X10_calls_71
      rw [f1 he, bd_e, if_neg (by decide), lt_e]
    · have hM1 : MX (sI S 1 1 0) c r := ⟨hM.1, hM.2⟩
      obtain ⟨r1, _⟩ := readsCall_m (T := sI (sI S 1 1 0) 122 0 0) (x := x) (y := y) ok (hM1.q (q00 _ 0)).1 n1 n3
      obtain ⟨U2, t1, t2, t3, t4⟩ := r1 he
      have qq : QM (sI (sI S 1 1 0) 122 10 0) U2 := by
        have : QM (sI (sI S 1 1 0) 122 10 0) (sI (sI (sI S 1 1 0) 122 0 0) 122 10 0) := smcg (q00 _ 0) 122 10 0
        exact this.tr t2
      refine ⟨-100, U2, ?_, rfl, relT hS (Sm.rf _) qq rfl (fun _ => rfl) t3 t4⟩
      unfold f_X11_calls
      rw [lt_e, t1, bd_e, if_neg (by decide)]
