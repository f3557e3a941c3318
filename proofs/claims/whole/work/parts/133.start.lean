/-- what a new class and a new reference hold -/
def S0z : St := (fun o k => if o = 0 then (if k = 8 then nI 110 else if k = 9 then nI 115 else 0) else if o = 110 then (if k = 7 then 1 else 0) else if o = 115 then (if k = 7 then 1 else 0) else 0, fun _ _ => 0)
def G0z : SG := (fun _ _ => 0, fun _ _ => none)
def Gfz : SG := q_X11_init (q_X10_init G0z)
theorem Gf_ok : ((List.range 159).all fun o => (List.range (zn (zk o))).all fun k => if zf (zk o) k = 0 then decide (Gfz.1 o k = S0z.1 o k) else decide (Gfz.2 o k = some (zd S0z o k))) = true := by decide +kernel
theorem Gf_ok2 : ((List.range 159).all fun o => if zk o = 16 then (List.range (zl o)).all fun k => decide (Gfz.2 o k = some (zr o k)) else true) = true := by decide +kernel
theorem arrV_congr {cA : ClassId} {n : Nat} {f g : Nat → Value} (h : ∀ j, j < n → f j = g j) : arrV cA n f = arrV cA n g := by
  unfold arrV
  congr 1
  apply Array.ext_getElem?
  intro i
  simp only [Array.getElem?_ofFn]
  split
  · rename_i hi; rw [h i hi]
  · rfl
theorem zfin {D : va_G} {ad : Nat → Nat} {cy : Nat → ClassId} {H : Heap} (h : va_P D vwCl (zwG ad cy 159 Gfz) H) : va_P D vwCl (zw ad cy S0z) H := by
  intro o q hq
  obtain ⟨ho, rfl⟩ := zw_of hq
  have h1 := h o (ad o, zcG ad cy Gfz o) (zwG_get ho)
  have k1 := List.all_eq_true.mp Gf_ok o (List.mem_range.mpr ho)
  have k2 := List.all_eq_true.mp Gf_ok2 o (List.mem_range.mpr ho)
  by_cases hk : zk o < 12
  · have e : zcG ad cy Gfz o = zc ad cy S0z o := by
      simp only [zcG, zc, hk, if_true]
      congr 2
      apply List.map_congr_left
      intro k hk9
      have k3 := List.all_eq_true.mp k1 k hk9
      by_cases hz : zf (zk o) k = 0
      · rw [if_pos hz] at k3
        simp only [zvG, zv, hz, if_true]
        rw [of_decide_eq_true k3]
      · rw [if_neg hz] at k3
        simp only [zvG, zv, hz, if_false]
        rw [of_decide_eq_true k3]; rfl
    rw [← e]; exact h1
  · by_cases h14 : zk o = 14
    · have e : zcG ad cy Gfz o = zc ad cy S0z o := by simp [zcG, zc, h14, S0z]
      rw [← e]; exact h1
    · by_cases h16 : zk o = 16
      · rw [if_pos h16] at k2
        have e1 : zcG ad cy Gfz o = .inl (cy 16, zl o, .inr (.inr (.inr (.inr (fun j => (Gfz.2 o j).map ad))))) := by simp [zcG, h16]
        have e2 : zc ad cy S0z o = .inl (cy 16, zl o, .inr (.inr (.inr (.inr (fun j => some (ad (zr o j))))))) := by simp [zc, h16]
        rw [e1] at h1
        rw [e2]
        have h1 : H[ad o]? = some (arrV (cy 16) (zl o) (fun j => va_rf ((Gfz.2 o j).map ad))) := h1
        show H[ad o]? = some (arrV (cy 16) (zl o) (fun j => va_rf (some (ad (zr o j)))))
        rw [h1]
        congr 1
        apply arrV_congr
        intro j hj
        rw [of_decide_eq_true (List.all_eq_true.mp k2 j (List.mem_range.mpr hj))]; rfl
      · have hne : o ≠ 0 ∧ o ≠ 110 ∧ o ≠ 115 := by
          refine ⟨fun e => hk ?_, fun e => hk ?_, fun e => hk ?_⟩ <;> rw [e] <;> decide +kernel
        have e : zcG ad cy Gfz o = zc ad cy S0z o := by
          simp only [zcG, zc, hk, h14, h16, if_false]
          congr 4
          funext k
          simp [S0z, hne.1, hne.2.1, hne.2.2]
        rw [← e]; exact h1
def ztm (i : Nat) : Term := Term.string "CaveAdviceModel" (match i with | 0 => 222 | 1 => 231 | 2 => 233 | 3 => 235 | _ => 379)
theorem five {P : Nat → Prop} (h0 : P 0) (h1 : P 1) (h2 : P 2) (h3 : P 3) (h4 : P 4) : ∀ i, i < 5 → P i := by
  intro i hi
  match i, hi with
  | 0, _ => exact h0
  | 1, _ => exact h1
  | 2, _ => exact h2
  | 3, _ => exact h3
  | 4, _ => exact h4
theorem zstr_ne : ∀ i, i < 5 → ∀ j, j < 5 → i ≠ j → (Cond.not (Cond.eq (ztm i) (ztm j)) ∈ flatC (Jvm.Cond.and given_1 narrow_1) ∨ Cond.not (Cond.eq (ztm j) (ztm i)) ∈ flatC (Jvm.Cond.and given_1 narrow_1)) := by decide +kernel
theorem start_zX {s : State} {b : Nat} (hts : ∀ w ∈ lw_tbl, w.before #[Value.ref b] s = true) (hgv : (Jvm.Cond.and given_1 narrow_1).before #[Value.ref b] s = true) :
    ∃ (adK adV : Nat → Nat) (t20 : Nat), ∀ ad : Nat → Nat, (∀ i, i < 5 → ad (1000 + i) = adK i ∧ ad (1010 + i) = adV i) → ad 1020 = t20 → (∀ o, o < zN → s.heap.size ≤ ad o) → zX ad s s.heap := by
  have hs := flat_of_before _ hgv
  obtain ⟨adK, adV, hV, hev⟩ := vk_Sof (args := #[Value.ref b]) (s := s) (N := 5) (tm := ztm) (len := zSl) (byt := zSb) (A := fun q => s.heap.size ≤ q) (by decide)
    (five (hs _ (by decide +kernel)) (hs _ (by decide +kernel)) (hs _ (by decide +kernel)) (hs _ (by decide +kernel)) (hs _ (by decide +kernel)))
    (five (hs _ (by decide +kernel)) (hs _ (by decide +kernel)) (hs _ (by decide +kernel)) (hs _ (by decide +kernel)) (hs _ (by decide +kernel)))
    (five (hs _ (by decide +kernel)) (hs _ (by decide +kernel)) (hs _ (by decide +kernel)) (hs _ (by decide +kernel)) (hs _ (by decide +kernel)))
    (five (hs _ (by decide +kernel)) (hs _ (by decide +kernel)) (hs _ (by decide +kernel)) (hs _ (by decide +kernel)) (hs _ (by decide +kernel)))
    (fun i hi j hj => hs _ (by revert j; revert i; decide +kernel))
    (fun i j hi hj hne => (zstr_ne i hi j hj hne).imp (hs _) (hs _))
    (fun a ha h => absurd h (Nat.not_le.mpr ha))
  have hc1 := Cond.eq_one (hs (Cond.eq (Term.static "java/lang/String" "COMPACT_STRINGS" "Z") (Term.int 1)) (by decide +kernel))
  have hc2 := Cond.eq_one (hs (Cond.eq (Term.string "CaveAdvice$Rule" 74) (Term.string "CaveAdviceModel" 222)) (by decide +kernel))
  have hA0 : ∀ a : Nat, a < s.heap.size → ¬ (fun q : Nat => s.heap.size ≤ q) a := fun a ha h => absurd h (Nat.not_le.mpr ha)
  have hZ1 : va_Z "java/lang/String" "COMPACT_STRINGS" "Z" (.int 1) (fun q => s.heap.size ≤ q) s s.heap := by
    obtain ⟨w, e1, e2⟩ := hc1
    cases e2
    exact va_Zof (hts _ (zt2 (List.mem_of_getElem? (i := 191) rfl))) (hts _ (zt1 (List.mem_of_getElem? (i := 14) rfl))) e1 hA0
  have hZ2 := va_Zqof (args := #[Value.ref b]) (s := s) (A := fun q : Nat => s.heap.size ≤ q) (hts _ (zt2 (List.mem_of_getElem? (i := 232) rfl))) (hts _ (zt1 (List.mem_of_getElem? (i := 17) rfl))) (hs (Cond.isRef (Term.static "jdk/internal/util/Preconditions" "SIOOBE_FORMATTER" "Ljava/util/function/BiFunction;")) (by decide +kernel)) hA0
  have hZ3 := vx_Zqof (args := #[Value.ref b]) (s := s) (C := Bundle.tN) (n := "UNASSIGNED_STACK") (d := Bundle.steD) (A := fun q : Nat => s.heap.size ≤ q) (hts _ (zt5 (List.mem_of_getElem? (i := 160) rfl))) (hts _ (zt1 (List.mem_of_getElem? (i := 19) rfl))) (hs _ (by decide +kernel)) hA0
  have hZ4 := vx_Zqof (args := #[Value.ref b]) (s := s) (C := Bundle.tN) (n := "SUPPRESSED_SENTINEL") (d := Bundle.listD) (A := fun q : Nat => s.heap.size ≤ q) (hts _ (zt5 (List.mem_of_getElem? (i := 162) rfl))) (hts _ (zt1 (List.mem_of_getElem? (i := 19) rfl))) (hs _ (by decide +kernel)) hA0
  obtain ⟨t20, ht20⟩ : ∃ t20 : Nat, va_Z "jdk/internal/util/Preconditions" "SIOOBE_FORMATTER" "Ljava/util/function/BiFunction;" .null (fun q => s.heap.size ≤ q) s s.heap ∨ va_Z "jdk/internal/util/Preconditions" "SIOOBE_FORMATTER" "Ljava/util/function/BiFunction;" (.ref t20) (fun q => s.heap.size ≤ q) s s.heap := by
    rcases hZ2 with h | ⟨t, h⟩
    · exact ⟨0, Or.inl h⟩
    · exact ⟨t, Or.inr h⟩
  refine ⟨adK, adV, t20, fun ad h1 h2 hnew => ?_⟩
  have hAB : ∀ q, zA ad q → s.heap.size ≤ q := by
    rintro q ⟨o, ho, e⟩
    rw [e]; exact hnew o ho
  have hV' := hV.narrow hAB
  have hr0 : (Term.string "CaveAdvice$Rule" 74).eval #[Value.ref b] s none [] s = some (.ref (adK 0)) := by
    obtain ⟨w, e1, e2⟩ := hc2
    have e3 := hev 0 (by decide)
    cases e2.symm.trans e3
    exact e1
  refine ⟨⟨va_Nw.of rfl (hts _ (zt4 (List.mem_of_getElem? (i := 194) rfl))), va_Nw.of rfl (hts _ (zt5 (List.mem_of_getElem? (i := 2) rfl))), hZ1.narrow hAB, ?_, ⟨fun i hi => ?_, fun i j hi hj e => ?_⟩, ?_, ?_, ?_, ?_, ?_, ?_⟩, ⟨va_Nw.of rfl (hts _ (zt5 (List.mem_of_getElem? (i := 135) rfl))), va_Nw.of rfl (hts _ (zt5 (List.mem_of_getElem? (i := 140) rfl))), va_Nw.of rfl (hts _ (zt5 (List.mem_of_getElem? (i := 136) rfl))), va_Nw.of rfl (hts _ (zt5 (List.mem_of_getElem? (i := 138) rfl)))⟩, hZ3.narrow hAB, hZ4.narrow hAB⟩
  · rw [h2]; exact ht20.imp (fun h => h.narrow hAB) (fun h => h.narrow hAB)
  · have q := hV'.1 i hi
    rw [← (h1 i hi).1, ← (h1 i hi).2] at q
    exact q
  · exact hV'.2 i j hi hj (by rw [← (h1 i hi).1, ← (h1 j hj).1]; exact e)
  · rw [show ad 1000 = adK 0 from (h1 0 (by decide)).1]; exact vk_R.of (hts _ (zt2 (List.mem_of_getElem? (i := 177) rfl))) hr0
  · rw [show ad 1000 = adK 0 from (h1 0 (by decide)).1]; exact vk_R.of (hts _ (zt6 (List.mem_of_getElem? (i := 211) rfl))) (hev 0 (by decide))
  · rw [show ad 1001 = adK 1 from (h1 1 (by decide)).1]; exact vk_R.of (hts _ (zt6 (List.mem_of_getElem? (i := 237) rfl))) (hev 1 (by decide))
  · rw [show ad 1002 = adK 2 from (h1 2 (by decide)).1]; exact vk_R.of (hts _ (zt6 (List.mem_of_getElem? (i := 238) rfl))) (hev 2 (by decide))
  · rw [show ad 1003 = adK 3 from (h1 3 (by decide)).1]; exact vk_R.of (hts _ (zt6 (List.mem_of_getElem? (i := 239) rfl))) (hev 3 (by decide))
  · rw [show ad 1004 = adK 4 from (h1 4 (by decide)).1]; exact vk_R.of (hts _ (zt7 (List.mem_of_getElem? (i := 175) rfl))) (hev 4 (by decide))
