theorem ac_int : Cond.arrayClass .int ∈ zT := zT_in (zt1 (List.mem_of_getElem? (i := 105) rfl)) rfl
theorem ac_char : Cond.arrayClass .char ∈ zT := zT_in (zt1 (List.mem_of_getElem? (i := 50) rfl)) rfl
theorem ac_long : Cond.arrayClass .long ∈ zT := zT_in (zt1 (List.mem_of_getElem? (i := 146) rfl)) rfl
theorem ac_boolean : Cond.arrayClass .boolean ∈ zT := zT_in (zt1 (List.mem_of_getElem? (i := 174) rfl)) rfl
theorem ck_L_8 : Cond.classLink RL 8 RX10 ∈ zT := zT_in (zt1 (List.mem_of_getElem? (i := 25) rfl)) rfl
theorem nw_X10 : Cond.instantiable RX10 13 ∈ zT := zT_in (zt1 (List.mem_of_getElem? (i := 26) rfl)) rfl
theorem ob_X10 : Cond.methodLink RX10 1 Lib.objectInit ∈ zT := zT_in (zt1 (List.mem_of_getElem? (i := 30) rfl)) rfl
theorem ck_X10_7 : Cond.classLink RX10 7 RX8 ∈ zT := zT_in (zt1 (List.mem_of_getElem? (i := 33) rfl)) rfl
theorem nw_X8 : Cond.instantiable RX8 2 ∈ zT := zT_in (zt1 (List.mem_of_getElem? (i := 34) rfl)) rfl
theorem ob_X8 : Cond.methodLink RX8 3 Lib.objectInit ∈ zT := zT_in (zt1 (List.mem_of_getElem? (i := 38) rfl)) rfl
theorem ck_X10_16 : Cond.classLink RX10 16 RX0 ∈ zT := zT_in (zt1 (List.mem_of_getElem? (i := 51) rfl)) rfl
theorem nw_X0 : Cond.instantiable RX0 4 ∈ zT := zT_in (zt1 (List.mem_of_getElem? (i := 52) rfl)) rfl
theorem ob_X0 : Cond.methodLink RX0 3 Lib.objectInit ∈ zT := zT_in (zt1 (List.mem_of_getElem? (i := 56) rfl)) rfl
theorem ck_X0_22 : Cond.classLink RX0 22 RX7 ∈ zT := zT_in (zt1 (List.mem_of_getElem? (i := 57) rfl)) rfl
theorem nw_X7 : Cond.instantiable RX7 6 ∈ zT := zT_in (zt1 (List.mem_of_getElem? (i := 58) rfl)) rfl
theorem ob_X7 : Cond.methodLink RX7 3 Lib.objectInit ∈ zT := zT_in (zt1 (List.mem_of_getElem? (i := 62) rfl)) rfl
theorem ck_X10_23 : Cond.classLink RX10 23 RX5 ∈ zT := zT_in (zt1 (List.mem_of_getElem? (i := 132) rfl)) rfl
theorem nw_X5 : Cond.instantiable RX5 2 ∈ zT := zT_in (zt1 (List.mem_of_getElem? (i := 133) rfl)) rfl
theorem ob_X5 : Cond.methodLink RX5 1 Lib.objectInit ∈ zT := zT_in (zt1 (List.mem_of_getElem? (i := 137) rfl)) rfl
theorem ck_X10_30 : Cond.classLink RX10 30 RX4 ∈ zT := zT_in (zt1 (List.mem_of_getElem? (i := 147) rfl)) rfl
theorem nw_X4 : Cond.instantiable RX4 5 ∈ zT := zT_in (zt1 (List.mem_of_getElem? (i := 148) rfl)) rfl
theorem ob_X4 : Cond.methodLink RX4 1 Lib.objectInit ∈ zT := zT_in (zt1 (List.mem_of_getElem? (i := 152) rfl)) rfl
theorem ck_X4_9 : Cond.classLink RX4 9 RX7 ∈ zT := zT_in (zt1 (List.mem_of_getElem? (i := 153) rfl)) rfl
theorem ck_X10_37 : Cond.classLink RX10 37 RX2 ∈ zT := zT_in (zt1 (List.mem_of_getElem? (i := 175) rfl)) rfl
theorem nw_X2 : Cond.instantiable RX2 9 ∈ zT := zT_in (zt1 (List.mem_of_getElem? (i := 176) rfl)) rfl
theorem ob_X2 : Cond.methodLink RX2 3 Lib.objectInit ∈ zT := zT_in (zt1 (List.mem_of_getElem? (i := 180) rfl)) rfl
theorem ck_X10_46 : Cond.classLink RX10 46 RX9 ∈ zT := zT_in (zt1 (List.mem_of_getElem? (i := 216) rfl)) rfl
theorem nw_X9 : Cond.instantiable RX9 3 ∈ zT := zT_in (zt1 (List.mem_of_getElem? (i := 217) rfl)) rfl
theorem ob_X9 : Cond.methodLink RX9 3 Lib.objectInit ∈ zT := zT_in (zt1 (List.mem_of_getElem? (i := 221) rfl)) rfl
theorem ck_X10_53 : Cond.classLink RX10 53 RX1 ∈ zT := zT_in (zt1 (List.mem_of_getElem? (i := 232) rfl)) rfl
theorem nw_X1 : Cond.instantiable RX1 4 ∈ zT := zT_in (zt1 (List.mem_of_getElem? (i := 233) rfl)) rfl
theorem ob_X1 : Cond.methodLink RX1 3 Lib.objectInit ∈ zT := zT_in (zt1 (List.mem_of_getElem? (i := 237) rfl)) rfl
theorem ck_X10_60 : Cond.classLink RX10 60 RX3 ∈ zT := zT_in (zt2 (List.mem_of_getElem? (i := 12) rfl)) rfl
theorem nw_X3 : Cond.instantiable RX3 7 ∈ zT := zT_in (zt2 (List.mem_of_getElem? (i := 13) rfl)) rfl
theorem ob_X3 : Cond.methodLink RX3 3 Lib.objectInit ∈ zT := zT_in (zt2 (List.mem_of_getElem? (i := 17) rfl)) rfl
theorem ck_X10_67 : Cond.classLink RX10 67 RX6 ∈ zT := zT_in (zt2 (List.mem_of_getElem? (i := 43) rfl)) rfl
theorem nw_X6 : Cond.instantiable RX6 10 ∈ zT := zT_in (zt2 (List.mem_of_getElem? (i := 44) rfl)) rfl
theorem ob_X6 : Cond.methodLink RX6 3 Lib.objectInit ∈ zT := zT_in (zt2 (List.mem_of_getElem? (i := 48) rfl)) rfl
theorem ck_L_23 : Cond.classLink RL 23 RX11 ∈ zT := zT_in (zt5 (List.mem_of_getElem? (i := 213) rfl)) rfl
theorem nw_X11 : Cond.instantiable RX11 54 ∈ zT := zT_in (zt5 (List.mem_of_getElem? (i := 214) rfl)) rfl
theorem ob_X11 : Cond.methodLink RX11 18 Lib.objectInit ∈ zT := zT_in (zt5 (List.mem_of_getElem? (i := 218) rfl)) rfl
theorem zdfX0 : ∀ ty0 : Nat → FieldType, (∀ k, k < 4 → parseFieldDescriptor (TX0 k).2.2.1 = some (ty0 k)) → ∀ j, j < 4 → defaultValue (ty0 j) = if zf 0 j = 0 then .int 0 else .null := fun ty0 h j hj => by
  rw [show ty0 j = tyX0 j from Option.some.inj ((h j hj).symm.trans (tyX0_ok j hj))]
  have q : ∀ j, j < 4 → defaultValue (tyX0 j) = if zf 0 j = 0 then .int 0 else .null := by decide +kernel
  exact q j hj
theorem zdfX1 : ∀ ty0 : Nat → FieldType, (∀ k, k < 4 → parseFieldDescriptor (TX1 k).2.2.1 = some (ty0 k)) → ∀ j, j < 4 → defaultValue (ty0 j) = if zf 1 j = 0 then .int 0 else .null := fun ty0 h j hj => by
  rw [show ty0 j = tyX1 j from Option.some.inj ((h j hj).symm.trans (tyX1_ok j hj))]
  have q : ∀ j, j < 4 → defaultValue (tyX1 j) = if zf 1 j = 0 then .int 0 else .null := by decide +kernel
  exact q j hj
theorem zdfX2 : ∀ ty0 : Nat → FieldType, (∀ k, k < 9 → parseFieldDescriptor (TX2 k).2.2.1 = some (ty0 k)) → ∀ j, j < 9 → defaultValue (ty0 j) = if zf 2 j = 0 then .int 0 else .null := fun ty0 h j hj => by
  rw [show ty0 j = tyX2 j from Option.some.inj ((h j hj).symm.trans (tyX2_ok j hj))]
  have q : ∀ j, j < 9 → defaultValue (tyX2 j) = if zf 2 j = 0 then .int 0 else .null := by decide +kernel
  exact q j hj
theorem zdfX3 : ∀ ty0 : Nat → FieldType, (∀ k, k < 7 → parseFieldDescriptor (TX3 k).2.2.1 = some (ty0 k)) → ∀ j, j < 7 → defaultValue (ty0 j) = if zf 3 j = 0 then .int 0 else .null := fun ty0 h j hj => by
  rw [show ty0 j = tyX3 j from Option.some.inj ((h j hj).symm.trans (tyX3_ok j hj))]
  have q : ∀ j, j < 7 → defaultValue (tyX3 j) = if zf 3 j = 0 then .int 0 else .null := by decide +kernel
  exact q j hj
theorem zdfX4 : ∀ ty0 : Nat → FieldType, (∀ k, k < 5 → parseFieldDescriptor (TX4 k).2.2.1 = some (ty0 k)) → ∀ j, j < 5 → defaultValue (ty0 j) = if zf 4 j = 0 then .int 0 else .null := fun ty0 h j hj => by
  rw [show ty0 j = tyX4 j from Option.some.inj ((h j hj).symm.trans (tyX4_ok j hj))]
  have q : ∀ j, j < 5 → defaultValue (tyX4 j) = if zf 4 j = 0 then .int 0 else .null := by decide +kernel
  exact q j hj
theorem zdfX5 : ∀ ty0 : Nat → FieldType, (∀ k, k < 2 → parseFieldDescriptor (TX5 k).2.2.1 = some (ty0 k)) → ∀ j, j < 2 → defaultValue (ty0 j) = if zf 5 j = 0 then .int 0 else .null := fun ty0 h j hj => by
  rw [show ty0 j = tyX5 j from Option.some.inj ((h j hj).symm.trans (tyX5_ok j hj))]
  have q : ∀ j, j < 2 → defaultValue (tyX5 j) = if zf 5 j = 0 then .int 0 else .null := by decide +kernel
  exact q j hj
theorem zdfX6 : ∀ ty0 : Nat → FieldType, (∀ k, k < 10 → parseFieldDescriptor (TX6 k).2.2.1 = some (ty0 k)) → ∀ j, j < 10 → defaultValue (ty0 j) = if zf 6 j = 0 then .int 0 else .null := fun ty0 h j hj => by
  rw [show ty0 j = tyX6 j from Option.some.inj ((h j hj).symm.trans (tyX6_ok j hj))]
  have q : ∀ j, j < 10 → defaultValue (tyX6 j) = if zf 6 j = 0 then .int 0 else .null := by decide +kernel
  exact q j hj
theorem zdfX7 : ∀ ty0 : Nat → FieldType, (∀ k, k < 6 → parseFieldDescriptor (TX7 k).2.2.1 = some (ty0 k)) → ∀ j, j < 6 → defaultValue (ty0 j) = if zf 7 j = 0 then .int 0 else .null := fun ty0 h j hj => by
  rw [show ty0 j = tyX7 j from Option.some.inj ((h j hj).symm.trans (tyX7_ok j hj))]
  have q : ∀ j, j < 6 → defaultValue (tyX7 j) = if zf 7 j = 0 then .int 0 else .null := by decide +kernel
  exact q j hj
theorem zdfX8 : ∀ ty0 : Nat → FieldType, (∀ k, k < 2 → parseFieldDescriptor (TX8 k).2.2.1 = some (ty0 k)) → ∀ j, j < 2 → defaultValue (ty0 j) = if zf 8 j = 0 then .int 0 else .null := fun ty0 h j hj => by
  rw [show ty0 j = tyX8 j from Option.some.inj ((h j hj).symm.trans (tyX8_ok j hj))]
  have q : ∀ j, j < 2 → defaultValue (tyX8 j) = if zf 8 j = 0 then .int 0 else .null := by decide +kernel
  exact q j hj
theorem zdfX9 : ∀ ty0 : Nat → FieldType, (∀ k, k < 3 → parseFieldDescriptor (TX9 k).2.2.1 = some (ty0 k)) → ∀ j, j < 3 → defaultValue (ty0 j) = if zf 9 j = 0 then .int 0 else .null := fun ty0 h j hj => by
  rw [show ty0 j = tyX9 j from Option.some.inj ((h j hj).symm.trans (tyX9_ok j hj))]
  have q : ∀ j, j < 3 → defaultValue (tyX9 j) = if zf 9 j = 0 then .int 0 else .null := by decide +kernel
  exact q j hj
theorem zdfX10 : ∀ ty0 : Nat → FieldType, (∀ k, k < 13 → parseFieldDescriptor (TX10 k).2.2.1 = some (ty0 k)) → ∀ j, j < 13 → defaultValue (ty0 j) = if zf 10 j = 0 then .int 0 else .null := fun ty0 h j hj => by
  rw [show ty0 j = tyX10 j from Option.some.inj ((h j hj).symm.trans (tyX10_ok j hj))]
  have q : ∀ j, j < 13 → defaultValue (tyX10 j) = if zf 10 j = 0 then .int 0 else .null := by decide +kernel
  exact q j hj
theorem zdfX11 : ∀ ty0 : Nat → FieldType, (∀ k, k < 54 → parseFieldDescriptor (TX11 k).2.2.1 = some (ty0 k)) → ∀ j, j < 54 → defaultValue (ty0 j) = if zf 11 j = 0 then .int 0 else .null := fun ty0 h j hj => by
  rw [show ty0 j = tyX11 j from Option.some.inj ((h j hj).symm.trans (tyX11_ok j hj))]
  have q : ∀ j, j < 54 → defaultValue (tyX11 j) = if zf 11 j = 0 then .int 0 else .null := by decide +kernel
  exact q j hj
theorem okr {n a : Nat} (h : a < n) : okV n (.ref a) := Or.inl h
theorem oki {n : Nat} {x : Int32} : okV n (.int x) := trivial
theorem okn {n : Nat} : ∀ q ∈ ([] : List (Nat × Value)), okV n q.2 := fun _ h => nomatch h
theorem okc {n i : Nat} {v : Value} {L : List (Nat × Value)} (h : okV n v) (t : ∀ q ∈ L, okV n q.2) : ∀ q ∈ (i, v) :: L, okV n q.2 := List.forall_mem_cons.mpr ⟨h, t⟩
theorem oksn {n : Nat} : ∀ v ∈ ([] : List Value), okV n v := fun _ h => nomatch h
theorem oksc {n : Nat} {v : Value} {L : List Value} (h : okV n v) (t : ∀ q ∈ L, okV n q) : ∀ q ∈ v :: L, okV n q := List.forall_mem_cons.mpr ⟨h, t⟩
theorem zcG_int {ad : Nat → Nat} {cy : Nat → ClassId} {G : SG} {n N : Nat} (hk : zk n = 12) (hl : zl n = N) : zcG ad cy G n = .inl (cy 12, N, .inl (fun _ => 0)) := by simp [zcG, hk, hl]
theorem zcG_char {ad : Nat → Nat} {cy : Nat → ClassId} {G : SG} {n N : Nat} (hk : zk n = 13) (hl : zl n = N) : zcG ad cy G n = .inl (cy 13, N, .inl (fun _ => 0)) := by simp [zcG, hk, hl]
theorem zcG_boolean {ad : Nat → Nat} {cy : Nat → ClassId} {G : SG} {n N : Nat} (hk : zk n = 15) (hl : zl n = N) : zcG ad cy G n = .inl (cy 15, N, .inl (fun _ => 0)) := by simp [zcG, hk, hl]
theorem zcG_long {ad : Nat → Nat} {cy : Nat → ClassId} {G : SG} {n N : Nat} (hk : zk n = 14) (hl : zl n = N) : zcG ad cy G n = .inl (cy 14, N, .inr (.inl (fun _ => 0))) := by simp [zcG, hk, hl]
theorem tn_14 : (14 : Int32).toNatClampNeg = 14 := by decide +kernel
theorem tn_11 : (11 : Int32).toNatClampNeg = 11 := by decide +kernel
def q_X7_init (o n : Nat) (G : SG) : SG := (pI (pI (pI (pR (pR (pR G o 0 n) o 1 (n + 1)) o 2 (n + 2)) o 3 (0 : Int32)) o 4 (0 : Int32)) o 5 (0 : Int32))
theorem c_X7_init {o n : Nat} {G : SG} (ho : zk o = 7) (hon : o < n) (hn2 : n < 900) (hk0 : zk n = 12) (hl0 : zl n = 12) (hk1 : zk (n + 1) = 12) (hl1 : zl (n + 1) = 12) (hk2 : zk (n + 2) = 12) (hl2 : zl (n + 2) = 12) : zC yX7_init cX7_init 1 1 3 36 [.ref o] n G (n + 3) (q_X7_init o n G) := by
  refine zC_of (by decide) rfl (Nat.le_of_ble_eq_true rfl) rfl (fun K hK hI ha => ?_)
  unfold q_X7_init at ha
  refine g_aload_n hK dX7_init_0 0 rfl rfl ?_
  refine g_obj hK ob_X7 dX7_init_1 (by decide) (Nat.le_of_ble_eq_true rfl) ?_
  refine g_aload_n hK dX7_init_4 0 rfl rfl ?_
  refine g_bipush hK (12 : Int32) dX7_init_5 bi_12 ?_
  refine g_newa (atype := .int) (ty := .int) (ki := 12) (t0 := 0) hK ac_int rfl dX7_init_7 hk0 hl0 (by decide) tn_12 (by decide) (fun _ => rfl) (gr_ty (fun _ h => by cases h)) (12, .inl (fun _ => 0)) (fun ad cy => zcG_int hk0 hl0) (fun _ => rfl) (by omega) (okc (okr (by omega)) okn) (oksc (okr (by omega)) oksn) (by decide) (by decide) ?_
  refine g_putR hK hI fl_X7_9 (fun _ C T N h => by cases h; rfl) dX7_init_9 ho (by omega) (by omega) (by decide +kernel) (fun _ => rfl) (fun _ => rfl) ?_
  refine g_aload_n hK dX7_init_12 0 rfl rfl ?_
  refine g_pc (pc' := 13) rfl ?_
  refine g_bipush hK (12 : Int32) dX7_init_13 bi_12 ?_
  refine g_newa (atype := .int) (ty := .int) (ki := 12) (t0 := 0) hK ac_int rfl dX7_init_15 hk1 hl1 (by decide) tn_12 (by decide) (fun _ => rfl) (gr_ty (fun _ h => by cases h)) (12, .inl (fun _ => 0)) (fun ad cy => zcG_int hk1 hl1) (fun _ => rfl) (by omega) (okc (okr (by omega)) okn) (oksc (okr (by omega)) oksn) (by decide) (by decide) ?_
  refine g_putR hK hI fl_X7_15 (fun _ C T N h => by cases h; rfl) dX7_init_17 ho (by omega) (by omega) (by decide +kernel) (fun _ => rfl) (fun _ => rfl) ?_
  refine g_aload_n hK dX7_init_20 0 rfl rfl ?_
  refine g_bipush hK (12 : Int32) dX7_init_21 bi_12 ?_
  refine g_newa (atype := .int) (ty := .int) (ki := 12) (t0 := 0) hK ac_int rfl dX7_init_23 hk2 hl2 (by decide) tn_12 (by decide) (fun _ => rfl) (gr_ty (fun _ h => by cases h)) (12, .inl (fun _ => 0)) (fun ad cy => zcG_int hk2 hl2) (fun _ => rfl) (by omega) (okc (okr (by omega)) okn) (oksc (okr (by omega)) oksn) (by decide) (by decide) ?_
  refine g_putR hK hI fl_X7_18 (fun _ C T N h => by cases h; rfl) dX7_init_25 ho (by omega) (by omega) (by decide +kernel) (fun _ => rfl) (fun _ => rfl) ?_
  refine g_aload_n hK dX7_init_28 0 rfl rfl ?_
  refine g_pc (pc' := 29) rfl ?_
  refine g_iconst hK (0 : Int32) dX7_init_29 ic_0 ?_
  refine g_putI hK hI fl_X7_21 dX7_init_30 ho (by omega) (by decide +kernel) rfl rfl ?_
  refine g_aload_n hK dX7_init_33 0 rfl rfl ?_
  refine g_iconst hK (0 : Int32) dX7_init_34 ic_0 ?_
  refine g_putI hK hI fl_X7_25 dX7_init_35 ho (by omega) (by decide +kernel) rfl rfl ?_
  refine g_aload_n hK dX7_init_38 0 rfl rfl ?_
  refine g_iconst hK (0 : Int32) dX7_init_39 ic_0 ?_
  refine g_putI hK hI fl_X7_28 dX7_init_40 ho (by omega) (by decide +kernel) rfl rfl ?_
  refine g_pc (pc' := 43) rfl ?_
  exact g_ret hK hI dX7_init_43 ha
def q_X6_init (o n : Nat) (G : SG) : SG := (pR (pR (pI (pI (pI (pI (pI (pR (pI (pR G o 0 n) o 1 (0 : Int32)) o 2 (n + 1)) o 3 (0 : Int32)) o 4 (0 : Int32)) o 5 (0 : Int32)) o 6 (0 : Int32)) o 7 (1 : Int32)) o 8 (n + 2)) o 9 (n + 3))
theorem c_X6_init {o n : Nat} {G : SG} (ho : zk o = 6) (hon : o < n) (hn2 : n < 900) (hk0 : zk n = 12) (hl0 : zl n = 40) (hk1 : zk (n + 1) = 13) (hl1 : zl (n + 1) = 40) (hk2 : zk (n + 2) = 12) (hl2 : zl (n + 2) = 7) (hk3 : zk (n + 3) = 12) (hl3 : zl (n + 3) = 40) : zC yX6_init cX6_init 1 1 4 127 [.ref o] n G (n + 4) (q_X6_init o n G) := by
  refine zC_of (by decide) rfl (Nat.le_of_ble_eq_true rfl) rfl (fun K hK hI ha => ?_)
  unfold q_X6_init at ha
  refine g_aload_n hK dX6_init_0 0 rfl rfl ?_
  refine g_obj hK ob_X6 dX6_init_1 (by decide) (Nat.le_of_ble_eq_true rfl) ?_
  refine g_aload_n hK dX6_init_4 0 rfl rfl ?_
  refine g_bipush hK (40 : Int32) dX6_init_5 bi_40 ?_
  refine g_newa (atype := .int) (ty := .int) (ki := 12) (t0 := 0) hK ac_int rfl dX6_init_7 hk0 hl0 (by decide) tn_40 (by decide) (fun _ => rfl) (gr_ty (fun _ h => by cases h)) (40, .inl (fun _ => 0)) (fun ad cy => zcG_int hk0 hl0) (fun _ => rfl) (by omega) (okc (okr (by omega)) okn) (oksc (okr (by omega)) oksn) (by decide) (by decide) ?_
  refine g_putR hK hI fl_X6_11 (fun _ C T N h => by cases h; rfl) dX6_init_9 ho (by omega) (by omega) (by decide +kernel) (fun _ => rfl) (fun _ => rfl) ?_
  refine g_aload_n hK dX6_init_12 0 rfl rfl ?_
  refine g_pc (pc' := 13) rfl ?_
  refine g_iconst hK (0 : Int32) dX6_init_13 ic_0 ?_
  refine g_putI hK hI fl_X6_15 dX6_init_14 ho (by omega) (by decide +kernel) rfl rfl ?_
  refine g_aload_n hK dX6_init_17 0 rfl rfl ?_
  refine g_bipush hK (40 : Int32) dX6_init_18 bi_40 ?_
  refine g_newa (atype := .char) (ty := .char) (ki := 13) (t0 := 1) hK ac_char rfl dX6_init_20 hk1 hl1 (by decide) tn_40 (by decide) (fun _ => rfl) (gr_ty (fun _ h => by cases h)) (40, .inl (fun _ => 0)) (fun ad cy => zcG_char hk1 hl1) (fun _ => rfl) (by omega) (okc (okr (by omega)) okn) (oksc (okr (by omega)) oksn) (by decide) (by decide) ?_
  refine g_putR hK hI fl_X6_19 (fun _ C T N h => by cases h; rfl) dX6_init_22 ho (by omega) (by omega) (by decide +kernel) (fun _ => rfl) (fun _ => rfl) ?_
  refine g_aload_n hK dX6_init_25 0 rfl rfl ?_
  refine g_iconst hK (0 : Int32) dX6_init_26 ic_0 ?_
  refine g_pc (pc' := 27) rfl ?_
  refine g_putI hK hI fl_X6_23 dX6_init_27 ho (by omega) (by decide +kernel) rfl rfl ?_
  refine g_aload_n hK dX6_init_30 0 rfl rfl ?_
  refine g_iconst hK (0 : Int32) dX6_init_31 ic_0 ?_
  refine g_putI hK hI fl_X6_26 dX6_init_32 ho (by omega) (by decide +kernel) rfl rfl ?_
  refine g_aload_n hK dX6_init_35 0 rfl rfl ?_
  refine g_iconst hK (0 : Int32) dX6_init_36 ic_0 ?_
  refine g_putI hK hI fl_X6_29 dX6_init_37 ho (by omega) (by decide +kernel) rfl rfl ?_
  refine g_aload_n hK dX6_init_40 0 rfl rfl ?_
  refine g_pc (pc' := 41) rfl ?_
  refine g_iconst hK (0 : Int32) dX6_init_41 ic_0 ?_
  refine g_putI hK hI fl_X6_32 dX6_init_42 ho (by omega) (by decide +kernel) rfl rfl ?_
  refine g_aload_n hK dX6_init_45 0 rfl rfl ?_
  refine g_iconst hK (1 : Int32) dX6_init_46 ic_1 ?_
  refine g_putI hK hI fl_X6_35 dX6_init_47 ho (by omega) (by decide +kernel) rfl rfl ?_
  refine g_aload_n hK dX6_init_50 0 rfl rfl ?_
  refine g_bipush hK (7 : Int32) dX6_init_51 bi_7 ?_
  refine g_newa (atype := .int) (ty := .int) (ki := 12) (t0 := 0) hK ac_int rfl dX6_init_53 hk2 hl2 (by decide) tn_7 (by decide) (fun _ => rfl) (gr_ty (fun _ h => by cases h)) (7, .inl (fun _ => 0)) (fun ad cy => zcG_int hk2 hl2) (fun _ => rfl) (by omega) (okc (okr (by omega)) okn) (oksc (okr (by omega)) oksn) (by decide) (by decide) ?_
  refine g_pc (pc' := 55) rfl ?_
  refine g_putR hK hI fl_X6_39 (fun _ C T N h => by cases h; rfl) dX6_init_55 ho (by omega) (by omega) (by decide +kernel) (fun _ => rfl) (fun _ => rfl) ?_
  refine g_aload_n hK dX6_init_58 0 rfl rfl ?_
  refine g_bipush hK (40 : Int32) dX6_init_59 bi_40 ?_
  refine g_newa (atype := .int) (ty := .int) (ki := 12) (t0 := 0) hK ac_int rfl dX6_init_61 hk3 hl3 (by decide) tn_40 (by decide) (fun _ => rfl) (gr_ty (fun _ h => by cases h)) (40, .inl (fun _ => 0)) (fun ad cy => zcG_int hk3 hl3) (fun _ => rfl) (by omega) (okc (okr (by omega)) okn) (oksc (okr (by omega)) oksn) (by decide) (by decide) ?_
  refine g_putR hK hI fl_X6_42 (fun _ C T N h => by cases h; rfl) dX6_init_63 ho (by omega) (by omega) (by decide +kernel) (fun _ => rfl) (fun _ => rfl) ?_
  exact g_ret hK hI dX6_init_66 ha
def q_X8_init (G : SG) : SG := (pI (pR G 1 0 2) 1 1 (0 : Int32))
set_option maxRecDepth 100000 in
theorem c_X8_init {G : SG} : zC yX8_init cX8_init 1 1 1 80 [.ref 1] 2 G 3 (q_X8_init G) := by
  refine zC_of (by decide) rfl (Nat.le_of_ble_eq_true rfl) rfl (fun K hK hI ha => ?_)
  unfold q_X8_init at ha
  refine g_aload_n hK dX8_init_0 0 rfl rfl ?_
  refine g_obj hK ob_X8 dX8_init_1 (by decide) (Nat.le_of_ble_eq_true rfl) ?_
  refine g_aload_n hK dX8_init_4 0 rfl rfl ?_
  refine g_bipush hK (80 : Int32) dX8_init_5 bi_80 ?_
  refine g_newa (atype := .char) (ty := .char) (ki := 13) (t0 := 1) hK ac_char rfl dX8_init_7 (by decide +kernel) (by decide +kernel) (by decide) tn_80 (by decide) (fun _ => rfl) (gr_ty (fun _ h => by cases h)) (80, .inl (fun _ => 0)) (fun ad cy => zcG_char (by decide +kernel) (by decide +kernel)) (fun _ => rfl) (by omega) (okc (okr (by omega)) okn) (oksc (okr (by omega)) oksn) (by decide) (by decide) ?_
  refine g_putR hK hI fl_X8_11 (fun _ C T N h => by cases h; rfl) dX8_init_9 (by decide +kernel) (by decide) (by decide) (by decide +kernel) (fun _ => rfl) (fun _ => rfl) ?_
  refine g_aload_n hK dX8_init_12 0 rfl rfl ?_
  refine g_pc (pc' := 13) rfl ?_
  refine g_iconst hK (0 : Int32) dX8_init_13 ic_0 ?_
  refine g_putI hK hI fl_X8_15 dX8_init_14 (by decide +kernel) (by decide) (by decide +kernel) rfl rfl ?_
  exact g_ret hK hI dX8_init_17 ha
def q_X0_init (G : SG) : SG := (pR (q_X7_init 6 7 (pI (pR (pR G 3 0 4) 3 1 5) 3 2 (0 : Int32))) 3 3 6)
set_option maxRecDepth 100000 in
theorem c_X0_init {G : SG} : zC yX0_init cX0_init 1 2 6 66 [.ref 3] 4 G 10 (q_X0_init G) := by
  refine zC_of (by decide) rfl (Nat.le_of_ble_eq_true rfl) rfl (fun K hK hI ha => ?_)
  unfold q_X0_init at ha
  refine g_aload_n hK dX0_init_0 0 rfl rfl ?_
  refine g_obj hK ob_X0 dX0_init_1 (by decide) (Nat.le_of_ble_eq_true rfl) ?_
  refine g_aload_n hK dX0_init_4 0 rfl rfl ?_
  refine g_bipush hK (12 : Int32) dX0_init_5 bi_12 ?_
  refine g_newa (atype := .int) (ty := .int) (ki := 12) (t0 := 0) hK ac_int rfl dX0_init_7 (by decide +kernel) (by decide +kernel) (by decide) tn_12 (by decide) (fun _ => rfl) (gr_ty (fun _ h => by cases h)) (12, .inl (fun _ => 0)) (fun ad cy => zcG_int (by decide +kernel) (by decide +kernel)) (fun _ => rfl) (by omega) (okc (okr (by omega)) okn) (oksc (okr (by omega)) oksn) (by decide) (by decide) ?_
  refine g_putR hK hI fl_X0_9 (fun _ C T N h => by cases h; rfl) dX0_init_9 (by decide +kernel) (by decide) (by decide) (by decide +kernel) (fun _ => rfl) (fun _ => rfl) ?_
  refine g_aload_n hK dX0_init_12 0 rfl rfl ?_
  refine g_pc (pc' := 13) rfl ?_
  refine g_bipush hK (12 : Int32) dX0_init_13 bi_12 ?_
  refine g_newa (atype := .int) (ty := .int) (ki := 12) (t0 := 0) hK ac_int rfl dX0_init_15 (by decide +kernel) (by decide +kernel) (by decide) tn_12 (by decide) (fun _ => rfl) (gr_ty (fun _ h => by cases h)) (12, .inl (fun _ => 0)) (fun ad cy => zcG_int (by decide +kernel) (by decide +kernel)) (fun _ => rfl) (by omega) (okc (okr (by omega)) okn) (oksc (okr (by omega)) oksn) (by decide) (by decide) ?_
  refine g_putR hK hI fl_X0_15 (fun _ C T N h => by cases h; rfl) dX0_init_17 (by decide +kernel) (by decide) (by decide) (by decide +kernel) (fun _ => rfl) (fun _ => rfl) ?_
  refine g_aload_n hK dX0_init_20 0 rfl rfl ?_
  refine g_iconst hK (0 : Int32) dX0_init_21 ic_0 ?_
  refine g_putI hK hI fl_X0_18 dX0_init_22 (by decide +kernel) (by decide) (by decide +kernel) rfl rfl ?_
  refine g_aload_n hK dX0_init_25 0 rfl rfl ?_
  refine g_new hK zclX7 ck_X0_22 nw_X7 in_X7 dX0_init_26 (by decide +kernel) zdfX7 (by omega) (okc (okr (by omega)) okn) (oksc (okr (by omega)) oksn) (by decide) (by decide) ?_
  refine g_pc (pc' := 29) rfl ?_
  refine g_dup hK dX0_init_29 rfl ?_
  refine g_call hK (c_X7_init (o := 6) (n := 7) (G := (pI (pR (pR G 3 0 4) 3 1 5) 3 2 (0 : Int32))) (by decide +kernel) (by decide) (by decide) (by decide +kernel) (by decide +kernel) (by decide +kernel) (by decide +kernel) (by decide +kernel) (by decide +kernel)) dX0_init_30 rfl ml_X0_24 mi_X7_init in_X7 mc_X7_init hy_X7_init ⟨by decide, by decide⟩ ⟨by decide, by decide⟩ (okc (okr (by omega)) okn) (oksc (okr (by omega)) (oksc (okr (by omega)) oksn)) rfl (Nat.le_of_ble_eq_true rfl) ?_
  refine g_putR hK hI fl_X0_25 (fun _ C T N h => by cases h; rfl) dX0_init_33 (by decide +kernel) (by decide) (by decide) (by decide +kernel) (fun _ => rfl) (fun _ => rfl) ?_
  exact g_ret hK hI dX0_init_36 ha
def q_X5_init (G : SG) : SG := (pI (pR G 10 0 11) 10 1 (0 : Int32))
set_option maxRecDepth 100000 in
theorem c_X5_init {G : SG} : zC yX5_init cX5_init 1 1 1 16 [.ref 10] 11 G 12 (q_X5_init G) := by
  refine zC_of (by decide) rfl (Nat.le_of_ble_eq_true rfl) rfl (fun K hK hI ha => ?_)
  unfold q_X5_init at ha
  refine g_aload_n hK dX5_init_0 0 rfl rfl ?_
  refine g_obj hK ob_X5 dX5_init_1 (by decide) (Nat.le_of_ble_eq_true rfl) ?_
  refine g_aload_n hK dX5_init_4 0 rfl rfl ?_
  refine g_bipush hK (16 : Int32) dX5_init_5 bi_16 ?_
  refine g_newa (atype := .long) (ty := .long) (ki := 14) (t0 := 2) hK ac_long rfl dX5_init_7 (by decide +kernel) (by decide +kernel) (by decide) tn_16 (by decide) (fun _ => rfl) (gr_ty (fun _ h => by cases h)) (16, .inr (.inl (fun _ => 0))) (fun ad cy => zcG_long (by decide +kernel) (by decide +kernel)) (fun _ => rfl) (by omega) (okc (okr (by omega)) okn) (oksc (okr (by omega)) oksn) (by decide) (by decide) ?_
  refine g_putR hK hI fl_X5_9 (fun _ C T N h => by cases h; rfl) dX5_init_9 (by decide +kernel) (by decide) (by decide) (by decide +kernel) (fun _ => rfl) (fun _ => rfl) ?_
  refine g_aload_n hK dX5_init_12 0 rfl rfl ?_
  refine g_pc (pc' := 13) rfl ?_
  refine g_iconst hK (0 : Int32) dX5_init_13 ic_0 ?_
  refine g_putI hK hI fl_X5_13 dX5_init_14 (by decide +kernel) (by decide) (by decide +kernel) rfl rfl ?_
  exact g_ret hK hI dX5_init_17 ha
def q_X4_init (G : SG) : SG := (pR (pR (q_X7_init 87 88 (pR (q_X7_init 83 84 (pR (q_X7_init 79 80 (pR (pI (pI (pR (q_X7_init 74 75 (pR (q_X7_init 70 71 (pR (q_X7_init 66 67 (pR (q_X7_init 62 63 (pR (q_X7_init 58 59 (pR (q_X7_init 54 55 (pR (q_X7_init 50 51 (pR (q_X7_init 46 47 (pR (q_X7_init 42 43 (pR (q_X7_init 38 39 (pR (q_X7_init 34 35 (pR (q_X7_init 30 31 (pR (q_X7_init 26 27 (pR (q_X7_init 22 23 (pR (q_X7_init 18 19 (pR (q_X7_init 14 15 (pR G 12 0 13)) 13 0 14)) 13 1 18)) 13 2 22)) 13 3 26)) 13 4 30)) 13 5 34)) 13 6 38)) 13 7 42)) 13 8 46)) 13 9 50)) 13 10 54)) 13 11 58)) 13 12 62)) 13 13 66)) 13 14 70)) 13 15 74) 12 1 (0 : Int32)) 12 2 (0 : Int32)) 12 3 78)) 78 0 79)) 78 1 83)) 78 2 87) 12 4 91)
set_option maxRecDepth 100000 in
theorem c_X4_init {G : SG} : zC yX4_init cX4_init 2 2 79 820 [.ref 12] 13 G 92 (q_X4_init G) := by
  refine zC_of (by decide) rfl (Nat.le_of_ble_eq_true rfl) rfl (fun K hK hI ha => ?_)
  unfold q_X4_init at ha
  refine g_aload_n hK dX4_init_0 0 rfl rfl ?_
  refine g_obj hK ob_X4 dX4_init_1 (by decide) (Nat.le_of_ble_eq_true rfl) ?_
  refine g_aload_n hK dX4_init_4 0 rfl rfl ?_
  refine g_bipush hK (16 : Int32) dX4_init_5 bi_16 ?_
  refine g_anew hK ck_X4_9 dX4_init_7 (by decide +kernel) (by decide +kernel) (by decide) tn_16 (by decide) (by omega) (okc (okr (by omega)) okn) (oksc (okr (by omega)) oksn) (by decide) (by decide) ?_
  refine g_putR hK hI fl_X4_11 (fun _ C T N h => by cases h; rfl) dX4_init_10 (by decide +kernel) (by decide) (by decide) (by decide +kernel) (fun _ => rfl) (fun _ => rfl) ?_
  refine g_iconst hK (0 : Int32) dX4_init_13 ic_0 ?_
  refine g_pc (pc' := 14) rfl ?_
  refine g_istore_n hK (L' := [(1, .int (0 : Int32)), (0, .ref 12)]) dX4_init_14 rfl (by decide) rfl ?_
  refine g_iload_n hK dX4_init_15 0 rfl rfl ?_
  refine g_bipush hK (16 : Int32) dX4_init_16 bi_16 ?_
  refine g_icmp_ge hK 40 dX4_init_18 (by decide) (fun h => absurd h (by decide)) (fun _ => ?_)
  refine g_aload_n hK dX4_init_21 1 rfl rfl ?_
  refine g_getR (r := 13) hK fl_X4_11 dX4_init_22 (by decide +kernel) (by decide) (by decide +kernel) rfl ?_
  refine g_iload_n hK dX4_init_25 0 rfl rfl ?_
  refine g_new hK zclX7 ck_X4_9 nw_X7 in_X7 dX4_init_26 (by decide +kernel) zdfX7 (by omega) (okc oki (okc (okr (by omega)) okn)) (oksc oki (oksc (okr (by omega)) oksn)) (by decide) (by decide) ?_
  refine g_pc (pc' := 29) rfl ?_
  refine g_dup hK dX4_init_29 rfl ?_
  refine g_call hK (c_X7_init (o := 14) (n := 15) (G := (pR G 12 0 13)) (by decide +kernel) (by decide) (by decide) (by decide +kernel) (by decide +kernel) (by decide +kernel) (by decide +kernel) (by decide +kernel) (by decide +kernel)) dX4_init_30 rfl ml_X4_15 mi_X7_init in_X7 mc_X7_init hy_X7_init ⟨by decide, by decide⟩ ⟨by decide, by decide⟩ (okc oki (okc (okr (by omega)) okn)) (oksc (okr (by omega)) (oksc oki (oksc (okr (by omega)) oksn))) rfl (Nat.le_of_ble_eq_true rfl) ?_
  refine g_aast (N1 := 16) hK dX4_init_33 (by decide +kernel) (by decide) (by decide +kernel) (by decide +kernel) (by decide) (by decide) tn_0 ?_
  refine g_iinc hK (L' := [(1, .int (1 : Int32)), (0, .ref 12)]) dX4_init_34 0 rfl (by decide) (by decide) rfl ?_
  refine g_goto hK 15 dX4_init_37 (by decide) ?_
  refine g_iload_n hK dX4_init_15 0 rfl rfl ?_
  refine g_bipush hK (16 : Int32) dX4_init_16 bi_16 ?_
  refine g_icmp_ge hK 40 dX4_init_18 (by decide) (fun h => absurd h (by decide)) (fun _ => ?_)
  refine g_pc (pc' := 21) rfl ?_
  refine g_aload_n hK dX4_init_21 1 rfl rfl ?_
  refine g_getR (r := 13) hK fl_X4_11 dX4_init_22 (by decide +kernel) (by decide) (by decide +kernel) rfl ?_
  refine g_iload_n hK dX4_init_25 0 rfl rfl ?_
  refine g_new hK zclX7 ck_X4_9 nw_X7 in_X7 dX4_init_26 (by decide +kernel) zdfX7 (by omega) (okc oki (okc (okr (by omega)) okn)) (oksc oki (oksc (okr (by omega)) oksn)) (by decide) (by decide) ?_
  refine g_dup hK dX4_init_29 rfl ?_
  refine g_call hK (c_X7_init (o := 18) (n := 19) (G := (pR (q_X7_init 14 15 (pR G 12 0 13)) 13 0 14)) (by decide +kernel) (by decide) (by decide) (by decide +kernel) (by decide +kernel) (by decide +kernel) (by decide +kernel) (by decide +kernel) (by decide +kernel)) dX4_init_30 rfl ml_X4_15 mi_X7_init in_X7 mc_X7_init hy_X7_init ⟨by decide, by decide⟩ ⟨by decide, by decide⟩ (okc oki (okc (okr (by omega)) okn)) (oksc (okr (by omega)) (oksc oki (oksc (okr (by omega)) oksn))) rfl (Nat.le_of_ble_eq_true rfl) ?_
  refine g_aast (N1 := 16) hK dX4_init_33 (by decide +kernel) (by decide) (by decide +kernel) (by decide +kernel) (by decide) (by decide) tn_1 ?_
  refine g_iinc hK (L' := [(1, .int (2 : Int32)), (0, .ref 12)]) dX4_init_34 0 rfl (by decide) (by decide) rfl ?_
  refine g_pc (pc' := 37) rfl ?_
  refine g_goto hK 15 dX4_init_37 (by decide) ?_
  refine g_iload_n hK dX4_init_15 0 rfl rfl ?_
  refine g_bipush hK (16 : Int32) dX4_init_16 bi_16 ?_
  refine g_icmp_ge hK 40 dX4_init_18 (by decide) (fun h => absurd h (by decide)) (fun _ => ?_)
  refine g_aload_n hK dX4_init_21 1 rfl rfl ?_
  refine g_getR (r := 13) hK fl_X4_11 dX4_init_22 (by decide +kernel) (by decide) (by decide +kernel) rfl ?_
  refine g_iload_n hK dX4_init_25 0 rfl rfl ?_
  refine g_new hK zclX7 ck_X4_9 nw_X7 in_X7 dX4_init_26 (by decide +kernel) zdfX7 (by omega) (okc oki (okc (okr (by omega)) okn)) (oksc oki (oksc (okr (by omega)) oksn)) (by decide) (by decide) ?_
  refine g_pc (pc' := 29) rfl ?_
  refine g_dup hK dX4_init_29 rfl ?_
  refine g_call hK (c_X7_init (o := 22) (n := 23) (G := (pR (q_X7_init 18 19 (pR (q_X7_init 14 15 (pR G 12 0 13)) 13 0 14)) 13 1 18)) (by decide +kernel) (by decide) (by decide) (by decide +kernel) (by decide +kernel) (by decide +kernel) (by decide +kernel) (by decide +kernel) (by decide +kernel)) dX4_init_30 rfl ml_X4_15 mi_X7_init in_X7 mc_X7_init hy_X7_init ⟨by decide, by decide⟩ ⟨by decide, by decide⟩ (okc oki (okc (okr (by omega)) okn)) (oksc (okr (by omega)) (oksc oki (oksc (okr (by omega)) oksn))) rfl (Nat.le_of_ble_eq_true rfl) ?_
  refine g_aast (N1 := 16) hK dX4_init_33 (by decide +kernel) (by decide) (by decide +kernel) (by decide +kernel) (by decide) (by decide) tn_2 ?_
  refine g_iinc hK (L' := [(1, .int (3 : Int32)), (0, .ref 12)]) dX4_init_34 0 rfl (by decide) (by decide) rfl ?_
  refine g_goto hK 15 dX4_init_37 (by decide) ?_
  refine g_iload_n hK dX4_init_15 0 rfl rfl ?_
  refine g_bipush hK (16 : Int32) dX4_init_16 bi_16 ?_
  refine g_icmp_ge hK 40 dX4_init_18 (by decide) (fun h => absurd h (by decide)) (fun _ => ?_)
  refine g_pc (pc' := 21) rfl ?_
  refine g_aload_n hK dX4_init_21 1 rfl rfl ?_
  refine g_getR (r := 13) hK fl_X4_11 dX4_init_22 (by decide +kernel) (by decide) (by decide +kernel) rfl ?_
  refine g_iload_n hK dX4_init_25 0 rfl rfl ?_
  refine g_new hK zclX7 ck_X4_9 nw_X7 in_X7 dX4_init_26 (by decide +kernel) zdfX7 (by omega) (okc oki (okc (okr (by omega)) okn)) (oksc oki (oksc (okr (by omega)) oksn)) (by decide) (by decide) ?_
  refine g_dup hK dX4_init_29 rfl ?_
  refine g_call hK (c_X7_init (o := 26) (n := 27) (G := (pR (q_X7_init 22 23 (pR (q_X7_init 18 19 (pR (q_X7_init 14 15 (pR G 12 0 13)) 13 0 14)) 13 1 18)) 13 2 22)) (by decide +kernel) (by decide) (by decide) (by decide +kernel) (by decide +kernel) (by decide +kernel) (by decide +kernel) (by decide +kernel) (by decide +kernel)) dX4_init_30 rfl ml_X4_15 mi_X7_init in_X7 mc_X7_init hy_X7_init ⟨by decide, by decide⟩ ⟨by decide, by decide⟩ (okc oki (okc (okr (by omega)) okn)) (oksc (okr (by omega)) (oksc oki (oksc (okr (by omega)) oksn))) rfl (Nat.le_of_ble_eq_true rfl) ?_
  refine g_aast (N1 := 16) hK dX4_init_33 (by decide +kernel) (by decide) (by decide +kernel) (by decide +kernel) (by decide) (by decide) tn_3 ?_
  refine g_iinc hK (L' := [(1, .int (4 : Int32)), (0, .ref 12)]) dX4_init_34 0 rfl (by decide) (by decide) rfl ?_
  refine g_pc (pc' := 37) rfl ?_
  refine g_goto hK 15 dX4_init_37 (by decide) ?_
  refine g_iload_n hK dX4_init_15 0 rfl rfl ?_
  refine g_bipush hK (16 : Int32) dX4_init_16 bi_16 ?_
  refine g_icmp_ge hK 40 dX4_init_18 (by decide) (fun h => absurd h (by decide)) (fun _ => ?_)
  refine g_aload_n hK dX4_init_21 1 rfl rfl ?_
  refine g_getR (r := 13) hK fl_X4_11 dX4_init_22 (by decide +kernel) (by decide) (by decide +kernel) rfl ?_
  refine g_iload_n hK dX4_init_25 0 rfl rfl ?_
  refine g_new hK zclX7 ck_X4_9 nw_X7 in_X7 dX4_init_26 (by decide +kernel) zdfX7 (by omega) (okc oki (okc (okr (by omega)) okn)) (oksc oki (oksc (okr (by omega)) oksn)) (by decide) (by decide) ?_
  refine g_pc (pc' := 29) rfl ?_
  refine g_dup hK dX4_init_29 rfl ?_
  refine g_call hK (c_X7_init (o := 30) (n := 31) (G := (pR (q_X7_init 26 27 (pR (q_X7_init 22 23 (pR (q_X7_init 18 19 (pR (q_X7_init 14 15 (pR G 12 0 13)) 13 0 14)) 13 1 18)) 13 2 22)) 13 3 26)) (by decide +kernel) (by decide) (by decide) (by decide +kernel) (by decide +kernel) (by decide +kernel) (by decide +kernel) (by decide +kernel) (by decide +kernel)) dX4_init_30 rfl ml_X4_15 mi_X7_init in_X7 mc_X7_init hy_X7_init ⟨by decide, by decide⟩ ⟨by decide, by decide⟩ (okc oki (okc (okr (by omega)) okn)) (oksc (okr (by omega)) (oksc oki (oksc (okr (by omega)) oksn))) rfl (Nat.le_of_ble_eq_true rfl) ?_
  refine g_aast (N1 := 16) hK dX4_init_33 (by decide +kernel) (by decide) (by decide +kernel) (by decide +kernel) (by decide) (by decide) tn_4 ?_
  refine g_iinc hK (L' := [(1, .int (5 : Int32)), (0, .ref 12)]) dX4_init_34 0 rfl (by decide) (by decide) rfl ?_
  refine g_goto hK 15 dX4_init_37 (by decide) ?_
  refine g_iload_n hK dX4_init_15 0 rfl rfl ?_
  refine g_bipush hK (16 : Int32) dX4_init_16 bi_16 ?_
  refine g_icmp_ge hK 40 dX4_init_18 (by decide) (fun h => absurd h (by decide)) (fun _ => ?_)
  refine g_pc (pc' := 21) rfl ?_
  refine g_aload_n hK dX4_init_21 1 rfl rfl ?_
  refine g_getR (r := 13) hK fl_X4_11 dX4_init_22 (by decide +kernel) (by decide) (by decide +kernel) rfl ?_
  refine g_iload_n hK dX4_init_25 0 rfl rfl ?_
  refine g_new hK zclX7 ck_X4_9 nw_X7 in_X7 dX4_init_26 (by decide +kernel) zdfX7 (by omega) (okc oki (okc (okr (by omega)) okn)) (oksc oki (oksc (okr (by omega)) oksn)) (by decide) (by decide) ?_
  refine g_dup hK dX4_init_29 rfl ?_
  refine g_call hK (c_X7_init (o := 34) (n := 35) (G := (pR (q_X7_init 30 31 (pR (q_X7_init 26 27 (pR (q_X7_init 22 23 (pR (q_X7_init 18 19 (pR (q_X7_init 14 15 (pR G 12 0 13)) 13 0 14)) 13 1 18)) 13 2 22)) 13 3 26)) 13 4 30)) (by decide +kernel) (by decide) (by decide) (by decide +kernel) (by decide +kernel) (by decide +kernel) (by decide +kernel) (by decide +kernel) (by decide +kernel)) dX4_init_30 rfl ml_X4_15 mi_X7_init in_X7 mc_X7_init hy_X7_init ⟨by decide, by decide⟩ ⟨by decide, by decide⟩ (okc oki (okc (okr (by omega)) okn)) (oksc (okr (by omega)) (oksc oki (oksc (okr (by omega)) oksn))) rfl (Nat.le_of_ble_eq_true rfl) ?_
  refine g_aast (N1 := 16) hK dX4_init_33 (by decide +kernel) (by decide) (by decide +kernel) (by decide +kernel) (by decide) (by decide) tn_5 ?_
  refine g_iinc hK (L' := [(1, .int (6 : Int32)), (0, .ref 12)]) dX4_init_34 0 rfl (by decide) (by decide) rfl ?_
  refine g_pc (pc' := 37) rfl ?_
  refine g_goto hK 15 dX4_init_37 (by decide) ?_
  refine g_iload_n hK dX4_init_15 0 rfl rfl ?_
  refine g_bipush hK (16 : Int32) dX4_init_16 bi_16 ?_
  refine g_icmp_ge hK 40 dX4_init_18 (by decide) (fun h => absurd h (by decide)) (fun _ => ?_)
  refine g_aload_n hK dX4_init_21 1 rfl rfl ?_
  refine g_getR (r := 13) hK fl_X4_11 dX4_init_22 (by decide +kernel) (by decide) (by decide +kernel) rfl ?_
  refine g_iload_n hK dX4_init_25 0 rfl rfl ?_
  refine g_new hK zclX7 ck_X4_9 nw_X7 in_X7 dX4_init_26 (by decide +kernel) zdfX7 (by omega) (okc oki (okc (okr (by omega)) okn)) (oksc oki (oksc (okr (by omega)) oksn)) (by decide) (by decide) ?_
  refine g_pc (pc' := 29) rfl ?_
  refine g_dup hK dX4_init_29 rfl ?_
  refine g_call hK (c_X7_init (o := 38) (n := 39) (G := (pR (q_X7_init 34 35 (pR (q_X7_init 30 31 (pR (q_X7_init 26 27 (pR (q_X7_init 22 23 (pR (q_X7_init 18 19 (pR (q_X7_init 14 15 (pR G 12 0 13)) 13 0 14)) 13 1 18)) 13 2 22)) 13 3 26)) 13 4 30)) 13 5 34)) (by decide +kernel) (by decide) (by decide) (by decide +kernel) (by decide +kernel) (by decide +kernel) (by decide +kernel) (by decide +kernel) (by decide +kernel)) dX4_init_30 rfl ml_X4_15 mi_X7_init in_X7 mc_X7_init hy_X7_init ⟨by decide, by decide⟩ ⟨by decide, by decide⟩ (okc oki (okc (okr (by omega)) okn)) (oksc (okr (by omega)) (oksc oki (oksc (okr (by omega)) oksn))) rfl (Nat.le_of_ble_eq_true rfl) ?_
  refine g_aast (N1 := 16) hK dX4_init_33 (by decide +kernel) (by decide) (by decide +kernel) (by decide +kernel) (by decide) (by decide) tn_6 ?_
  refine g_iinc hK (L' := [(1, .int (7 : Int32)), (0, .ref 12)]) dX4_init_34 0 rfl (by decide) (by decide) rfl ?_
  refine g_goto hK 15 dX4_init_37 (by decide) ?_
  refine g_iload_n hK dX4_init_15 0 rfl rfl ?_
  refine g_bipush hK (16 : Int32) dX4_init_16 bi_16 ?_
  refine g_icmp_ge hK 40 dX4_init_18 (by decide) (fun h => absurd h (by decide)) (fun _ => ?_)
  refine g_pc (pc' := 21) rfl ?_
  refine g_aload_n hK dX4_init_21 1 rfl rfl ?_
  refine g_getR (r := 13) hK fl_X4_11 dX4_init_22 (by decide +kernel) (by decide) (by decide +kernel) rfl ?_
  refine g_iload_n hK dX4_init_25 0 rfl rfl ?_
  refine g_new hK zclX7 ck_X4_9 nw_X7 in_X7 dX4_init_26 (by decide +kernel) zdfX7 (by omega) (okc oki (okc (okr (by omega)) okn)) (oksc oki (oksc (okr (by omega)) oksn)) (by decide) (by decide) ?_
  refine g_dup hK dX4_init_29 rfl ?_
  refine g_call hK (c_X7_init (o := 42) (n := 43) (G := (pR (q_X7_init 38 39 (pR (q_X7_init 34 35 (pR (q_X7_init 30 31 (pR (q_X7_init 26 27 (pR (q_X7_init 22 23 (pR (q_X7_init 18 19 (pR (q_X7_init 14 15 (pR G 12 0 13)) 13 0 14)) 13 1 18)) 13 2 22)) 13 3 26)) 13 4 30)) 13 5 34)) 13 6 38)) (by decide +kernel) (by decide) (by decide) (by decide +kernel) (by decide +kernel) (by decide +kernel) (by decide +kernel) (by decide +kernel) (by decide +kernel)) dX4_init_30 rfl ml_X4_15 mi_X7_init in_X7 mc_X7_init hy_X7_init ⟨by decide, by decide⟩ ⟨by decide, by decide⟩ (okc oki (okc (okr (by omega)) okn)) (oksc (okr (by omega)) (oksc oki (oksc (okr (by omega)) oksn))) rfl (Nat.le_of_ble_eq_true rfl) ?_
  refine g_aast (N1 := 16) hK dX4_init_33 (by decide +kernel) (by decide) (by decide +kernel) (by decide +kernel) (by decide) (by decide) tn_7 ?_
  refine g_iinc hK (L' := [(1, .int (8 : Int32)), (0, .ref 12)]) dX4_init_34 0 rfl (by decide) (by decide) rfl ?_
  refine g_pc (pc' := 37) rfl ?_
  refine g_goto hK 15 dX4_init_37 (by decide) ?_
  refine g_iload_n hK dX4_init_15 0 rfl rfl ?_
  refine g_bipush hK (16 : Int32) dX4_init_16 bi_16 ?_
  refine g_icmp_ge hK 40 dX4_init_18 (by decide) (fun h => absurd h (by decide)) (fun _ => ?_)
  refine g_aload_n hK dX4_init_21 1 rfl rfl ?_
  refine g_getR (r := 13) hK fl_X4_11 dX4_init_22 (by decide +kernel) (by decide) (by decide +kernel) rfl ?_
  refine g_iload_n hK dX4_init_25 0 rfl rfl ?_
  refine g_new hK zclX7 ck_X4_9 nw_X7 in_X7 dX4_init_26 (by decide +kernel) zdfX7 (by omega) (okc oki (okc (okr (by omega)) okn)) (oksc oki (oksc (okr (by omega)) oksn)) (by decide) (by decide) ?_
  refine g_pc (pc' := 29) rfl ?_
  refine g_dup hK dX4_init_29 rfl ?_
  refine g_call hK (c_X7_init (o := 46) (n := 47) (G := (pR (q_X7_init 42 43 (pR (q_X7_init 38 39 (pR (q_X7_init 34 35 (pR (q_X7_init 30 31 (pR (q_X7_init 26 27 (pR (q_X7_init 22 23 (pR (q_X7_init 18 19 (pR (q_X7_init 14 15 (pR G 12 0 13)) 13 0 14)) 13 1 18)) 13 2 22)) 13 3 26)) 13 4 30)) 13 5 34)) 13 6 38)) 13 7 42)) (by decide +kernel) (by decide) (by decide) (by decide +kernel) (by decide +kernel) (by decide +kernel) (by decide +kernel) (by decide +kernel) (by decide +kernel)) dX4_init_30 rfl ml_X4_15 mi_X7_init in_X7 mc_X7_init hy_X7_init ⟨by decide, by decide⟩ ⟨by decide, by decide⟩ (okc oki (okc (okr (by omega)) okn)) (oksc (okr (by omega)) (oksc oki (oksc (okr (by omega)) oksn))) rfl (Nat.le_of_ble_eq_true rfl) ?_
  refine g_aast (N1 := 16) hK dX4_init_33 (by decide +kernel) (by decide) (by decide +kernel) (by decide +kernel) (by decide) (by decide) tn_8 ?_
  refine g_iinc hK (L' := [(1, .int (9 : Int32)), (0, .ref 12)]) dX4_init_34 0 rfl (by decide) (by decide) rfl ?_
  refine g_goto hK 15 dX4_init_37 (by decide) ?_
  refine g_iload_n hK dX4_init_15 0 rfl rfl ?_
  refine g_bipush hK (16 : Int32) dX4_init_16 bi_16 ?_
  refine g_icmp_ge hK 40 dX4_init_18 (by decide) (fun h => absurd h (by decide)) (fun _ => ?_)
  refine g_pc (pc' := 21) rfl ?_
  refine g_aload_n hK dX4_init_21 1 rfl rfl ?_
  refine g_getR (r := 13) hK fl_X4_11 dX4_init_22 (by decide +kernel) (by decide) (by decide +kernel) rfl ?_
  refine g_iload_n hK dX4_init_25 0 rfl rfl ?_
  refine g_new hK zclX7 ck_X4_9 nw_X7 in_X7 dX4_init_26 (by decide +kernel) zdfX7 (by omega) (okc oki (okc (okr (by omega)) okn)) (oksc oki (oksc (okr (by omega)) oksn)) (by decide) (by decide) ?_
  refine g_dup hK dX4_init_29 rfl ?_
  refine g_call hK (c_X7_init (o := 50) (n := 51) (G := (pR (q_X7_init 46 47 (pR (q_X7_init 42 43 (pR (q_X7_init 38 39 (pR (q_X7_init 34 35 (pR (q_X7_init 30 31 (pR (q_X7_init 26 27 (pR (q_X7_init 22 23 (pR (q_X7_init 18 19 (pR (q_X7_init 14 15 (pR G 12 0 13)) 13 0 14)) 13 1 18)) 13 2 22)) 13 3 26)) 13 4 30)) 13 5 34)) 13 6 38)) 13 7 42)) 13 8 46)) (by decide +kernel) (by decide) (by decide) (by decide +kernel) (by decide +kernel) (by decide +kernel) (by decide +kernel) (by decide +kernel) (by decide +kernel)) dX4_init_30 rfl ml_X4_15 mi_X7_init in_X7 mc_X7_init hy_X7_init ⟨by decide, by decide⟩ ⟨by decide, by decide⟩ (okc oki (okc (okr (by omega)) okn)) (oksc (okr (by omega)) (oksc oki (oksc (okr (by omega)) oksn))) rfl (Nat.le_of_ble_eq_true rfl) ?_
  refine g_aast (N1 := 16) hK dX4_init_33 (by decide +kernel) (by decide) (by decide +kernel) (by decide +kernel) (by decide) (by decide) tn_9 ?_
  refine g_iinc hK (L' := [(1, .int (10 : Int32)), (0, .ref 12)]) dX4_init_34 0 rfl (by decide) (by decide) rfl ?_
  refine g_pc (pc' := 37) rfl ?_
  refine g_goto hK 15 dX4_init_37 (by decide) ?_
  refine g_iload_n hK dX4_init_15 0 rfl rfl ?_
  refine g_bipush hK (16 : Int32) dX4_init_16 bi_16 ?_
  refine g_icmp_ge hK 40 dX4_init_18 (by decide) (fun h => absurd h (by decide)) (fun _ => ?_)
  refine g_aload_n hK dX4_init_21 1 rfl rfl ?_
  refine g_getR (r := 13) hK fl_X4_11 dX4_init_22 (by decide +kernel) (by decide) (by decide +kernel) rfl ?_
  refine g_iload_n hK dX4_init_25 0 rfl rfl ?_
  refine g_new hK zclX7 ck_X4_9 nw_X7 in_X7 dX4_init_26 (by decide +kernel) zdfX7 (by omega) (okc oki (okc (okr (by omega)) okn)) (oksc oki (oksc (okr (by omega)) oksn)) (by decide) (by decide) ?_
  refine g_pc (pc' := 29) rfl ?_
  refine g_dup hK dX4_init_29 rfl ?_
  refine g_call hK (c_X7_init (o := 54) (n := 55) (G := (pR (q_X7_init 50 51 (pR (q_X7_init 46 47 (pR (q_X7_init 42 43 (pR (q_X7_init 38 39 (pR (q_X7_init 34 35 (pR (q_X7_init 30 31 (pR (q_X7_init 26 27 (pR (q_X7_init 22 23 (pR (q_X7_init 18 19 (pR (q_X7_init 14 15 (pR G 12 0 13)) 13 0 14)) 13 1 18)) 13 2 22)) 13 3 26)) 13 4 30)) 13 5 34)) 13 6 38)) 13 7 42)) 13 8 46)) 13 9 50)) (by decide +kernel) (by decide) (by decide) (by decide +kernel) (by decide +kernel) (by decide +kernel) (by decide +kernel) (by decide +kernel) (by decide +kernel)) dX4_init_30 rfl ml_X4_15 mi_X7_init in_X7 mc_X7_init hy_X7_init ⟨by decide, by decide⟩ ⟨by decide, by decide⟩ (okc oki (okc (okr (by omega)) okn)) (oksc (okr (by omega)) (oksc oki (oksc (okr (by omega)) oksn))) rfl (Nat.le_of_ble_eq_true rfl) ?_
  refine g_aast (N1 := 16) hK dX4_init_33 (by decide +kernel) (by decide) (by decide +kernel) (by decide +kernel) (by decide) (by decide) tn_10 ?_
  refine g_iinc hK (L' := [(1, .int (11 : Int32)), (0, .ref 12)]) dX4_init_34 0 rfl (by decide) (by decide) rfl ?_
  refine g_goto hK 15 dX4_init_37 (by decide) ?_
  refine g_iload_n hK dX4_init_15 0 rfl rfl ?_
  refine g_bipush hK (16 : Int32) dX4_init_16 bi_16 ?_
  refine g_icmp_ge hK 40 dX4_init_18 (by decide) (fun h => absurd h (by decide)) (fun _ => ?_)
  refine g_pc (pc' := 21) rfl ?_
  refine g_aload_n hK dX4_init_21 1 rfl rfl ?_
  refine g_getR (r := 13) hK fl_X4_11 dX4_init_22 (by decide +kernel) (by decide) (by decide +kernel) rfl ?_
  refine g_iload_n hK dX4_init_25 0 rfl rfl ?_
  refine g_new hK zclX7 ck_X4_9 nw_X7 in_X7 dX4_init_26 (by decide +kernel) zdfX7 (by omega) (okc oki (okc (okr (by omega)) okn)) (oksc oki (oksc (okr (by omega)) oksn)) (by decide) (by decide) ?_
  refine g_dup hK dX4_init_29 rfl ?_
  refine g_call hK (c_X7_init (o := 58) (n := 59) (G := (pR (q_X7_init 54 55 (pR (q_X7_init 50 51 (pR (q_X7_init 46 47 (pR (q_X7_init 42 43 (pR (q_X7_init 38 39 (pR (q_X7_init 34 35 (pR (q_X7_init 30 31 (pR (q_X7_init 26 27 (pR (q_X7_init 22 23 (pR (q_X7_init 18 19 (pR (q_X7_init 14 15 (pR G 12 0 13)) 13 0 14)) 13 1 18)) 13 2 22)) 13 3 26)) 13 4 30)) 13 5 34)) 13 6 38)) 13 7 42)) 13 8 46)) 13 9 50)) 13 10 54)) (by decide +kernel) (by decide) (by decide) (by decide +kernel) (by decide +kernel) (by decide +kernel) (by decide +kernel) (by decide +kernel) (by decide +kernel)) dX4_init_30 rfl ml_X4_15 mi_X7_init in_X7 mc_X7_init hy_X7_init ⟨by decide, by decide⟩ ⟨by decide, by decide⟩ (okc oki (okc (okr (by omega)) okn)) (oksc (okr (by omega)) (oksc oki (oksc (okr (by omega)) oksn))) rfl (Nat.le_of_ble_eq_true rfl) ?_
  refine g_aast (N1 := 16) hK dX4_init_33 (by decide +kernel) (by decide) (by decide +kernel) (by decide +kernel) (by decide) (by decide) tn_11 ?_
  refine g_iinc hK (L' := [(1, .int (12 : Int32)), (0, .ref 12)]) dX4_init_34 0 rfl (by decide) (by decide) rfl ?_
  refine g_pc (pc' := 37) rfl ?_
  refine g_goto hK 15 dX4_init_37 (by decide) ?_
  refine g_iload_n hK dX4_init_15 0 rfl rfl ?_
  refine g_bipush hK (16 : Int32) dX4_init_16 bi_16 ?_
  refine g_icmp_ge hK 40 dX4_init_18 (by decide) (fun h => absurd h (by decide)) (fun _ => ?_)
  refine g_aload_n hK dX4_init_21 1 rfl rfl ?_
  refine g_getR (r := 13) hK fl_X4_11 dX4_init_22 (by decide +kernel) (by decide) (by decide +kernel) rfl ?_
  refine g_iload_n hK dX4_init_25 0 rfl rfl ?_
  refine g_new hK zclX7 ck_X4_9 nw_X7 in_X7 dX4_init_26 (by decide +kernel) zdfX7 (by omega) (okc oki (okc (okr (by omega)) okn)) (oksc oki (oksc (okr (by omega)) oksn)) (by decide) (by decide) ?_
  refine g_pc (pc' := 29) rfl ?_
  refine g_dup hK dX4_init_29 rfl ?_
  refine g_call hK (c_X7_init (o := 62) (n := 63) (G := (pR (q_X7_init 58 59 (pR (q_X7_init 54 55 (pR (q_X7_init 50 51 (pR (q_X7_init 46 47 (pR (q_X7_init 42 43 (pR (q_X7_init 38 39 (pR (q_X7_init 34 35 (pR (q_X7_init 30 31 (pR (q_X7_init 26 27 (pR (q_X7_init 22 23 (pR (q_X7_init 18 19 (pR (q_X7_init 14 15 (pR G 12 0 13)) 13 0 14)) 13 1 18)) 13 2 22)) 13 3 26)) 13 4 30)) 13 5 34)) 13 6 38)) 13 7 42)) 13 8 46)) 13 9 50)) 13 10 54)) 13 11 58)) (by decide +kernel) (by decide) (by decide) (by decide +kernel) (by decide +kernel) (by decide +kernel) (by decide +kernel) (by decide +kernel) (by decide +kernel)) dX4_init_30 rfl ml_X4_15 mi_X7_init in_X7 mc_X7_init hy_X7_init ⟨by decide, by decide⟩ ⟨by decide, by decide⟩ (okc oki (okc (okr (by omega)) okn)) (oksc (okr (by omega)) (oksc oki (oksc (okr (by omega)) oksn))) rfl (Nat.le_of_ble_eq_true rfl) ?_
  refine g_aast (N1 := 16) hK dX4_init_33 (by decide +kernel) (by decide) (by decide +kernel) (by decide +kernel) (by decide) (by decide) tn_12 ?_
  refine g_iinc hK (L' := [(1, .int (13 : Int32)), (0, .ref 12)]) dX4_init_34 0 rfl (by decide) (by decide) rfl ?_
  refine g_goto hK 15 dX4_init_37 (by decide) ?_
  refine g_iload_n hK dX4_init_15 0 rfl rfl ?_
  refine g_bipush hK (16 : Int32) dX4_init_16 bi_16 ?_
  refine g_icmp_ge hK 40 dX4_init_18 (by decide) (fun h => absurd h (by decide)) (fun _ => ?_)
  refine g_pc (pc' := 21) rfl ?_
  refine g_aload_n hK dX4_init_21 1 rfl rfl ?_
  refine g_getR (r := 13) hK fl_X4_11 dX4_init_22 (by decide +kernel) (by decide) (by decide +kernel) rfl ?_
  refine g_iload_n hK dX4_init_25 0 rfl rfl ?_
  refine g_new hK zclX7 ck_X4_9 nw_X7 in_X7 dX4_init_26 (by decide +kernel) zdfX7 (by omega) (okc oki (okc (okr (by omega)) okn)) (oksc oki (oksc (okr (by omega)) oksn)) (by decide) (by decide) ?_
  refine g_dup hK dX4_init_29 rfl ?_
  refine g_call hK (c_X7_init (o := 66) (n := 67) (G := (pR (q_X7_init 62 63 (pR (q_X7_init 58 59 (pR (q_X7_init 54 55 (pR (q_X7_init 50 51 (pR (q_X7_init 46 47 (pR (q_X7_init 42 43 (pR (q_X7_init 38 39 (pR (q_X7_init 34 35 (pR (q_X7_init 30 31 (pR (q_X7_init 26 27 (pR (q_X7_init 22 23 (pR (q_X7_init 18 19 (pR (q_X7_init 14 15 (pR G 12 0 13)) 13 0 14)) 13 1 18)) 13 2 22)) 13 3 26)) 13 4 30)) 13 5 34)) 13 6 38)) 13 7 42)) 13 8 46)) 13 9 50)) 13 10 54)) 13 11 58)) 13 12 62)) (by decide +kernel) (by decide) (by decide) (by decide +kernel) (by decide +kernel) (by decide +kernel) (by decide +kernel) (by decide +kernel) (by decide +kernel)) dX4_init_30 rfl ml_X4_15 mi_X7_init in_X7 mc_X7_init hy_X7_init ⟨by decide, by decide⟩ ⟨by decide, by decide⟩ (okc oki (okc (okr (by omega)) okn)) (oksc (okr (by omega)) (oksc oki (oksc (okr (by omega)) oksn))) rfl (Nat.le_of_ble_eq_true rfl) ?_
  refine g_aast (N1 := 16) hK dX4_init_33 (by decide +kernel) (by decide) (by decide +kernel) (by decide +kernel) (by decide) (by decide) tn_13 ?_
  refine g_iinc hK (L' := [(1, .int (14 : Int32)), (0, .ref 12)]) dX4_init_34 0 rfl (by decide) (by decide) rfl ?_
  refine g_pc (pc' := 37) rfl ?_
  refine g_goto hK 15 dX4_init_37 (by decide) ?_
  refine g_iload_n hK dX4_init_15 0 rfl rfl ?_
  refine g_bipush hK (16 : Int32) dX4_init_16 bi_16 ?_
  refine g_icmp_ge hK 40 dX4_init_18 (by decide) (fun h => absurd h (by decide)) (fun _ => ?_)
  refine g_aload_n hK dX4_init_21 1 rfl rfl ?_
  refine g_getR (r := 13) hK fl_X4_11 dX4_init_22 (by decide +kernel) (by decide) (by decide +kernel) rfl ?_
  refine g_iload_n hK dX4_init_25 0 rfl rfl ?_
  refine g_new hK zclX7 ck_X4_9 nw_X7 in_X7 dX4_init_26 (by decide +kernel) zdfX7 (by omega) (okc oki (okc (okr (by omega)) okn)) (oksc oki (oksc (okr (by omega)) oksn)) (by decide) (by decide) ?_
  refine g_pc (pc' := 29) rfl ?_
  refine g_dup hK dX4_init_29 rfl ?_
  refine g_call hK (c_X7_init (o := 70) (n := 71) (G := (pR (q_X7_init 66 67 (pR (q_X7_init 62 63 (pR (q_X7_init 58 59 (pR (q_X7_init 54 55 (pR (q_X7_init 50 51 (pR (q_X7_init 46 47 (pR (q_X7_init 42 43 (pR (q_X7_init 38 39 (pR (q_X7_init 34 35 (pR (q_X7_init 30 31 (pR (q_X7_init 26 27 (pR (q_X7_init 22 23 (pR (q_X7_init 18 19 (pR (q_X7_init 14 15 (pR G 12 0 13)) 13 0 14)) 13 1 18)) 13 2 22)) 13 3 26)) 13 4 30)) 13 5 34)) 13 6 38)) 13 7 42)) 13 8 46)) 13 9 50)) 13 10 54)) 13 11 58)) 13 12 62)) 13 13 66)) (by decide +kernel) (by decide) (by decide) (by decide +kernel) (by decide +kernel) (by decide +kernel) (by decide +kernel) (by decide +kernel) (by decide +kernel)) dX4_init_30 rfl ml_X4_15 mi_X7_init in_X7 mc_X7_init hy_X7_init ⟨by decide, by decide⟩ ⟨by decide, by decide⟩ (okc oki (okc (okr (by omega)) okn)) (oksc (okr (by omega)) (oksc oki (oksc (okr (by omega)) oksn))) rfl (Nat.le_of_ble_eq_true rfl) ?_
  refine g_aast (N1 := 16) hK dX4_init_33 (by decide +kernel) (by decide) (by decide +kernel) (by decide +kernel) (by decide) (by decide) tn_14 ?_
  refine g_iinc hK (L' := [(1, .int (15 : Int32)), (0, .ref 12)]) dX4_init_34 0 rfl (by decide) (by decide) rfl ?_
  refine g_goto hK 15 dX4_init_37 (by decide) ?_
  refine g_iload_n hK dX4_init_15 0 rfl rfl ?_
  refine g_bipush hK (16 : Int32) dX4_init_16 bi_16 ?_
  refine g_icmp_ge hK 40 dX4_init_18 (by decide) (fun h => absurd h (by decide)) (fun _ => ?_)
  refine g_pc (pc' := 21) rfl ?_
  refine g_aload_n hK dX4_init_21 1 rfl rfl ?_
  refine g_getR (r := 13) hK fl_X4_11 dX4_init_22 (by decide +kernel) (by decide) (by decide +kernel) rfl ?_
  refine g_iload_n hK dX4_init_25 0 rfl rfl ?_
  refine g_new hK zclX7 ck_X4_9 nw_X7 in_X7 dX4_init_26 (by decide +kernel) zdfX7 (by omega) (okc oki (okc (okr (by omega)) okn)) (oksc oki (oksc (okr (by omega)) oksn)) (by decide) (by decide) ?_
  refine g_dup hK dX4_init_29 rfl ?_
  refine g_call hK (c_X7_init (o := 74) (n := 75) (G := (pR (q_X7_init 70 71 (pR (q_X7_init 66 67 (pR (q_X7_init 62 63 (pR (q_X7_init 58 59 (pR (q_X7_init 54 55 (pR (q_X7_init 50 51 (pR (q_X7_init 46 47 (pR (q_X7_init 42 43 (pR (q_X7_init 38 39 (pR (q_X7_init 34 35 (pR (q_X7_init 30 31 (pR (q_X7_init 26 27 (pR (q_X7_init 22 23 (pR (q_X7_init 18 19 (pR (q_X7_init 14 15 (pR G 12 0 13)) 13 0 14)) 13 1 18)) 13 2 22)) 13 3 26)) 13 4 30)) 13 5 34)) 13 6 38)) 13 7 42)) 13 8 46)) 13 9 50)) 13 10 54)) 13 11 58)) 13 12 62)) 13 13 66)) 13 14 70)) (by decide +kernel) (by decide) (by decide) (by decide +kernel) (by decide +kernel) (by decide +kernel) (by decide +kernel) (by decide +kernel) (by decide +kernel)) dX4_init_30 rfl ml_X4_15 mi_X7_init in_X7 mc_X7_init hy_X7_init ⟨by decide, by decide⟩ ⟨by decide, by decide⟩ (okc oki (okc (okr (by omega)) okn)) (oksc (okr (by omega)) (oksc oki (oksc (okr (by omega)) oksn))) rfl (Nat.le_of_ble_eq_true rfl) ?_
  refine g_aast (N1 := 16) hK dX4_init_33 (by decide +kernel) (by decide) (by decide +kernel) (by decide +kernel) (by decide) (by decide) tn_15 ?_
  refine g_iinc hK (L' := [(1, .int (16 : Int32)), (0, .ref 12)]) dX4_init_34 0 rfl (by decide) (by decide) rfl ?_
  refine g_pc (pc' := 37) rfl ?_
  refine g_goto hK 15 dX4_init_37 (by decide) ?_
  refine g_iload_n hK dX4_init_15 0 rfl rfl ?_
  refine g_bipush hK (16 : Int32) dX4_init_16 bi_16 ?_
  refine g_icmp_ge hK 40 dX4_init_18 (by decide) (fun _ => ?_) (fun h => absurd (by decide) h)
  refine g_aload_n hK dX4_init_40 1 rfl rfl ?_
  refine g_iconst hK (0 : Int32) dX4_init_41 ic_0 ?_
  refine g_putI hK hI fl_X4_16 dX4_init_42 (by decide +kernel) (by decide) (by decide +kernel) rfl rfl ?_
  refine g_aload_n hK dX4_init_45 1 rfl rfl ?_
  refine g_pc (pc' := 46) rfl ?_
  refine g_iconst hK (0 : Int32) dX4_init_46 ic_0 ?_
  refine g_putI hK hI fl_X4_20 dX4_init_47 (by decide +kernel) (by decide) (by decide +kernel) rfl rfl ?_
  refine g_aload_n hK dX4_init_50 1 rfl rfl ?_
  refine g_iconst hK (3 : Int32) dX4_init_51 ic_3 ?_
  refine g_anew hK ck_X4_9 dX4_init_52 (by decide +kernel) (by decide +kernel) (by decide) tn_3 (by decide) (by omega) (okc oki (okc (okr (by omega)) okn)) (oksc (okr (by omega)) oksn) (by decide) (by decide) ?_
  refine g_putR hK hI fl_X4_23 (fun _ C T N h => by cases h; rfl) dX4_init_55 (by decide +kernel) (by decide) (by decide) (by decide +kernel) (fun _ => rfl) (fun _ => rfl) ?_
  refine g_iconst hK (0 : Int32) dX4_init_58 ic_0 ?_
  refine g_istore_n hK (L' := [(1, .int (0 : Int32)), (0, .ref 12)]) dX4_init_59 rfl (by decide) rfl ?_
  refine g_pc (pc' := 60) rfl ?_
  refine g_iload_n hK dX4_init_60 0 rfl rfl ?_
  refine g_iconst hK (3 : Int32) dX4_init_61 ic_3 ?_
  refine g_icmp_ge hK 84 dX4_init_62 (by decide) (fun h => absurd h (by decide)) (fun _ => ?_)
  refine g_aload_n hK dX4_init_65 1 rfl rfl ?_
  refine g_getR (r := 78) hK fl_X4_23 dX4_init_66 (by decide +kernel) (by decide) (by decide +kernel) rfl ?_
  refine g_iload_n hK dX4_init_69 0 rfl rfl ?_
  refine g_new hK zclX7 ck_X4_9 nw_X7 in_X7 dX4_init_70 (by decide +kernel) zdfX7 (by omega) (okc oki (okc (okr (by omega)) okn)) (oksc oki (oksc (okr (by omega)) oksn)) (by decide) (by decide) ?_
  refine g_dup hK dX4_init_73 rfl ?_
  refine g_pc (pc' := 74) rfl ?_
  refine g_call hK (c_X7_init (o := 79) (n := 80) (G := (pR (pI (pI (pR (q_X7_init 74 75 (pR (q_X7_init 70 71 (pR (q_X7_init 66 67 (pR (q_X7_init 62 63 (pR (q_X7_init 58 59 (pR (q_X7_init 54 55 (pR (q_X7_init 50 51 (pR (q_X7_init 46 47 (pR (q_X7_init 42 43 (pR (q_X7_init 38 39 (pR (q_X7_init 34 35 (pR (q_X7_init 30 31 (pR (q_X7_init 26 27 (pR (q_X7_init 22 23 (pR (q_X7_init 18 19 (pR (q_X7_init 14 15 (pR G 12 0 13)) 13 0 14)) 13 1 18)) 13 2 22)) 13 3 26)) 13 4 30)) 13 5 34)) 13 6 38)) 13 7 42)) 13 8 46)) 13 9 50)) 13 10 54)) 13 11 58)) 13 12 62)) 13 13 66)) 13 14 70)) 13 15 74) 12 1 (0 : Int32)) 12 2 (0 : Int32)) 12 3 78)) (by decide +kernel) (by decide) (by decide) (by decide +kernel) (by decide +kernel) (by decide +kernel) (by decide +kernel) (by decide +kernel) (by decide +kernel)) dX4_init_74 rfl ml_X4_15 mi_X7_init in_X7 mc_X7_init hy_X7_init ⟨by decide, by decide⟩ ⟨by decide, by decide⟩ (okc oki (okc (okr (by omega)) okn)) (oksc (okr (by omega)) (oksc oki (oksc (okr (by omega)) oksn))) rfl (Nat.le_of_ble_eq_true rfl) ?_
  refine g_aast (N1 := 3) hK dX4_init_77 (by decide +kernel) (by decide) (by decide +kernel) (by decide +kernel) (by decide) (by decide) tn_0 ?_
  refine g_iinc hK (L' := [(1, .int (1 : Int32)), (0, .ref 12)]) dX4_init_78 0 rfl (by decide) (by decide) rfl ?_
  refine g_goto hK 60 dX4_init_81 (by decide) ?_
  refine g_iload_n hK dX4_init_60 0 rfl rfl ?_
  refine g_iconst hK (3 : Int32) dX4_init_61 ic_3 ?_
  refine g_icmp_ge hK 84 dX4_init_62 (by decide) (fun h => absurd h (by decide)) (fun _ => ?_)
  refine g_aload_n hK dX4_init_65 1 rfl rfl ?_
  refine g_pc (pc' := 66) rfl ?_
  refine g_getR (r := 78) hK fl_X4_23 dX4_init_66 (by decide +kernel) (by decide) (by decide +kernel) rfl ?_
  refine g_iload_n hK dX4_init_69 0 rfl rfl ?_
  refine g_new hK zclX7 ck_X4_9 nw_X7 in_X7 dX4_init_70 (by decide +kernel) zdfX7 (by omega) (okc oki (okc (okr (by omega)) okn)) (oksc oki (oksc (okr (by omega)) oksn)) (by decide) (by decide) ?_
  refine g_dup hK dX4_init_73 rfl ?_
  refine g_call hK (c_X7_init (o := 83) (n := 84) (G := (pR (q_X7_init 79 80 (pR (pI (pI (pR (q_X7_init 74 75 (pR (q_X7_init 70 71 (pR (q_X7_init 66 67 (pR (q_X7_init 62 63 (pR (q_X7_init 58 59 (pR (q_X7_init 54 55 (pR (q_X7_init 50 51 (pR (q_X7_init 46 47 (pR (q_X7_init 42 43 (pR (q_X7_init 38 39 (pR (q_X7_init 34 35 (pR (q_X7_init 30 31 (pR (q_X7_init 26 27 (pR (q_X7_init 22 23 (pR (q_X7_init 18 19 (pR (q_X7_init 14 15 (pR G 12 0 13)) 13 0 14)) 13 1 18)) 13 2 22)) 13 3 26)) 13 4 30)) 13 5 34)) 13 6 38)) 13 7 42)) 13 8 46)) 13 9 50)) 13 10 54)) 13 11 58)) 13 12 62)) 13 13 66)) 13 14 70)) 13 15 74) 12 1 (0 : Int32)) 12 2 (0 : Int32)) 12 3 78)) 78 0 79)) (by decide +kernel) (by decide) (by decide) (by decide +kernel) (by decide +kernel) (by decide +kernel) (by decide +kernel) (by decide +kernel) (by decide +kernel)) dX4_init_74 rfl ml_X4_15 mi_X7_init in_X7 mc_X7_init hy_X7_init ⟨by decide, by decide⟩ ⟨by decide, by decide⟩ (okc oki (okc (okr (by omega)) okn)) (oksc (okr (by omega)) (oksc oki (oksc (okr (by omega)) oksn))) rfl (Nat.le_of_ble_eq_true rfl) ?_
  refine g_aast (N1 := 3) hK dX4_init_77 (by decide +kernel) (by decide) (by decide +kernel) (by decide +kernel) (by decide) (by decide) tn_1 ?_
  refine g_iinc hK (L' := [(1, .int (2 : Int32)), (0, .ref 12)]) dX4_init_78 0 rfl (by decide) (by decide) rfl ?_
  refine g_goto hK 60 dX4_init_81 (by decide) ?_
  refine g_pc (pc' := 60) rfl ?_
  refine g_iload_n hK dX4_init_60 0 rfl rfl ?_
  refine g_iconst hK (3 : Int32) dX4_init_61 ic_3 ?_
  refine g_icmp_ge hK 84 dX4_init_62 (by decide) (fun h => absurd h (by decide)) (fun _ => ?_)
  refine g_aload_n hK dX4_init_65 1 rfl rfl ?_
  refine g_getR (r := 78) hK fl_X4_23 dX4_init_66 (by decide +kernel) (by decide) (by decide +kernel) rfl ?_
  refine g_iload_n hK dX4_init_69 0 rfl rfl ?_
  refine g_new hK zclX7 ck_X4_9 nw_X7 in_X7 dX4_init_70 (by decide +kernel) zdfX7 (by omega) (okc oki (okc (okr (by omega)) okn)) (oksc oki (oksc (okr (by omega)) oksn)) (by decide) (by decide) ?_
  refine g_dup hK dX4_init_73 rfl ?_
  refine g_pc (pc' := 74) rfl ?_
  refine g_call hK (c_X7_init (o := 87) (n := 88) (G := (pR (q_X7_init 83 84 (pR (q_X7_init 79 80 (pR (pI (pI (pR (q_X7_init 74 75 (pR (q_X7_init 70 71 (pR (q_X7_init 66 67 (pR (q_X7_init 62 63 (pR (q_X7_init 58 59 (pR (q_X7_init 54 55 (pR (q_X7_init 50 51 (pR (q_X7_init 46 47 (pR (q_X7_init 42 43 (pR (q_X7_init 38 39 (pR (q_X7_init 34 35 (pR (q_X7_init 30 31 (pR (q_X7_init 26 27 (pR (q_X7_init 22 23 (pR (q_X7_init 18 19 (pR (q_X7_init 14 15 (pR G 12 0 13)) 13 0 14)) 13 1 18)) 13 2 22)) 13 3 26)) 13 4 30)) 13 5 34)) 13 6 38)) 13 7 42)) 13 8 46)) 13 9 50)) 13 10 54)) 13 11 58)) 13 12 62)) 13 13 66)) 13 14 70)) 13 15 74) 12 1 (0 : Int32)) 12 2 (0 : Int32)) 12 3 78)) 78 0 79)) 78 1 83)) (by decide +kernel) (by decide) (by decide) (by decide +kernel) (by decide +kernel) (by decide +kernel) (by decide +kernel) (by decide +kernel) (by decide +kernel)) dX4_init_74 rfl ml_X4_15 mi_X7_init in_X7 mc_X7_init hy_X7_init ⟨by decide, by decide⟩ ⟨by decide, by decide⟩ (okc oki (okc (okr (by omega)) okn)) (oksc (okr (by omega)) (oksc oki (oksc (okr (by omega)) oksn))) rfl (Nat.le_of_ble_eq_true rfl) ?_
  refine g_aast (N1 := 3) hK dX4_init_77 (by decide +kernel) (by decide) (by decide +kernel) (by decide +kernel) (by decide) (by decide) tn_2 ?_
  refine g_iinc hK (L' := [(1, .int (3 : Int32)), (0, .ref 12)]) dX4_init_78 0 rfl (by decide) (by decide) rfl ?_
  refine g_goto hK 60 dX4_init_81 (by decide) ?_
  refine g_iload_n hK dX4_init_60 0 rfl rfl ?_
  refine g_iconst hK (3 : Int32) dX4_init_61 ic_3 ?_
  refine g_icmp_ge hK 84 dX4_init_62 (by decide) (fun _ => ?_) (fun h => absurd (by decide) h)
  refine g_aload_n hK dX4_init_84 1 rfl rfl ?_
  refine g_pc (pc' := 85) rfl ?_
  refine g_iconst hK (3 : Int32) dX4_init_85 ic_3 ?_
  refine g_newa (atype := .boolean) (ty := .boolean) (ki := 15) (t0 := 3) hK ac_boolean rfl dX4_init_86 (by decide +kernel) (by decide +kernel) (by decide) tn_3 (by decide) (fun _ => rfl) (gr_ty (fun _ h => by cases h)) (3, .inl (fun _ => 0)) (fun ad cy => zcG_boolean (by decide +kernel) (by decide +kernel)) (fun _ => rfl) (by omega) (okc oki (okc (okr (by omega)) okn)) (oksc (okr (by omega)) oksn) (by decide) (by decide) ?_
  refine g_putR hK hI fl_X4_26 (fun _ C T N h => by cases h; rfl) dX4_init_88 (by decide +kernel) (by decide) (by decide) (by decide +kernel) (fun _ => rfl) (fun _ => rfl) ?_
  exact g_ret hK hI dX4_init_91 ha
def q_X2_init (G : SG) : SG := (pR (pR (pR (pI (pI (pI (pR (pR (pR G 92 0 3) 92 1 93) 92 2 94) 92 3 (0 : Int32)) 92 4 (0 : Int32)) 92 5 (0 : Int32)) 92 6 95) 92 7 96) 92 8 97)
set_option maxRecDepth 100000 in
theorem c_X2_init {G : SG} : zC yX2_init cX2_init 2 1 5 232 [.ref 92, .ref 3] 93 G 98 (q_X2_init G) := by
  refine zC_of (by decide) rfl (Nat.le_of_ble_eq_true rfl) rfl (fun K hK hI ha => ?_)
  unfold q_X2_init at ha
  refine g_aload_n hK dX2_init_0 0 rfl rfl ?_
  refine g_obj hK ob_X2 dX2_init_1 (by decide) (Nat.le_of_ble_eq_true rfl) ?_
  refine g_aload_n hK dX2_init_4 0 rfl rfl ?_
  refine g_aload_n hK dX2_init_5 1 rfl rfl ?_
  refine g_putR hK hI fl_X2_9 (fun _ C T N h => by cases h; rfl) dX2_init_6 (by decide +kernel) (by decide) (by decide) (by decide +kernel) (fun _ => rfl) (fun _ => rfl) ?_
  refine g_aload_n hK dX2_init_9 0 rfl rfl ?_
  refine g_bipush hK (12 : Int32) dX2_init_10 bi_12 ?_
  refine g_pc (pc' := 12) rfl ?_
  refine g_newa (atype := .int) (ty := .int) (ki := 12) (t0 := 0) hK ac_int rfl dX2_init_12 (by decide +kernel) (by decide +kernel) (by decide) tn_12 (by decide) (fun _ => rfl) (gr_ty (fun _ h => by cases h)) (12, .inl (fun _ => 0)) (fun ad cy => zcG_int (by decide +kernel) (by decide +kernel)) (fun _ => rfl) (by omega) (okc (okr (by omega)) (okc (okr (by omega)) okn)) (oksc (okr (by omega)) oksn) (by decide) (by decide) ?_
  refine g_putR hK hI fl_X2_15 (fun _ C T N h => by cases h; rfl) dX2_init_14 (by decide +kernel) (by decide) (by decide) (by decide +kernel) (fun _ => rfl) (fun _ => rfl) ?_
  refine g_aload_n hK dX2_init_17 0 rfl rfl ?_
  refine g_bipush hK (12 : Int32) dX2_init_18 bi_12 ?_
  refine g_newa (atype := .int) (ty := .int) (ki := 12) (t0 := 0) hK ac_int rfl dX2_init_20 (by decide +kernel) (by decide +kernel) (by decide) tn_12 (by decide) (fun _ => rfl) (gr_ty (fun _ h => by cases h)) (12, .inl (fun _ => 0)) (fun ad cy => zcG_int (by decide +kernel) (by decide +kernel)) (fun _ => rfl) (by omega) (okc (okr (by omega)) (okc (okr (by omega)) okn)) (oksc (okr (by omega)) oksn) (by decide) (by decide) ?_
  refine g_putR hK hI fl_X2_19 (fun _ C T N h => by cases h; rfl) dX2_init_22 (by decide +kernel) (by decide) (by decide) (by decide +kernel) (fun _ => rfl) (fun _ => rfl) ?_
  refine g_aload_n hK dX2_init_25 0 rfl rfl ?_
  refine g_iconst hK (0 : Int32) dX2_init_26 ic_0 ?_
  refine g_pc (pc' := 27) rfl ?_
  refine g_putI hK hI fl_X2_22 dX2_init_27 (by decide +kernel) (by decide) (by decide +kernel) rfl rfl ?_
  refine g_aload_n hK dX2_init_30 0 rfl rfl ?_
  refine g_iconst hK (0 : Int32) dX2_init_31 ic_0 ?_
  refine g_putI hK hI fl_X2_26 dX2_init_32 (by decide +kernel) (by decide) (by decide +kernel) rfl rfl ?_
  refine g_aload_n hK dX2_init_35 0 rfl rfl ?_
  refine g_iconst hK (0 : Int32) dX2_init_36 ic_0 ?_
  refine g_putI hK hI fl_X2_29 dX2_init_37 (by decide +kernel) (by decide) (by decide +kernel) rfl rfl ?_
  refine g_aload_n hK dX2_init_40 0 rfl rfl ?_
  refine g_pc (pc' := 41) rfl ?_
  refine g_sipush hK (192 : Int32) dX2_init_41 si_192 ?_
  refine g_newa (atype := .int) (ty := .int) (ki := 12) (t0 := 0) hK ac_int rfl dX2_init_44 (by decide +kernel) (by decide +kernel) (by decide) tn_192 (by decide) (fun _ => rfl) (gr_ty (fun _ h => by cases h)) (192, .inl (fun _ => 0)) (fun ad cy => zcG_int (by decide +kernel) (by decide +kernel)) (fun _ => rfl) (by omega) (okc (okr (by omega)) (okc (okr (by omega)) okn)) (oksc (okr (by omega)) oksn) (by decide) (by decide) ?_
  refine g_putR hK hI fl_X2_32 (fun _ C T N h => by cases h; rfl) dX2_init_46 (by decide +kernel) (by decide) (by decide) (by decide +kernel) (fun _ => rfl) (fun _ => rfl) ?_
  refine g_aload_n hK dX2_init_49 0 rfl rfl ?_
  refine g_bipush hK (8 : Int32) dX2_init_50 bi_8 ?_
  refine g_newa (atype := .long) (ty := .long) (ki := 14) (t0 := 2) hK ac_long rfl dX2_init_52 (by decide +kernel) (by decide +kernel) (by decide) tn_8 (by decide) (fun _ => rfl) (gr_ty (fun _ h => by cases h)) (8, .inr (.inl (fun _ => 0))) (fun ad cy => zcG_long (by decide +kernel) (by decide +kernel)) (fun _ => rfl) (by omega) (okc (okr (by omega)) (okc (okr (by omega)) okn)) (oksc (okr (by omega)) oksn) (by decide) (by decide) ?_
  refine g_putR hK hI fl_X2_35 (fun _ C T N h => by cases h; rfl) dX2_init_54 (by decide +kernel) (by decide) (by decide) (by decide +kernel) (fun _ => rfl) (fun _ => rfl) ?_
  refine g_aload_n hK dX2_init_57 0 rfl rfl ?_
  refine g_pc (pc' := 58) rfl ?_
  refine g_bipush hK (8 : Int32) dX2_init_58 bi_8 ?_
  refine g_newa (atype := .long) (ty := .long) (ki := 14) (t0 := 2) hK ac_long rfl dX2_init_60 (by decide +kernel) (by decide +kernel) (by decide) tn_8 (by decide) (fun _ => rfl) (gr_ty (fun _ h => by cases h)) (8, .inr (.inl (fun _ => 0))) (fun ad cy => zcG_long (by decide +kernel) (by decide +kernel)) (fun _ => rfl) (by omega) (okc (okr (by omega)) (okc (okr (by omega)) okn)) (oksc (okr (by omega)) oksn) (by decide) (by decide) ?_
  refine g_putR hK hI fl_X2_39 (fun _ C T N h => by cases h; rfl) dX2_init_62 (by decide +kernel) (by decide) (by decide) (by decide +kernel) (fun _ => rfl) (fun _ => rfl) ?_
  exact g_ret hK hI dX2_init_65 ha
def q_X9_init (G : SG) : SG := (pR (pR (pR G 98 0 3) 98 1 99) 98 2 100)
set_option maxRecDepth 100000 in
theorem c_X9_init {G : SG} : zC yX9_init cX9_init 2 1 2 2112 [.ref 98, .ref 3] 99 G 101 (q_X9_init G) := by
  refine zC_of (by decide) rfl (Nat.le_of_ble_eq_true rfl) rfl (fun K hK hI ha => ?_)
  unfold q_X9_init at ha
  refine g_aload_n hK dX9_init_0 0 rfl rfl ?_
  refine g_obj hK ob_X9 dX9_init_1 (by decide) (Nat.le_of_ble_eq_true rfl) ?_
  refine g_aload_n hK dX9_init_4 0 rfl rfl ?_
  refine g_aload_n hK dX9_init_5 1 rfl rfl ?_
  refine g_putR hK hI fl_X9_9 (fun _ C T N h => by cases h; rfl) dX9_init_6 (by decide +kernel) (by decide) (by decide) (by decide +kernel) (fun _ => rfl) (fun _ => rfl) ?_
  refine g_aload_n hK dX9_init_9 0 rfl rfl ?_
  refine g_bipush hK (64 : Int32) dX9_init_10 bi_64 ?_
  refine g_pc (pc' := 12) rfl ?_
  refine g_newa (atype := .int) (ty := .int) (ki := 12) (t0 := 0) hK ac_int rfl dX9_init_12 (by decide +kernel) (by decide +kernel) (by decide) tn_64 (by decide) (fun _ => rfl) (gr_ty (fun _ h => by cases h)) (64, .inl (fun _ => 0)) (fun ad cy => zcG_int (by decide +kernel) (by decide +kernel)) (fun _ => rfl) (by omega) (okc (okr (by omega)) (okc (okr (by omega)) okn)) (oksc (okr (by omega)) oksn) (by decide) (by decide) ?_
  refine g_putR hK hI fl_X9_15 (fun _ C T N h => by cases h; rfl) dX9_init_14 (by decide +kernel) (by decide) (by decide) (by decide +kernel) (fun _ => rfl) (fun _ => rfl) ?_
  refine g_aload_n hK dX9_init_17 0 rfl rfl ?_
  refine g_sipush hK (2048 : Int32) dX9_init_18 si_2048 ?_
  refine g_newa (atype := .int) (ty := .int) (ki := 12) (t0 := 0) hK ac_int rfl dX9_init_21 (by decide +kernel) (by decide +kernel) (by decide) tn_2048 (by decide) (fun _ => rfl) (gr_ty (fun _ h => by cases h)) (2048, .inl (fun _ => 0)) (fun ad cy => zcG_int (by decide +kernel) (by decide +kernel)) (fun _ => rfl) (by omega) (okc (okr (by omega)) (okc (okr (by omega)) okn)) (oksc (okr (by omega)) oksn) (by decide) (by decide) ?_
  refine g_putR hK hI fl_X9_19 (fun _ C T N h => by cases h; rfl) dX9_init_23 (by decide +kernel) (by decide) (by decide) (by decide +kernel) (fun _ => rfl) (fun _ => rfl) ?_
  exact g_ret hK hI dX9_init_26 ha
def q_X1_init (G : SG) : SG := (pI (pR (pR (pR G 101 0 3) 101 1 102) 101 2 103) 101 3 (0 : Int32))
set_option maxRecDepth 100000 in
theorem c_X1_init {G : SG} : zC yX1_init cX1_init 2 1 2 24 [.ref 101, .ref 3] 102 G 104 (q_X1_init G) := by
  refine zC_of (by decide) rfl (Nat.le_of_ble_eq_true rfl) rfl (fun K hK hI ha => ?_)
  unfold q_X1_init at ha
  refine g_aload_n hK dX1_init_0 0 rfl rfl ?_
  refine g_obj hK ob_X1 dX1_init_1 (by decide) (Nat.le_of_ble_eq_true rfl) ?_
  refine g_aload_n hK dX1_init_4 0 rfl rfl ?_
  refine g_aload_n hK dX1_init_5 1 rfl rfl ?_
  refine g_putR hK hI fl_X1_9 (fun _ C T N h => by cases h; rfl) dX1_init_6 (by decide +kernel) (by decide) (by decide) (by decide +kernel) (fun _ => rfl) (fun _ => rfl) ?_
  refine g_aload_n hK dX1_init_9 0 rfl rfl ?_
  refine g_bipush hK (12 : Int32) dX1_init_10 bi_12 ?_
  refine g_pc (pc' := 12) rfl ?_
  refine g_newa (atype := .int) (ty := .int) (ki := 12) (t0 := 0) hK ac_int rfl dX1_init_12 (by decide +kernel) (by decide +kernel) (by decide) tn_12 (by decide) (fun _ => rfl) (gr_ty (fun _ h => by cases h)) (12, .inl (fun _ => 0)) (fun ad cy => zcG_int (by decide +kernel) (by decide +kernel)) (fun _ => rfl) (by omega) (okc (okr (by omega)) (okc (okr (by omega)) okn)) (oksc (okr (by omega)) oksn) (by decide) (by decide) ?_
  refine g_putR hK hI fl_X1_15 (fun _ C T N h => by cases h; rfl) dX1_init_14 (by decide +kernel) (by decide) (by decide) (by decide +kernel) (fun _ => rfl) (fun _ => rfl) ?_
  refine g_aload_n hK dX1_init_17 0 rfl rfl ?_
  refine g_bipush hK (12 : Int32) dX1_init_18 bi_12 ?_
  refine g_newa (atype := .int) (ty := .int) (ki := 12) (t0 := 0) hK ac_int rfl dX1_init_20 (by decide +kernel) (by decide +kernel) (by decide) tn_12 (by decide) (fun _ => rfl) (gr_ty (fun _ h => by cases h)) (12, .inl (fun _ => 0)) (fun ad cy => zcG_int (by decide +kernel) (by decide +kernel)) (fun _ => rfl) (by omega) (okc (okr (by omega)) (okc (okr (by omega)) okn)) (oksc (okr (by omega)) oksn) (by decide) (by decide) ?_
  refine g_putR hK hI fl_X1_19 (fun _ C T N h => by cases h; rfl) dX1_init_22 (by decide +kernel) (by decide) (by decide) (by decide +kernel) (fun _ => rfl) (fun _ => rfl) ?_
  refine g_aload_n hK dX1_init_25 0 rfl rfl ?_
  refine g_iconst hK (0 : Int32) dX1_init_26 ic_0 ?_
  refine g_pc (pc' := 27) rfl ?_
  refine g_putI hK hI fl_X1_22 dX1_init_27 (by decide +kernel) (by decide) (by decide +kernel) rfl rfl ?_
  exact g_ret hK hI dX1_init_30 ha
def q_X3_init (G : SG) : SG := (pR (pI (pR (pI (pR (pR (pR G 104 0 105) 104 1 106) 104 2 107) 104 3 (0 : Int32)) 104 4 108) 104 5 (0 : Int32)) 104 6 109)
set_option maxRecDepth 100000 in
theorem c_X3_init {G : SG} : zC yX3_init cX3_init 1 1 5 102 [.ref 104] 105 G 110 (q_X3_init G) := by
  refine zC_of (by decide) rfl (Nat.le_of_ble_eq_true rfl) rfl (fun K hK hI ha => ?_)
  unfold q_X3_init at ha
  refine g_aload_n hK dX3_init_0 0 rfl rfl ?_
  refine g_obj hK ob_X3 dX3_init_1 (by decide) (Nat.le_of_ble_eq_true rfl) ?_
  refine g_aload_n hK dX3_init_4 0 rfl rfl ?_
  refine g_bipush hK (10 : Int32) dX3_init_5 bi_10 ?_
  refine g_newa (atype := .int) (ty := .int) (ki := 12) (t0 := 0) hK ac_int rfl dX3_init_7 (by decide +kernel) (by decide +kernel) (by decide) tn_10 (by decide) (fun _ => rfl) (gr_ty (fun _ h => by cases h)) (10, .inl (fun _ => 0)) (fun ad cy => zcG_int (by decide +kernel) (by decide +kernel)) (fun _ => rfl) (by omega) (okc (okr (by omega)) okn) (oksc (okr (by omega)) oksn) (by decide) (by decide) ?_
  refine g_putR hK hI fl_X3_11 (fun _ C T N h => by cases h; rfl) dX3_init_9 (by decide +kernel) (by decide) (by decide) (by decide +kernel) (fun _ => rfl) (fun _ => rfl) ?_
  refine g_aload_n hK dX3_init_12 0 rfl rfl ?_
  refine g_pc (pc' := 13) rfl ?_
  refine g_bipush hK (10 : Int32) dX3_init_13 bi_10 ?_
  refine g_newa (atype := .int) (ty := .int) (ki := 12) (t0 := 0) hK ac_int rfl dX3_init_15 (by decide +kernel) (by decide +kernel) (by decide) tn_10 (by decide) (fun _ => rfl) (gr_ty (fun _ h => by cases h)) (10, .inl (fun _ => 0)) (fun ad cy => zcG_int (by decide +kernel) (by decide +kernel)) (fun _ => rfl) (by omega) (okc (okr (by omega)) okn) (oksc (okr (by omega)) oksn) (by decide) (by decide) ?_
  refine g_putR hK hI fl_X3_15 (fun _ C T N h => by cases h; rfl) dX3_init_17 (by decide +kernel) (by decide) (by decide) (by decide +kernel) (fun _ => rfl) (fun _ => rfl) ?_
  refine g_aload_n hK dX3_init_20 0 rfl rfl ?_
  refine g_bipush hK (10 : Int32) dX3_init_21 bi_10 ?_
  refine g_newa (atype := .int) (ty := .int) (ki := 12) (t0 := 0) hK ac_int rfl dX3_init_23 (by decide +kernel) (by decide +kernel) (by decide) tn_10 (by decide) (fun _ => rfl) (gr_ty (fun _ h => by cases h)) (10, .inl (fun _ => 0)) (fun ad cy => zcG_int (by decide +kernel) (by decide +kernel)) (fun _ => rfl) (by omega) (okc (okr (by omega)) okn) (oksc (okr (by omega)) oksn) (by decide) (by decide) ?_
  refine g_putR hK hI fl_X3_18 (fun _ C T N h => by cases h; rfl) dX3_init_25 (by decide +kernel) (by decide) (by decide) (by decide +kernel) (fun _ => rfl) (fun _ => rfl) ?_
  refine g_aload_n hK dX3_init_28 0 rfl rfl ?_
  refine g_pc (pc' := 29) rfl ?_
  refine g_iconst hK (0 : Int32) dX3_init_29 ic_0 ?_
  refine g_putI hK hI fl_X3_21 dX3_init_30 (by decide +kernel) (by decide) (by decide +kernel) rfl rfl ?_
  refine g_aload_n hK dX3_init_33 0 rfl rfl ?_
  refine g_bipush hK (64 : Int32) dX3_init_34 bi_64 ?_
  refine g_newa (atype := .int) (ty := .int) (ki := 12) (t0 := 0) hK ac_int rfl dX3_init_36 (by decide +kernel) (by decide +kernel) (by decide) tn_64 (by decide) (fun _ => rfl) (gr_ty (fun _ h => by cases h)) (64, .inl (fun _ => 0)) (fun ad cy => zcG_int (by decide +kernel) (by decide +kernel)) (fun _ => rfl) (by omega) (okc (okr (by omega)) okn) (oksc (okr (by omega)) oksn) (by decide) (by decide) ?_
  refine g_putR hK hI fl_X3_25 (fun _ C T N h => by cases h; rfl) dX3_init_38 (by decide +kernel) (by decide) (by decide) (by decide +kernel) (fun _ => rfl) (fun _ => rfl) ?_
  refine g_aload_n hK dX3_init_41 0 rfl rfl ?_
  refine g_iconst hK (0 : Int32) dX3_init_42 ic_0 ?_
  refine g_pc (pc' := 43) rfl ?_
  refine g_putI hK hI fl_X3_28 dX3_init_43 (by decide +kernel) (by decide) (by decide +kernel) rfl rfl ?_
  refine g_aload_n hK dX3_init_46 0 rfl rfl ?_
  refine g_bipush hK (8 : Int32) dX3_init_47 bi_8 ?_
  refine g_newa (atype := .int) (ty := .int) (ki := 12) (t0 := 0) hK ac_int rfl dX3_init_49 (by decide +kernel) (by decide +kernel) (by decide) tn_8 (by decide) (fun _ => rfl) (gr_ty (fun _ h => by cases h)) (8, .inl (fun _ => 0)) (fun ad cy => zcG_int (by decide +kernel) (by decide +kernel)) (fun _ => rfl) (by omega) (okc (okr (by omega)) okn) (oksc (okr (by omega)) oksn) (by decide) (by decide) ?_
  refine g_putR hK hI fl_X3_31 (fun _ C T N h => by cases h; rfl) dX3_init_51 (by decide +kernel) (by decide) (by decide) (by decide +kernel) (fun _ => rfl) (fun _ => rfl) ?_
  exact g_ret hK hI dX3_init_54 ha
def q_X10_init (G : SG) : SG := (pI (pR (pR (pR (q_X6_init 115 116 (pR (q_X6_init 110 111 (pR (q_X3_init (pR (q_X1_init (pR (q_X9_init (pR (q_X2_init (pR (q_X4_init (pR (q_X5_init (pR (q_X0_init (pR (q_X8_init G) 0 0 1)) 0 1 3)) 0 2 10)) 0 3 12)) 0 4 92)) 0 5 98)) 0 6 101)) 0 7 104)) 0 8 110)) 0 9 115) 0 10 120) 0 11 121) 0 12 (0 : Int32))
set_option maxRecDepth 100000 in
theorem c_X10_init {G : SG} : zC yX10_init cX10_init 1 3 121 3831 [.ref 0] 1 G 122 (q_X10_init G) := by
  refine zC_of (by decide) rfl (Nat.le_of_ble_eq_true rfl) rfl (fun K hK hI ha => ?_)
  unfold q_X10_init at ha
  refine g_aload_n hK dX10_init_0 0 rfl rfl ?_
  refine g_obj hK ob_X10 dX10_init_1 (by decide) (Nat.le_of_ble_eq_true rfl) ?_
  refine g_aload_n hK dX10_init_4 0 rfl rfl ?_
  refine g_new hK zclX8 ck_X10_7 nw_X8 in_X8 dX10_init_5 (by decide +kernel) zdfX8 (by omega) (okc (okr (by omega)) okn) (oksc (okr (by omega)) oksn) (by decide) (by decide) ?_
  refine g_dup hK dX10_init_8 rfl ?_
  refine g_call hK (c_X8_init (G := G)) dX10_init_9 rfl ml_X10_9 mi_X8_init in_X8 mc_X8_init hy_X8_init ⟨by decide, by decide⟩ ⟨by decide, by decide⟩ (okc (okr (by omega)) okn) (oksc (okr (by omega)) (oksc (okr (by omega)) oksn)) rfl (Nat.le_of_ble_eq_true rfl) ?_
  refine g_putR hK hI fl_X10_10 (fun _ C T N h => by cases h; rfl) dX10_init_12 (by decide +kernel) (by decide) (by decide) (by decide +kernel) (fun _ => rfl) (fun _ => rfl) ?_
  refine g_pc (pc' := 15) rfl ?_
  refine g_aload_n hK dX10_init_15 0 rfl rfl ?_
  refine g_new hK zclX0 ck_X10_16 nw_X0 in_X0 dX10_init_16 (by decide +kernel) zdfX0 (by omega) (okc (okr (by omega)) okn) (oksc (okr (by omega)) oksn) (by decide) (by decide) ?_
  refine g_dup hK dX10_init_19 rfl ?_
  refine g_call hK (c_X0_init (G := (pR (q_X8_init G) 0 0 1))) dX10_init_20 rfl ml_X10_18 mi_X0_init in_X0 mc_X0_init hy_X0_init ⟨by decide, by decide⟩ ⟨by decide, by decide⟩ (okc (okr (by omega)) okn) (oksc (okr (by omega)) (oksc (okr (by omega)) oksn)) rfl (Nat.le_of_ble_eq_true rfl) ?_
  refine g_putR hK hI fl_X10_19 (fun _ C T N h => by cases h; rfl) dX10_init_23 (by decide +kernel) (by decide) (by decide) (by decide +kernel) (fun _ => rfl) (fun _ => rfl) ?_
  refine g_aload_n hK dX10_init_26 0 rfl rfl ?_
  refine g_new hK zclX5 ck_X10_23 nw_X5 in_X5 dX10_init_27 (by decide +kernel) zdfX5 (by omega) (okc (okr (by omega)) okn) (oksc (okr (by omega)) oksn) (by decide) (by decide) ?_
  refine g_dup hK dX10_init_30 rfl ?_
  refine g_pc (pc' := 31) rfl ?_
  refine g_call hK (c_X5_init (G := (pR (q_X0_init (pR (q_X8_init G) 0 0 1)) 0 1 3))) dX10_init_31 rfl ml_X10_25 mi_X5_init in_X5 mc_X5_init hy_X5_init ⟨by decide, by decide⟩ ⟨by decide, by decide⟩ (okc (okr (by omega)) okn) (oksc (okr (by omega)) (oksc (okr (by omega)) oksn)) rfl (Nat.le_of_ble_eq_true rfl) ?_
  refine g_putR hK hI fl_X10_26 (fun _ C T N h => by cases h; rfl) dX10_init_34 (by decide +kernel) (by decide) (by decide) (by decide +kernel) (fun _ => rfl) (fun _ => rfl) ?_
  refine g_aload_n hK dX10_init_37 0 rfl rfl ?_
  refine g_new hK zclX4 ck_X10_30 nw_X4 in_X4 dX10_init_38 (by decide +kernel) zdfX4 (by omega) (okc (okr (by omega)) okn) (oksc (okr (by omega)) oksn) (by decide) (by decide) ?_
  refine g_dup hK dX10_init_41 rfl ?_
  refine g_call hK (c_X4_init (G := (pR (q_X5_init (pR (q_X0_init (pR (q_X8_init G) 0 0 1)) 0 1 3)) 0 2 10))) dX10_init_42 rfl ml_X10_32 mi_X4_init in_X4 mc_X4_init hy_X4_init ⟨by decide, by decide⟩ ⟨by decide, by decide⟩ (okc (okr (by omega)) okn) (oksc (okr (by omega)) (oksc (okr (by omega)) oksn)) rfl (Nat.le_of_ble_eq_true rfl) ?_
  refine g_putR hK hI fl_X10_33 (fun _ C T N h => by cases h; rfl) dX10_init_45 (by decide +kernel) (by decide) (by decide) (by decide +kernel) (fun _ => rfl) (fun _ => rfl) ?_
  refine g_aload_n hK dX10_init_48 0 rfl rfl ?_
  refine g_pc (pc' := 49) rfl ?_
  refine g_new hK zclX2 ck_X10_37 nw_X2 in_X2 dX10_init_49 (by decide +kernel) zdfX2 (by omega) (okc (okr (by omega)) okn) (oksc (okr (by omega)) oksn) (by decide) (by decide) ?_
  refine g_dup hK dX10_init_52 rfl ?_
  refine g_aload_n hK dX10_init_53 0 rfl rfl ?_
  refine g_getR (r := 3) hK fl_X10_19 dX10_init_54 (by decide +kernel) (by decide) (by decide +kernel) rfl ?_
  refine g_call hK (c_X2_init (G := (pR (q_X4_init (pR (q_X5_init (pR (q_X0_init (pR (q_X8_init G) 0 0 1)) 0 1 3)) 0 2 10)) 0 3 12))) dX10_init_57 rfl ml_X10_39 mi_X2_init in_X2 mc_X2_init hy_X2_init ⟨by decide, by decide⟩ ⟨by decide, by decide⟩ (okc (okr (by omega)) okn) (oksc (okr (by omega)) (oksc (okr (by omega)) oksn)) rfl (Nat.le_of_ble_eq_true rfl) ?_
  refine g_putR hK hI fl_X10_42 (fun _ C T N h => by cases h; rfl) dX10_init_60 (by decide +kernel) (by decide) (by decide) (by decide +kernel) (fun _ => rfl) (fun _ => rfl) ?_
  refine g_aload_n hK dX10_init_63 0 rfl rfl ?_
  refine g_new hK zclX9 ck_X10_46 nw_X9 in_X9 dX10_init_64 (by decide +kernel) zdfX9 (by omega) (okc (okr (by omega)) okn) (oksc (okr (by omega)) oksn) (by decide) (by decide) ?_
  refine g_pc (pc' := 67) rfl ?_
  refine g_dup hK dX10_init_67 rfl ?_
  refine g_aload_n hK dX10_init_68 0 rfl rfl ?_
  refine g_getR (r := 3) hK fl_X10_19 dX10_init_69 (by decide +kernel) (by decide) (by decide +kernel) rfl ?_
  refine g_call hK (c_X9_init (G := (pR (q_X2_init (pR (q_X4_init (pR (q_X5_init (pR (q_X0_init (pR (q_X8_init G) 0 0 1)) 0 1 3)) 0 2 10)) 0 3 12)) 0 4 92))) dX10_init_72 rfl ml_X10_48 mi_X9_init in_X9 mc_X9_init hy_X9_init ⟨by decide, by decide⟩ ⟨by decide, by decide⟩ (okc (okr (by omega)) okn) (oksc (okr (by omega)) (oksc (okr (by omega)) oksn)) rfl (Nat.le_of_ble_eq_true rfl) ?_
  refine g_putR hK hI fl_X10_49 (fun _ C T N h => by cases h; rfl) dX10_init_75 (by decide +kernel) (by decide) (by decide) (by decide +kernel) (fun _ => rfl) (fun _ => rfl) ?_
  refine g_aload_n hK dX10_init_78 0 rfl rfl ?_
  refine g_new hK zclX1 ck_X10_53 nw_X1 in_X1 dX10_init_79 (by decide +kernel) zdfX1 (by omega) (okc (okr (by omega)) okn) (oksc (okr (by omega)) oksn) (by decide) (by decide) ?_
  refine g_dup hK dX10_init_82 rfl ?_
  refine g_pc (pc' := 83) rfl ?_
  refine g_aload_n hK dX10_init_83 0 rfl rfl ?_
  refine g_getR (r := 3) hK fl_X10_19 dX10_init_84 (by decide +kernel) (by decide) (by decide +kernel) rfl ?_
  refine g_call hK (c_X1_init (G := (pR (q_X9_init (pR (q_X2_init (pR (q_X4_init (pR (q_X5_init (pR (q_X0_init (pR (q_X8_init G) 0 0 1)) 0 1 3)) 0 2 10)) 0 3 12)) 0 4 92)) 0 5 98))) dX10_init_87 rfl ml_X10_55 mi_X1_init in_X1 mc_X1_init hy_X1_init ⟨by decide, by decide⟩ ⟨by decide, by decide⟩ (okc (okr (by omega)) okn) (oksc (okr (by omega)) (oksc (okr (by omega)) oksn)) rfl (Nat.le_of_ble_eq_true rfl) ?_
  refine g_putR hK hI fl_X10_56 (fun _ C T N h => by cases h; rfl) dX10_init_90 (by decide +kernel) (by decide) (by decide) (by decide +kernel) (fun _ => rfl) (fun _ => rfl) ?_
  refine g_aload_n hK dX10_init_93 0 rfl rfl ?_
  refine g_new hK zclX3 ck_X10_60 nw_X3 in_X3 dX10_init_94 (by decide +kernel) zdfX3 (by omega) (okc (okr (by omega)) okn) (oksc (okr (by omega)) oksn) (by decide) (by decide) ?_
  refine g_dup hK dX10_init_97 rfl ?_
  refine g_call hK (c_X3_init (G := (pR (q_X1_init (pR (q_X9_init (pR (q_X2_init (pR (q_X4_init (pR (q_X5_init (pR (q_X0_init (pR (q_X8_init G) 0 0 1)) 0 1 3)) 0 2 10)) 0 3 12)) 0 4 92)) 0 5 98)) 0 6 101))) dX10_init_98 rfl ml_X10_62 mi_X3_init in_X3 mc_X3_init hy_X3_init ⟨by decide, by decide⟩ ⟨by decide, by decide⟩ (okc (okr (by omega)) okn) (oksc (okr (by omega)) (oksc (okr (by omega)) oksn)) rfl (Nat.le_of_ble_eq_true rfl) ?_
  refine g_pc (pc' := 101) rfl ?_
  refine g_putR hK hI fl_X10_63 (fun _ C T N h => by cases h; rfl) dX10_init_101 (by decide +kernel) (by decide) (by decide) (by decide +kernel) (fun _ => rfl) (fun _ => rfl) ?_
  refine g_aload_n hK dX10_init_104 0 rfl rfl ?_
  refine g_new hK zclX6 ck_X10_67 nw_X6 in_X6 dX10_init_105 (by decide +kernel) zdfX6 (by omega) (okc (okr (by omega)) okn) (oksc (okr (by omega)) oksn) (by decide) (by decide) ?_
  refine g_dup hK dX10_init_108 rfl ?_
  refine g_call hK (c_X6_init (o := 110) (n := 111) (G := (pR (q_X3_init (pR (q_X1_init (pR (q_X9_init (pR (q_X2_init (pR (q_X4_init (pR (q_X5_init (pR (q_X0_init (pR (q_X8_init G) 0 0 1)) 0 1 3)) 0 2 10)) 0 3 12)) 0 4 92)) 0 5 98)) 0 6 101)) 0 7 104)) (by decide +kernel) (by decide) (by decide) (by decide +kernel) (by decide +kernel) (by decide +kernel) (by decide +kernel) (by decide +kernel) (by decide +kernel) (by decide +kernel) (by decide +kernel)) dX10_init_109 rfl ml_X10_69 mi_X6_init in_X6 mc_X6_init hy_X6_init ⟨by decide, by decide⟩ ⟨by decide, by decide⟩ (okc (okr (by omega)) okn) (oksc (okr (by omega)) (oksc (okr (by omega)) oksn)) rfl (Nat.le_of_ble_eq_true rfl) ?_
  refine g_putR hK hI fl_X10_70 (fun h => by cases h) dX10_init_112 (by decide +kernel) (by decide) (by decide) (by decide +kernel) (fun _ => rfl) (fun _ => rfl) ?_
  refine g_aload_n hK dX10_init_115 0 rfl rfl ?_
  refine g_new hK zclX6 ck_X10_67 nw_X6 in_X6 dX10_init_116 (by decide +kernel) zdfX6 (by omega) (okc (okr (by omega)) okn) (oksc (okr (by omega)) oksn) (by decide) (by decide) ?_
  refine g_pc (pc' := 119) rfl ?_
  refine g_dup hK dX10_init_119 rfl ?_
  refine g_call hK (c_X6_init (o := 115) (n := 116) (G := (pR (q_X6_init 110 111 (pR (q_X3_init (pR (q_X1_init (pR (q_X9_init (pR (q_X2_init (pR (q_X4_init (pR (q_X5_init (pR (q_X0_init (pR (q_X8_init G) 0 0 1)) 0 1 3)) 0 2 10)) 0 3 12)) 0 4 92)) 0 5 98)) 0 6 101)) 0 7 104)) 0 8 110)) (by decide +kernel) (by decide) (by decide) (by decide +kernel) (by decide +kernel) (by decide +kernel) (by decide +kernel) (by decide +kernel) (by decide +kernel) (by decide +kernel) (by decide +kernel)) dX10_init_120 rfl ml_X10_69 mi_X6_init in_X6 mc_X6_init hy_X6_init ⟨by decide, by decide⟩ ⟨by decide, by decide⟩ (okc (okr (by omega)) okn) (oksc (okr (by omega)) (oksc (okr (by omega)) oksn)) rfl (Nat.le_of_ble_eq_true rfl) ?_
  refine g_putR hK hI fl_X10_74 (fun h => by cases h) dX10_init_123 (by decide +kernel) (by decide) (by decide) (by decide +kernel) (fun _ => rfl) (fun _ => rfl) ?_
  refine g_aload_n hK dX10_init_126 0 rfl rfl ?_
  refine g_bipush hK (8 : Int32) dX10_init_127 bi_8 ?_
  refine g_newa (atype := .int) (ty := .int) (ki := 12) (t0 := 0) hK ac_int rfl dX10_init_129 (by decide +kernel) (by decide +kernel) (by decide) tn_8 (by decide) (fun _ => rfl) (gr_ty (fun _ h => by cases h)) (8, .inl (fun _ => 0)) (fun ad cy => zcG_int (by decide +kernel) (by decide +kernel)) (fun _ => rfl) (by omega) (okc (okr (by omega)) okn) (oksc (okr (by omega)) oksn) (by decide) (by decide) ?_
  refine g_putR hK hI fl_X10_77 (fun _ C T N h => by cases h; rfl) dX10_init_131 (by decide +kernel) (by decide) (by decide) (by decide +kernel) (fun _ => rfl) (fun _ => rfl) ?_
  refine g_aload_n hK dX10_init_134 0 rfl rfl ?_
  refine g_pc (pc' := 135) rfl ?_
  refine g_bipush hK (61 : Int32) dX10_init_135 bi_61 ?_
  refine g_newa (atype := .int) (ty := .int) (ki := 12) (t0 := 0) hK ac_int rfl dX10_init_137 (by decide +kernel) (by decide +kernel) (by decide) tn_61 (by decide) (fun _ => rfl) (gr_ty (fun _ h => by cases h)) (61, .inl (fun _ => 0)) (fun ad cy => zcG_int (by decide +kernel) (by decide +kernel)) (fun _ => rfl) (by omega) (okc (okr (by omega)) okn) (oksc (okr (by omega)) oksn) (by decide) (by decide) ?_
  refine g_putR hK hI fl_X10_81 (fun _ C T N h => by cases h; rfl) dX10_init_139 (by decide +kernel) (by decide) (by decide) (by decide +kernel) (fun _ => rfl) (fun _ => rfl) ?_
  refine g_aload_n hK dX10_init_142 0 rfl rfl ?_
  refine g_iconst hK (0 : Int32) dX10_init_143 ic_0 ?_
  refine g_putI hK hI fl_X10_84 dX10_init_144 (by decide +kernel) (by decide) (by decide +kernel) rfl rfl ?_
  exact g_ret hK hI dX10_init_147 ha
def q_X11_init (G : SG) : SG := (pR (pR (pR (pR (pR (pR (pR (pR (pR (pR (pR (pR (pR (pR (pR (pR (pR (pR (pR (pR (pR (pR (pR (pR (pR (pR (pR (pR (pR (pR (pR (pR (pR (pR (pR G 122 2 123) 122 5 124) 122 6 125) 122 7 126) 122 8 127) 122 9 128) 122 14 129) 122 16 130) 122 17 131) 122 20 132) 122 21 133) 122 22 134) 122 23 135) 122 27 136) 122 29 137) 122 30 138) 122 31 139) 122 32 140) 122 33 141) 122 34 142) 122 36 143) 122 37 144) 122 38 145) 122 40 146) 122 41 147) 122 43 148) 122 44 149) 122 45 150) 122 46 151) 122 47 152) 122 48 153) 122 49 154) 122 51 155) 122 52 156) 122 53 157)
set_option maxRecDepth 100000 in
theorem c_X11_init {G : SG} : zC yX11_init cX11_init 1 1 35 4404 [.ref 122] 123 G 158 (q_X11_init G) := by
  refine zC_of (by decide) rfl (Nat.le_of_ble_eq_true rfl) rfl (fun K hK hI ha => ?_)
  unfold q_X11_init at ha
  refine g_aload_n hK dX11_init_0 0 rfl rfl ?_
  refine g_obj hK ob_X11 dX11_init_1 (by decide) (Nat.le_of_ble_eq_true rfl) ?_
  refine g_aload_n hK dX11_init_4 0 rfl rfl ?_
  refine g_bipush hK (24 : Int32) dX11_init_5 bi_24 ?_
  refine g_newa (atype := .long) (ty := .long) (ki := 14) (t0 := 2) hK ac_long rfl dX11_init_7 (by decide +kernel) (by decide +kernel) (by decide) tn_24 (by decide) (fun _ => rfl) (gr_ty (fun _ h => by cases h)) (24, .inr (.inl (fun _ => 0))) (fun ad cy => zcG_long (by decide +kernel) (by decide +kernel)) (fun _ => rfl) (by omega) (okc (okr (by omega)) okn) (oksc (okr (by omega)) oksn) (by decide) (by decide) ?_
  refine g_putR hK hI fl_X11_11 (fun _ C T N h => by cases h; rfl) dX11_init_9 (by decide +kernel) (by decide) (by decide) (by decide +kernel) (fun _ => rfl) (fun _ => rfl) ?_
  refine g_aload_n hK dX11_init_12 0 rfl rfl ?_
  refine g_pc (pc' := 13) rfl ?_
  refine g_bipush hK (12 : Int32) dX11_init_13 bi_12 ?_
  refine g_newa (atype := .int) (ty := .int) (ki := 12) (t0 := 0) hK ac_int rfl dX11_init_15 (by decide +kernel) (by decide +kernel) (by decide) tn_12 (by decide) (fun _ => rfl) (gr_ty (fun _ h => by cases h)) (12, .inl (fun _ => 0)) (fun ad cy => zcG_int (by decide +kernel) (by decide +kernel)) (fun _ => rfl) (by omega) (okc (okr (by omega)) okn) (oksc (okr (by omega)) oksn) (by decide) (by decide) ?_
  refine g_putR hK hI fl_X11_24 (fun _ C T N h => by cases h; rfl) dX11_init_17 (by decide +kernel) (by decide) (by decide) (by decide +kernel) (fun _ => rfl) (fun _ => rfl) ?_
  refine g_aload_n hK dX11_init_20 0 rfl rfl ?_
  refine g_bipush hK (12 : Int32) dX11_init_21 bi_12 ?_
  refine g_newa (atype := .int) (ty := .int) (ki := 12) (t0 := 0) hK ac_int rfl dX11_init_23 (by decide +kernel) (by decide +kernel) (by decide) tn_12 (by decide) (fun _ => rfl) (gr_ty (fun _ h => by cases h)) (12, .inl (fun _ => 0)) (fun ad cy => zcG_int (by decide +kernel) (by decide +kernel)) (fun _ => rfl) (by omega) (okc (okr (by omega)) okn) (oksc (okr (by omega)) oksn) (by decide) (by decide) ?_
  refine g_putR hK hI fl_X11_28 (fun _ C T N h => by cases h; rfl) dX11_init_25 (by decide +kernel) (by decide) (by decide) (by decide +kernel) (fun _ => rfl) (fun _ => rfl) ?_
  refine g_aload_n hK dX11_init_28 0 rfl rfl ?_
  refine g_pc (pc' := 29) rfl ?_
  refine g_bipush hK (39 : Int32) dX11_init_29 bi_39 ?_
  refine g_newa (atype := .int) (ty := .int) (ki := 12) (t0 := 0) hK ac_int rfl dX11_init_31 (by decide +kernel) (by decide +kernel) (by decide) tn_39 (by decide) (fun _ => rfl) (gr_ty (fun _ h => by cases h)) (39, .inl (fun _ => 0)) (fun ad cy => zcG_int (by decide +kernel) (by decide +kernel)) (fun _ => rfl) (by omega) (okc (okr (by omega)) okn) (oksc (okr (by omega)) oksn) (by decide) (by decide) ?_
  refine g_putR hK hI fl_X11_31 (fun _ C T N h => by cases h; rfl) dX11_init_33 (by decide +kernel) (by decide) (by decide) (by decide +kernel) (fun _ => rfl) (fun _ => rfl) ?_
  refine g_aload_n hK dX11_init_36 0 rfl rfl ?_
  refine g_bipush hK (39 : Int32) dX11_init_37 bi_39 ?_
  refine g_newa (atype := .int) (ty := .int) (ki := 12) (t0 := 0) hK ac_int rfl dX11_init_39 (by decide +kernel) (by decide +kernel) (by decide) tn_39 (by decide) (fun _ => rfl) (gr_ty (fun _ h => by cases h)) (39, .inl (fun _ => 0)) (fun ad cy => zcG_int (by decide +kernel) (by decide +kernel)) (fun _ => rfl) (by omega) (okc (okr (by omega)) okn) (oksc (okr (by omega)) oksn) (by decide) (by decide) ?_
  refine g_putR hK hI fl_X11_34 (fun _ C T N h => by cases h; rfl) dX11_init_41 (by decide +kernel) (by decide) (by decide) (by decide +kernel) (fun _ => rfl) (fun _ => rfl) ?_
  refine g_aload_n hK dX11_init_44 0 rfl rfl ?_
  refine g_pc (pc' := 45) rfl ?_
  refine g_bipush hK (80 : Int32) dX11_init_45 bi_80 ?_
  refine g_newa (atype := .int) (ty := .int) (ki := 12) (t0 := 0) hK ac_int rfl dX11_init_47 (by decide +kernel) (by decide +kernel) (by decide) tn_80 (by decide) (fun _ => rfl) (gr_ty (fun _ h => by cases h)) (80, .inl (fun _ => 0)) (fun ad cy => zcG_int (by decide +kernel) (by decide +kernel)) (fun _ => rfl) (by omega) (okc (okr (by omega)) okn) (oksc (okr (by omega)) oksn) (by decide) (by decide) ?_
  refine g_putR hK hI fl_X11_37 (fun _ C T N h => by cases h; rfl) dX11_init_49 (by decide +kernel) (by decide) (by decide) (by decide +kernel) (fun _ => rfl) (fun _ => rfl) ?_
  refine g_aload_n hK dX11_init_52 0 rfl rfl ?_
  refine g_bipush hK (48 : Int32) dX11_init_53 bi_48 ?_
  refine g_newa (atype := .int) (ty := .int) (ki := 12) (t0 := 0) hK ac_int rfl dX11_init_55 (by decide +kernel) (by decide +kernel) (by decide) tn_48 (by decide) (fun _ => rfl) (gr_ty (fun _ h => by cases h)) (48, .inl (fun _ => 0)) (fun ad cy => zcG_int (by decide +kernel) (by decide +kernel)) (fun _ => rfl) (by omega) (okc (okr (by omega)) okn) (oksc (okr (by omega)) oksn) (by decide) (by decide) ?_
  refine g_putR hK hI fl_X11_40 (fun _ C T N h => by cases h; rfl) dX11_init_57 (by decide +kernel) (by decide) (by decide) (by decide +kernel) (fun _ => rfl) (fun _ => rfl) ?_
  refine g_aload_n hK dX11_init_60 0 rfl rfl ?_
  refine g_pc (pc' := 61) rfl ?_
  refine g_bipush hK (80 : Int32) dX11_init_61 bi_80 ?_
  refine g_newa (atype := .int) (ty := .int) (ki := 12) (t0 := 0) hK ac_int rfl dX11_init_63 (by decide +kernel) (by decide +kernel) (by decide) tn_80 (by decide) (fun _ => rfl) (gr_ty (fun _ h => by cases h)) (80, .inl (fun _ => 0)) (fun ad cy => zcG_int (by decide +kernel) (by decide +kernel)) (fun _ => rfl) (by omega) (okc (okr (by omega)) okn) (oksc (okr (by omega)) oksn) (by decide) (by decide) ?_
  refine g_putR hK hI fl_X11_43 (fun _ C T N h => by cases h; rfl) dX11_init_65 (by decide +kernel) (by decide) (by decide) (by decide +kernel) (fun _ => rfl) (fun _ => rfl) ?_
  refine g_aload_n hK dX11_init_68 0 rfl rfl ?_
  refine g_bipush hK (80 : Int32) dX11_init_69 bi_80 ?_
  refine g_newa (atype := .int) (ty := .int) (ki := 12) (t0 := 0) hK ac_int rfl dX11_init_71 (by decide +kernel) (by decide +kernel) (by decide) tn_80 (by decide) (fun _ => rfl) (gr_ty (fun _ h => by cases h)) (80, .inl (fun _ => 0)) (fun ad cy => zcG_int (by decide +kernel) (by decide +kernel)) (fun _ => rfl) (by omega) (okc (okr (by omega)) okn) (oksc (okr (by omega)) oksn) (by decide) (by decide) ?_
  refine g_putR hK hI fl_X11_46 (fun _ C T N h => by cases h; rfl) dX11_init_73 (by decide +kernel) (by decide) (by decide) (by decide +kernel) (fun _ => rfl) (fun _ => rfl) ?_
  refine g_aload_n hK dX11_init_76 0 rfl rfl ?_
  refine g_pc (pc' := 77) rfl ?_
  refine g_bipush hK (80 : Int32) dX11_init_77 bi_80 ?_
  refine g_newa (atype := .int) (ty := .int) (ki := 12) (t0 := 0) hK ac_int rfl dX11_init_79 (by decide +kernel) (by decide +kernel) (by decide) tn_80 (by decide) (fun _ => rfl) (gr_ty (fun _ h => by cases h)) (80, .inl (fun _ => 0)) (fun ad cy => zcG_int (by decide +kernel) (by decide +kernel)) (fun _ => rfl) (by omega) (okc (okr (by omega)) okn) (oksc (okr (by omega)) oksn) (by decide) (by decide) ?_
  refine g_putR hK hI fl_X11_49 (fun _ C T N h => by cases h; rfl) dX11_init_81 (by decide +kernel) (by decide) (by decide) (by decide +kernel) (fun _ => rfl) (fun _ => rfl) ?_
  refine g_aload_n hK dX11_init_84 0 rfl rfl ?_
  refine g_bipush hK (7 : Int32) dX11_init_85 bi_7 ?_
  refine g_newa (atype := .int) (ty := .int) (ki := 12) (t0 := 0) hK ac_int rfl dX11_init_87 (by decide +kernel) (by decide +kernel) (by decide) tn_7 (by decide) (fun _ => rfl) (gr_ty (fun _ h => by cases h)) (7, .inl (fun _ => 0)) (fun ad cy => zcG_int (by decide +kernel) (by decide +kernel)) (fun _ => rfl) (by omega) (okc (okr (by omega)) okn) (oksc (okr (by omega)) oksn) (by decide) (by decide) ?_
  refine g_putR hK hI fl_X11_52 (fun _ C T N h => by cases h; rfl) dX11_init_89 (by decide +kernel) (by decide) (by decide) (by decide +kernel) (fun _ => rfl) (fun _ => rfl) ?_
  refine g_aload_n hK dX11_init_92 0 rfl rfl ?_
  refine g_pc (pc' := 93) rfl ?_
  refine g_bipush hK (12 : Int32) dX11_init_93 bi_12 ?_
  refine g_newa (atype := .int) (ty := .int) (ki := 12) (t0 := 0) hK ac_int rfl dX11_init_95 (by decide +kernel) (by decide +kernel) (by decide) tn_12 (by decide) (fun _ => rfl) (gr_ty (fun _ h => by cases h)) (12, .inl (fun _ => 0)) (fun ad cy => zcG_int (by decide +kernel) (by decide +kernel)) (fun _ => rfl) (by omega) (okc (okr (by omega)) okn) (oksc (okr (by omega)) oksn) (by decide) (by decide) ?_
  refine g_putR hK hI fl_X11_55 (fun _ C T N h => by cases h; rfl) dX11_init_97 (by decide +kernel) (by decide) (by decide) (by decide +kernel) (fun _ => rfl) (fun _ => rfl) ?_
  refine g_aload_n hK dX11_init_100 0 rfl rfl ?_
  refine g_bipush hK (12 : Int32) dX11_init_101 bi_12 ?_
  refine g_newa (atype := .boolean) (ty := .boolean) (ki := 15) (t0 := 3) hK ac_boolean rfl dX11_init_103 (by decide +kernel) (by decide +kernel) (by decide) tn_12 (by decide) (fun _ => rfl) (gr_ty (fun _ h => by cases h)) (12, .inl (fun _ => 0)) (fun ad cy => zcG_boolean (by decide +kernel) (by decide +kernel)) (fun _ => rfl) (by omega) (okc (okr (by omega)) okn) (oksc (okr (by omega)) oksn) (by decide) (by decide) ?_
  refine g_putR hK hI fl_X11_58 (fun _ C T N h => by cases h; rfl) dX11_init_105 (by decide +kernel) (by decide) (by decide) (by decide +kernel) (fun _ => rfl) (fun _ => rfl) ?_
  refine g_aload_n hK dX11_init_108 0 rfl rfl ?_
  refine g_pc (pc' := 109) rfl ?_
  refine g_bipush hK (64 : Int32) dX11_init_109 bi_64 ?_
  refine g_newa (atype := .int) (ty := .int) (ki := 12) (t0 := 0) hK ac_int rfl dX11_init_111 (by decide +kernel) (by decide +kernel) (by decide) tn_64 (by decide) (fun _ => rfl) (gr_ty (fun _ h => by cases h)) (64, .inl (fun _ => 0)) (fun ad cy => zcG_int (by decide +kernel) (by decide +kernel)) (fun _ => rfl) (by omega) (okc (okr (by omega)) okn) (oksc (okr (by omega)) oksn) (by decide) (by decide) ?_
  refine g_putR hK hI fl_X11_62 (fun _ C T N h => by cases h; rfl) dX11_init_113 (by decide +kernel) (by decide) (by decide) (by decide +kernel) (fun _ => rfl) (fun _ => rfl) ?_
  refine g_aload_n hK dX11_init_116 0 rfl rfl ?_
  refine g_sipush hK (624 : Int32) dX11_init_117 si_624 ?_
  refine g_newa (atype := .int) (ty := .int) (ki := 12) (t0 := 0) hK ac_int rfl dX11_init_120 (by decide +kernel) (by decide +kernel) (by decide) tn_624 (by decide) (fun _ => rfl) (gr_ty (fun _ h => by cases h)) (624, .inl (fun _ => 0)) (fun ad cy => zcG_int (by decide +kernel) (by decide +kernel)) (fun _ => rfl) (by omega) (okc (okr (by omega)) okn) (oksc (okr (by omega)) oksn) (by decide) (by decide) ?_
  refine g_putR hK hI fl_X11_65 (fun _ C T N h => by cases h; rfl) dX11_init_122 (by decide +kernel) (by decide) (by decide) (by decide +kernel) (fun _ => rfl) (fun _ => rfl) ?_
  refine g_aload_n hK dX11_init_125 0 rfl rfl ?_
  refine g_pc (pc' := 126) rfl ?_
  refine g_bipush hK (6 : Int32) dX11_init_126 bi_6 ?_
  refine g_newa (atype := .int) (ty := .int) (ki := 12) (t0 := 0) hK ac_int rfl dX11_init_128 (by decide +kernel) (by decide +kernel) (by decide) tn_6 (by decide) (fun _ => rfl) (gr_ty (fun _ h => by cases h)) (6, .inl (fun _ => 0)) (fun ad cy => zcG_int (by decide +kernel) (by decide +kernel)) (fun _ => rfl) (by omega) (okc (okr (by omega)) okn) (oksc (okr (by omega)) oksn) (by decide) (by decide) ?_
  refine g_putR hK hI fl_X11_68 (fun _ C T N h => by cases h; rfl) dX11_init_130 (by decide +kernel) (by decide) (by decide) (by decide +kernel) (fun _ => rfl) (fun _ => rfl) ?_
  refine g_aload_n hK dX11_init_133 0 rfl rfl ?_
  refine g_bipush hK (60 : Int32) dX11_init_134 bi_60 ?_
  refine g_newa (atype := .int) (ty := .int) (ki := 12) (t0 := 0) hK ac_int rfl dX11_init_136 (by decide +kernel) (by decide +kernel) (by decide) tn_60 (by decide) (fun _ => rfl) (gr_ty (fun _ h => by cases h)) (60, .inl (fun _ => 0)) (fun ad cy => zcG_int (by decide +kernel) (by decide +kernel)) (fun _ => rfl) (by omega) (okc (okr (by omega)) okn) (oksc (okr (by omega)) oksn) (by decide) (by decide) ?_
  refine g_putR hK hI fl_X11_71 (fun _ C T N h => by cases h; rfl) dX11_init_138 (by decide +kernel) (by decide) (by decide) (by decide +kernel) (fun _ => rfl) (fun _ => rfl) ?_
  refine g_aload_n hK dX11_init_141 0 rfl rfl ?_
  refine g_pc (pc' := 142) rfl ?_
  refine g_bipush hK (60 : Int32) dX11_init_142 bi_60 ?_
  refine g_newa (atype := .int) (ty := .int) (ki := 12) (t0 := 0) hK ac_int rfl dX11_init_144 (by decide +kernel) (by decide +kernel) (by decide) tn_60 (by decide) (fun _ => rfl) (gr_ty (fun _ h => by cases h)) (60, .inl (fun _ => 0)) (fun ad cy => zcG_int (by decide +kernel) (by decide +kernel)) (fun _ => rfl) (by omega) (okc (okr (by omega)) okn) (oksc (okr (by omega)) oksn) (by decide) (by decide) ?_
  refine g_putR hK hI fl_X11_74 (fun _ C T N h => by cases h; rfl) dX11_init_146 (by decide +kernel) (by decide) (by decide) (by decide +kernel) (fun _ => rfl) (fun _ => rfl) ?_
  refine g_aload_n hK dX11_init_149 0 rfl rfl ?_
  refine g_bipush hK (60 : Int32) dX11_init_150 bi_60 ?_
  refine g_newa (atype := .int) (ty := .int) (ki := 12) (t0 := 0) hK ac_int rfl dX11_init_152 (by decide +kernel) (by decide +kernel) (by decide) tn_60 (by decide) (fun _ => rfl) (gr_ty (fun _ h => by cases h)) (60, .inl (fun _ => 0)) (fun ad cy => zcG_int (by decide +kernel) (by decide +kernel)) (fun _ => rfl) (by omega) (okc (okr (by omega)) okn) (oksc (okr (by omega)) oksn) (by decide) (by decide) ?_
  refine g_putR hK hI fl_X11_77 (fun _ C T N h => by cases h; rfl) dX11_init_154 (by decide +kernel) (by decide) (by decide) (by decide +kernel) (fun _ => rfl) (fun _ => rfl) ?_
  refine g_aload_n hK dX11_init_157 0 rfl rfl ?_
  refine g_pc (pc' := 158) rfl ?_
  refine g_bipush hK (60 : Int32) dX11_init_158 bi_60 ?_
  refine g_newa (atype := .int) (ty := .int) (ki := 12) (t0 := 0) hK ac_int rfl dX11_init_160 (by decide +kernel) (by decide +kernel) (by decide) tn_60 (by decide) (fun _ => rfl) (gr_ty (fun _ h => by cases h)) (60, .inl (fun _ => 0)) (fun ad cy => zcG_int (by decide +kernel) (by decide +kernel)) (fun _ => rfl) (by omega) (okc (okr (by omega)) okn) (oksc (okr (by omega)) oksn) (by decide) (by decide) ?_
  refine g_putR hK hI fl_X11_80 (fun _ C T N h => by cases h; rfl) dX11_init_162 (by decide +kernel) (by decide) (by decide) (by decide +kernel) (fun _ => rfl) (fun _ => rfl) ?_
  refine g_aload_n hK dX11_init_165 0 rfl rfl ?_
  refine g_bipush hK (6 : Int32) dX11_init_166 bi_6 ?_
  refine g_newa (atype := .int) (ty := .int) (ki := 12) (t0 := 0) hK ac_int rfl dX11_init_168 (by decide +kernel) (by decide +kernel) (by decide) tn_6 (by decide) (fun _ => rfl) (gr_ty (fun _ h => by cases h)) (6, .inl (fun _ => 0)) (fun ad cy => zcG_int (by decide +kernel) (by decide +kernel)) (fun _ => rfl) (by omega) (okc (okr (by omega)) okn) (oksc (okr (by omega)) oksn) (by decide) (by decide) ?_
  refine g_putR hK hI fl_X11_83 (fun _ C T N h => by cases h; rfl) dX11_init_170 (by decide +kernel) (by decide) (by decide) (by decide +kernel) (fun _ => rfl) (fun _ => rfl) ?_
  refine g_aload_n hK dX11_init_173 0 rfl rfl ?_
  refine g_pc (pc' := 174) rfl ?_
  refine g_bipush hK (8 : Int32) dX11_init_174 bi_8 ?_
  refine g_newa (atype := .int) (ty := .int) (ki := 12) (t0 := 0) hK ac_int rfl dX11_init_176 (by decide +kernel) (by decide +kernel) (by decide) tn_8 (by decide) (fun _ => rfl) (gr_ty (fun _ h => by cases h)) (8, .inl (fun _ => 0)) (fun ad cy => zcG_int (by decide +kernel) (by decide +kernel)) (fun _ => rfl) (by omega) (okc (okr (by omega)) okn) (oksc (okr (by omega)) oksn) (by decide) (by decide) ?_
  refine g_putR hK hI fl_X11_86 (fun _ C T N h => by cases h; rfl) dX11_init_178 (by decide +kernel) (by decide) (by decide) (by decide +kernel) (fun _ => rfl) (fun _ => rfl) ?_
  refine g_aload_n hK dX11_init_181 0 rfl rfl ?_
  refine g_sipush hK (2048 : Int32) dX11_init_182 si_2048 ?_
  refine g_newa (atype := .int) (ty := .int) (ki := 12) (t0 := 0) hK ac_int rfl dX11_init_185 (by decide +kernel) (by decide +kernel) (by decide) tn_2048 (by decide) (fun _ => rfl) (gr_ty (fun _ h => by cases h)) (2048, .inl (fun _ => 0)) (fun ad cy => zcG_int (by decide +kernel) (by decide +kernel)) (fun _ => rfl) (by omega) (okc (okr (by omega)) okn) (oksc (okr (by omega)) oksn) (by decide) (by decide) ?_
  refine g_putR hK hI fl_X11_89 (fun _ C T N h => by cases h; rfl) dX11_init_187 (by decide +kernel) (by decide) (by decide) (by decide +kernel) (fun _ => rfl) (fun _ => rfl) ?_
  refine g_aload_n hK dX11_init_190 0 rfl rfl ?_
  refine g_pc (pc' := 191) rfl ?_
  refine g_bipush hK (12 : Int32) dX11_init_191 bi_12 ?_
  refine g_newa (atype := .int) (ty := .int) (ki := 12) (t0 := 0) hK ac_int rfl dX11_init_193 (by decide +kernel) (by decide +kernel) (by decide) tn_12 (by decide) (fun _ => rfl) (gr_ty (fun _ h => by cases h)) (12, .inl (fun _ => 0)) (fun ad cy => zcG_int (by decide +kernel) (by decide +kernel)) (fun _ => rfl) (by omega) (okc (okr (by omega)) okn) (oksc (okr (by omega)) oksn) (by decide) (by decide) ?_
  refine g_putR hK hI fl_X11_92 (fun _ C T N h => by cases h; rfl) dX11_init_195 (by decide +kernel) (by decide) (by decide) (by decide +kernel) (fun _ => rfl) (fun _ => rfl) ?_
  refine g_aload_n hK dX11_init_198 0 rfl rfl ?_
  refine g_bipush hK (12 : Int32) dX11_init_199 bi_12 ?_
  refine g_newa (atype := .int) (ty := .int) (ki := 12) (t0 := 0) hK ac_int rfl dX11_init_201 (by decide +kernel) (by decide +kernel) (by decide) tn_12 (by decide) (fun _ => rfl) (gr_ty (fun _ h => by cases h)) (12, .inl (fun _ => 0)) (fun ad cy => zcG_int (by decide +kernel) (by decide +kernel)) (fun _ => rfl) (by omega) (okc (okr (by omega)) okn) (oksc (okr (by omega)) oksn) (by decide) (by decide) ?_
  refine g_putR hK hI fl_X11_95 (fun _ C T N h => by cases h; rfl) dX11_init_203 (by decide +kernel) (by decide) (by decide) (by decide +kernel) (fun _ => rfl) (fun _ => rfl) ?_
  refine g_aload_n hK dX11_init_206 0 rfl rfl ?_
  refine g_pc (pc' := 207) rfl ?_
  refine g_bipush hK (10 : Int32) dX11_init_207 bi_10 ?_
  refine g_newa (atype := .int) (ty := .int) (ki := 12) (t0 := 0) hK ac_int rfl dX11_init_209 (by decide +kernel) (by decide +kernel) (by decide) tn_10 (by decide) (fun _ => rfl) (gr_ty (fun _ h => by cases h)) (10, .inl (fun _ => 0)) (fun ad cy => zcG_int (by decide +kernel) (by decide +kernel)) (fun _ => rfl) (by omega) (okc (okr (by omega)) okn) (oksc (okr (by omega)) oksn) (by decide) (by decide) ?_
  refine g_putR hK hI fl_X11_98 (fun _ C T N h => by cases h; rfl) dX11_init_211 (by decide +kernel) (by decide) (by decide) (by decide +kernel) (fun _ => rfl) (fun _ => rfl) ?_
  refine g_aload_n hK dX11_init_214 0 rfl rfl ?_
  refine g_bipush hK (10 : Int32) dX11_init_215 bi_10 ?_
  refine g_newa (atype := .int) (ty := .int) (ki := 12) (t0 := 0) hK ac_int rfl dX11_init_217 (by decide +kernel) (by decide +kernel) (by decide) tn_10 (by decide) (fun _ => rfl) (gr_ty (fun _ h => by cases h)) (10, .inl (fun _ => 0)) (fun ad cy => zcG_int (by decide +kernel) (by decide +kernel)) (fun _ => rfl) (by omega) (okc (okr (by omega)) okn) (oksc (okr (by omega)) oksn) (by decide) (by decide) ?_
  refine g_putR hK hI fl_X11_101 (fun _ C T N h => by cases h; rfl) dX11_init_219 (by decide +kernel) (by decide) (by decide) (by decide +kernel) (fun _ => rfl) (fun _ => rfl) ?_
  refine g_aload_n hK dX11_init_222 0 rfl rfl ?_
  refine g_pc (pc' := 223) rfl ?_
  refine g_bipush hK (10 : Int32) dX11_init_223 bi_10 ?_
  refine g_newa (atype := .int) (ty := .int) (ki := 12) (t0 := 0) hK ac_int rfl dX11_init_225 (by decide +kernel) (by decide +kernel) (by decide) tn_10 (by decide) (fun _ => rfl) (gr_ty (fun _ h => by cases h)) (10, .inl (fun _ => 0)) (fun ad cy => zcG_int (by decide +kernel) (by decide +kernel)) (fun _ => rfl) (by omega) (okc (okr (by omega)) okn) (oksc (okr (by omega)) oksn) (by decide) (by decide) ?_
  refine g_putR hK hI fl_X11_104 (fun _ C T N h => by cases h; rfl) dX11_init_227 (by decide +kernel) (by decide) (by decide) (by decide +kernel) (fun _ => rfl) (fun _ => rfl) ?_
  refine g_aload_n hK dX11_init_230 0 rfl rfl ?_
  refine g_bipush hK (8 : Int32) dX11_init_231 bi_8 ?_
  refine g_newa (atype := .long) (ty := .long) (ki := 14) (t0 := 2) hK ac_long rfl dX11_init_233 (by decide +kernel) (by decide +kernel) (by decide) tn_8 (by decide) (fun _ => rfl) (gr_ty (fun _ h => by cases h)) (8, .inr (.inl (fun _ => 0))) (fun ad cy => zcG_long (by decide +kernel) (by decide +kernel)) (fun _ => rfl) (by omega) (okc (okr (by omega)) okn) (oksc (okr (by omega)) oksn) (by decide) (by decide) ?_
  refine g_putR hK hI fl_X11_107 (fun _ C T N h => by cases h; rfl) dX11_init_235 (by decide +kernel) (by decide) (by decide) (by decide +kernel) (fun _ => rfl) (fun _ => rfl) ?_
  refine g_aload_n hK dX11_init_238 0 rfl rfl ?_
  refine g_pc (pc' := 239) rfl ?_
  refine g_bipush hK (8 : Int32) dX11_init_239 bi_8 ?_
  refine g_newa (atype := .long) (ty := .long) (ki := 14) (t0 := 2) hK ac_long rfl dX11_init_241 (by decide +kernel) (by decide +kernel) (by decide) tn_8 (by decide) (fun _ => rfl) (gr_ty (fun _ h => by cases h)) (8, .inr (.inl (fun _ => 0))) (fun ad cy => zcG_long (by decide +kernel) (by decide +kernel)) (fun _ => rfl) (by omega) (okc (okr (by omega)) okn) (oksc (okr (by omega)) oksn) (by decide) (by decide) ?_
  refine g_putR hK hI fl_X11_110 (fun _ C T N h => by cases h; rfl) dX11_init_243 (by decide +kernel) (by decide) (by decide) (by decide +kernel) (fun _ => rfl) (fun _ => rfl) ?_
  refine g_aload_n hK dX11_init_246 0 rfl rfl ?_
  refine g_sipush hK (610 : Int32) dX11_init_247 si_610 ?_
  refine g_newa (atype := .int) (ty := .int) (ki := 12) (t0 := 0) hK ac_int rfl dX11_init_250 (by decide +kernel) (by decide +kernel) (by decide) tn_610 (by decide) (fun _ => rfl) (gr_ty (fun _ h => by cases h)) (610, .inl (fun _ => 0)) (fun ad cy => zcG_int (by decide +kernel) (by decide +kernel)) (fun _ => rfl) (by omega) (okc (okr (by omega)) okn) (oksc (okr (by omega)) oksn) (by decide) (by decide) ?_
  refine g_putR hK hI fl_X11_113 (fun _ C T N h => by cases h; rfl) dX11_init_252 (by decide +kernel) (by decide) (by decide) (by decide +kernel) (fun _ => rfl) (fun _ => rfl) ?_
  refine g_aload_n hK dX11_init_255 0 rfl rfl ?_
  refine g_pc (pc' := 256) rfl ?_
  refine g_bipush hK (80 : Int32) dX11_init_256 bi_80 ?_
  refine g_newa (atype := .int) (ty := .int) (ki := 12) (t0 := 0) hK ac_int rfl dX11_init_258 (by decide +kernel) (by decide +kernel) (by decide) tn_80 (by decide) (fun _ => rfl) (gr_ty (fun _ h => by cases h)) (80, .inl (fun _ => 0)) (fun ad cy => zcG_int (by decide +kernel) (by decide +kernel)) (fun _ => rfl) (by omega) (okc (okr (by omega)) okn) (oksc (okr (by omega)) oksn) (by decide) (by decide) ?_
  refine g_putR hK hI fl_X11_116 (fun _ C T N h => by cases h; rfl) dX11_init_260 (by decide +kernel) (by decide) (by decide) (by decide +kernel) (fun _ => rfl) (fun _ => rfl) ?_
  refine g_aload_n hK dX11_init_263 0 rfl rfl ?_
  refine g_iconst hK (3 : Int32) dX11_init_264 ic_3 ?_
  refine g_newa (atype := .boolean) (ty := .boolean) (ki := 15) (t0 := 3) hK ac_boolean rfl dX11_init_265 (by decide +kernel) (by decide +kernel) (by decide) tn_3 (by decide) (fun _ => rfl) (gr_ty (fun _ h => by cases h)) (3, .inl (fun _ => 0)) (fun ad cy => zcG_boolean (by decide +kernel) (by decide +kernel)) (fun _ => rfl) (by omega) (okc (okr (by omega)) okn) (oksc (okr (by omega)) oksn) (by decide) (by decide) ?_
  refine g_putR hK hI fl_X11_119 (fun _ C T N h => by cases h; rfl) dX11_init_267 (by decide +kernel) (by decide) (by decide) (by decide +kernel) (fun _ => rfl) (fun _ => rfl) ?_
  refine g_aload_n hK dX11_init_270 0 rfl rfl ?_
  refine g_pc (pc' := 271) rfl ?_
  refine g_iconst hK (3 : Int32) dX11_init_271 ic_3 ?_
  refine g_newa (atype := .int) (ty := .int) (ki := 12) (t0 := 0) hK ac_int rfl dX11_init_272 (by decide +kernel) (by decide +kernel) (by decide) tn_3 (by decide) (fun _ => rfl) (gr_ty (fun _ h => by cases h)) (3, .inl (fun _ => 0)) (fun ad cy => zcG_int (by decide +kernel) (by decide +kernel)) (fun _ => rfl) (by omega) (okc (okr (by omega)) okn) (oksc (okr (by omega)) oksn) (by decide) (by decide) ?_
  refine g_putR hK hI fl_X11_122 (fun _ C T N h => by cases h; rfl) dX11_init_274 (by decide +kernel) (by decide) (by decide) (by decide +kernel) (fun _ => rfl) (fun _ => rfl) ?_
  refine g_aload_n hK dX11_init_277 0 rfl rfl ?_
  refine g_bipush hK (117 : Int32) dX11_init_278 bi_117 ?_
  refine g_newa (atype := .int) (ty := .int) (ki := 12) (t0 := 0) hK ac_int rfl dX11_init_280 (by decide +kernel) (by decide +kernel) (by decide) tn_117 (by decide) (fun _ => rfl) (gr_ty (fun _ h => by cases h)) (117, .inl (fun _ => 0)) (fun ad cy => zcG_int (by decide +kernel) (by decide +kernel)) (fun _ => rfl) (by omega) (okc (okr (by omega)) okn) (oksc (okr (by omega)) oksn) (by decide) (by decide) ?_
  refine g_putR hK hI fl_X11_125 (fun _ C T N h => by cases h; rfl) dX11_init_282 (by decide +kernel) (by decide) (by decide) (by decide +kernel) (fun _ => rfl) (fun _ => rfl) ?_
  exact g_ret hK hI dX11_init_285 ha
