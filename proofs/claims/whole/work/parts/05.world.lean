/-! the words: those of the tables that stay; where each stands -/
def zT : List Cond := lw_tbl.filter goodWord
theorem zT_in {w : Cond} (h : w ∈ lw_tbl) (g : goodWord w = true) : w ∈ zT := List.mem_filter.mpr ⟨h, g⟩
theorem zT_good : ∀ w ∈ zT, w ∈ zT ∧ ((w.onTables && w.keeps) = true ∨ ∃ ty, w = .arrayClass ty) := fun w h => ⟨h, good_of_word (List.mem_filter.mp h).2⟩
theorem zt0 {w : Cond} (h : w ∈ tables_1) : w ∈ lw_tbl := List.mem_append_right _ h
theorem zt1 {w : Cond} (h : w ∈ tables_1_1) : w ∈ lw_tbl := zt0 (List.mem_append_left _ h)
theorem zt2 {w : Cond} (h : w ∈ tables_1_2) : w ∈ lw_tbl := zt0 (List.mem_append_right _ (List.mem_append_left _ h))
theorem zt3 {w : Cond} (h : w ∈ tables_1_3) : w ∈ lw_tbl := zt0 (List.mem_append_right _ (List.mem_append_right _ (List.mem_append_left _ h)))
theorem zt4 {w : Cond} (h : w ∈ tables_1_4) : w ∈ lw_tbl := zt0 (List.mem_append_right _ (List.mem_append_right _ (List.mem_append_right _ (List.mem_append_left _ h))))
theorem zt5 {w : Cond} (h : w ∈ tables_1_5) : w ∈ lw_tbl := zt0 (List.mem_append_right _ (List.mem_append_right _ (List.mem_append_right _ (List.mem_append_right _ (List.mem_append_left _ h)))))
theorem zt6 {w : Cond} (h : w ∈ tables_1_6) : w ∈ lw_tbl := zt0 (List.mem_append_right _ (List.mem_append_right _ (List.mem_append_right _ (List.mem_append_right _ (List.mem_append_right _ (List.mem_append_left _ h))))))
theorem zt7 {w : Cond} (h : w ∈ tables_1_7) : w ∈ lw_tbl := zt0 (List.mem_append_right _ (List.mem_append_right _ (List.mem_append_right _ (List.mem_append_right _ (List.mem_append_right _ (List.mem_append_right _ (List.mem_append_left _ h)))))))
theorem zt8 {w : Cond} (h : w ∈ tables_1_8) : w ∈ lw_tbl := zt0 (List.mem_append_right _ (List.mem_append_right _ (List.mem_append_right _ (List.mem_append_right _ (List.mem_append_right _ (List.mem_append_right _ (List.mem_append_right _ (h))))))))
theorem zs0 {w : Cond} (h : w ∈ k2_sels lw_privs) : w ∈ lw_tbl := List.mem_append_left _ h
theorem zs1 {q : MethodName × Nat} (h : q ∈ lw_privs) : Cond.selects q.1.cls q.1 q.1 ∈ lw_tbl := zs0 (List.mem_map.mpr ⟨q, h, rfl⟩)
theorem zp1 {q : MethodName × Nat} (h : q ∈ lw_privs_1) : q ∈ lw_privs := List.mem_append_left _ h
theorem zp2 {q : MethodName × Nat} (h : q ∈ lw_privs_2) : q ∈ lw_privs := List.mem_append_right _ (List.mem_append_left _ h)
theorem zp3 {q : MethodName × Nat} (h : q ∈ lw_privs_3) : q ∈ lw_privs := List.mem_append_right _ (List.mem_append_right _ (List.mem_append_left _ h))
theorem zp4 {q : MethodName × Nat} (h : q ∈ lw_privs_4) : q ∈ lw_privs := List.mem_append_right _ (List.mem_append_right _ (List.mem_append_right _ (List.mem_append_left _ h)))
theorem zp5 {q : MethodName × Nat} (h : q ∈ lw_privs_5) : q ∈ lw_privs := List.mem_append_right _ (List.mem_append_right _ (List.mem_append_right _ (List.mem_append_right _ (List.mem_append_left _ h))))
theorem zp6 {q : MethodName × Nat} (h : q ∈ lw_privs_6) : q ∈ lw_privs := List.mem_append_right _ (List.mem_append_right _ (List.mem_append_right _ (List.mem_append_right _ (List.mem_append_right _ (h)))))
def zN : Nat := 159
def zkL : List Nat := [10, 8, 13, 0, 12, 12, 7, 12, 12, 12, 5, 14, 4, 16, 7, 12, 12, 12, 7, 12, 12, 12, 7, 12, 12, 12, 7, 12, 12, 12, 7, 12, 12, 12, 7, 12, 12, 12, 7, 12, 12, 12, 7, 12, 12, 12, 7, 12, 12, 12, 7, 12, 12, 12, 7, 12, 12, 12, 7, 12, 12, 12, 7, 12, 12, 12, 7, 12, 12, 12, 7, 12, 12, 12, 7, 12, 12, 12, 16, 7, 12, 12, 12, 7, 12, 12, 12, 7, 12, 12, 12, 15, 2, 12, 12, 12, 14, 14, 9, 12, 12, 1, 12, 12, 3, 12, 12, 12, 12, 12, 6, 12, 13, 12, 12, 6, 12, 13, 12, 12, 12, 12, 11, 14, 12, 12, 12, 12, 12, 12, 12, 12, 12, 12, 12, 15, 12, 12, 12, 12, 12, 12, 12, 12, 12, 12, 12, 12, 12, 12, 12, 14, 14, 12, 12, 15, 12, 12, 14]
def zlL : List Nat := [0, 0, 80, 0, 12, 12, 0, 12, 12, 12, 0, 16, 0, 16, 0, 12, 12, 12, 0, 12, 12, 12, 0, 12, 12, 12, 0, 12, 12, 12, 0, 12, 12, 12, 0, 12, 12, 12, 0, 12, 12, 12, 0, 12, 12, 12, 0, 12, 12, 12, 0, 12, 12, 12, 0, 12, 12, 12, 0, 12, 12, 12, 0, 12, 12, 12, 0, 12, 12, 12, 0, 12, 12, 12, 0, 12, 12, 12, 3, 0, 12, 12, 12, 0, 12, 12, 12, 0, 12, 12, 12, 3, 0, 12, 12, 192, 8, 8, 0, 64, 2048, 0, 12, 12, 0, 10, 10, 10, 64, 8, 0, 40, 40, 7, 40, 0, 40, 40, 7, 40, 8, 61, 0, 24, 12, 12, 39, 39, 80, 48, 80, 80, 80, 7, 12, 12, 64, 624, 6, 60, 60, 60, 60, 6, 8, 2048, 12, 12, 10, 10, 10, 8, 8, 610, 80, 3, 3, 117, 1]
def zrL : List (List Nat) := [[1, 3, 10, 12, 92, 98, 101, 104, 110, 115, 120, 121], [2], [], [4, 5, 0, 6], [], [], [7, 8, 9], [], [], [], [11], [], [13, 0, 0, 78, 91], [14, 18, 22, 26, 30, 34, 38, 42, 46, 50, 54, 58, 62, 66, 70, 74], [15, 16, 17], [], [], [], [19, 20, 21], [], [], [], [23, 24, 25], [], [], [], [27, 28, 29], [], [], [], [31, 32, 33], [], [], [], [35, 36, 37], [], [], [], [39, 40, 41], [], [], [], [43, 44, 45], [], [], [], [47, 48, 49], [], [], [], [51, 52, 53], [], [], [], [55, 56, 57], [], [], [], [59, 60, 61], [], [], [], [63, 64, 65], [], [], [], [67, 68, 69], [], [], [], [71, 72, 73], [], [], [], [75, 76, 77], [], [], [], [79, 83, 87], [80, 81, 82], [], [], [], [84, 85, 86], [], [], [], [88, 89, 90], [], [], [], [], [3, 93, 94, 0, 0, 0, 95, 96, 97], [], [], [], [], [], [3, 99, 100], [], [], [3, 102, 103], [], [], [105, 106, 107, 0, 108, 0, 109], [], [], [], [], [], [111, 0, 112, 0, 0, 0, 0, 0, 113, 114], [], [], [], [], [116, 0, 117, 0, 0, 0, 0, 0, 118, 119], [], [], [], [], [], [], [0, 0, 123, 0, 0, 124, 125, 126, 127, 128, 0, 0, 0, 0, 129, 0, 130, 131, 0, 0, 132, 133, 134, 135, 0, 0, 0, 136, 0, 137, 138, 139, 140, 141, 142, 0, 143, 144, 145, 0, 146, 147, 0, 148, 149, 150, 151, 152, 153, 154, 0, 155, 156, 157], [], [], [], [], [], [], [], [], [], [], [], [], [], [], [], [], [], [], [], [], [], [], [], [], [], [], [], [], [], [], [], [], [], [], [], []]
def zfL : List (List Nat) := [[1, 1, 0, 1], [1, 1, 1, 0], [1, 1, 1, 0, 0, 0, 1, 1, 1], [1, 1, 1, 0, 1, 0, 1], [1, 0, 0, 1, 1], [1, 0], [1, 0, 1, 0, 0, 0, 0, 0, 1, 1], [1, 1, 1, 0, 0, 0], [1, 0], [1, 1, 1], [1, 1, 1, 1, 1, 1, 1, 1, 2, 2, 1, 1, 0], [0, 0, 1, 0, 0, 1, 1, 1, 1, 1, 0, 0, 0, 0, 1, 0, 1, 1, 0, 0, 1, 1, 1, 1, 0, 0, 0, 1, 0, 1, 1, 1, 1, 1, 1, 0, 1, 1, 1, 0, 1, 1, 0, 1, 1, 1, 1, 1, 1, 1, 0, 1, 1, 1]]
def zk (o : Nat) : Nat := zkL.getD o 99
def zl (o : Nat) : Nat := zlL.getD o 0
def zr (o k : Nat) : Nat := (zrL.getD o []).getD k 0
def zf (c k : Nat) : Nat := (zfL.getD c []).getD k 0
def zn (c : Nat) : Nat := (zfL.getD c []).length
/-- a class by its number -/
def zCL (ci : Nat) (C : String) (T : u_T) (N : Nat) : Prop := vwCl[ci]? = some (C, T, N) ∧ N = zn ci ∧ ci < 12 ∧ (∀ w ∈ u_ws C T N, w ∈ zT) ∧ (∃ ty0 : Nat → FieldType, ∀ k, k < N → parseFieldDescriptor (T k).2.2.1 = some (ty0 k)) ∧ (∀ a, a < N → ∀ b, b < N → a ≠ b → (T a).2.1 ≠ (T b).2.1)
/-- a link to a field: the class's number, the field's place, its type, whether it is final -/
def zFL (own : String) (idx ci k : Nat) (ty : FieldType) (fin : Bool) : Prop := ∃ (C : String) (T : u_T) (N : Nat), zCL ci C T N ∧ k < N ∧ Cond.fieldLink own idx (T k).1 (T k).2.1 (T k).2.2.1 ∈ zT ∧ parseFieldDescriptor (T k).2.2.1 = some ty ∧ (T k).2.2.2 = fin
/-- an object of a class, an array of a kind and length, by number -/
def zO (ci o : Nat) : Prop := zk o = ci ∧ o < zN
def zB (ki n o : Nat) : Prop := zk o = ki ∧ o < zN ∧ zl o = n
theorem zwX0_0 : u_lay RX0 TX0 0 ∈ zT := zT_in (zt1 (List.mem_of_getElem? (i := 123) rfl)) rfl
theorem zwX0_1 : u_lay RX0 TX0 1 ∈ zT := zT_in (zt1 (List.mem_of_getElem? (i := 125) rfl)) rfl
theorem zwX0_2 : u_lay RX0 TX0 2 ∈ zT := zT_in (zt1 (List.mem_of_getElem? (i := 127) rfl)) rfl
theorem zwX0_3 : u_lay RX0 TX0 3 ∈ zT := zT_in (zt1 (List.mem_of_getElem? (i := 129) rfl)) rfl
theorem zinX0 : ∀ w ∈ wsX00, w ∈ zT := by
  show ∀ w ∈ [u_lay RX0 TX0 0, u_lay RX0 TX0 1, u_lay RX0 TX0 2, u_lay RX0 TX0 3], w ∈ zT
  exact List.forall_mem_cons.mpr ⟨zwX0_0, List.forall_mem_cons.mpr ⟨zwX0_1, List.forall_mem_cons.mpr ⟨zwX0_2, List.forall_mem_cons.mpr ⟨zwX0_3, fun _ h => absurd h List.not_mem_nil⟩⟩⟩⟩
theorem zclX0 : zCL 0 RX0 TX0 4 := ⟨rfl, rfl, by decide, zinX0, ⟨tyX0, tyX0_ok⟩, nmX0⟩
theorem zwX1_0 : u_lay RX1 TX1 0 ∈ zT := zT_in (zt2 (List.mem_of_getElem? (i := 3) rfl)) rfl
theorem zwX1_1 : u_lay RX1 TX1 1 ∈ zT := zT_in (zt2 (List.mem_of_getElem? (i := 5) rfl)) rfl
theorem zwX1_2 : u_lay RX1 TX1 2 ∈ zT := zT_in (zt2 (List.mem_of_getElem? (i := 7) rfl)) rfl
theorem zwX1_3 : u_lay RX1 TX1 3 ∈ zT := zT_in (zt2 (List.mem_of_getElem? (i := 9) rfl)) rfl
theorem zinX1 : ∀ w ∈ wsX10, w ∈ zT := by
  show ∀ w ∈ [u_lay RX1 TX1 0, u_lay RX1 TX1 1, u_lay RX1 TX1 2, u_lay RX1 TX1 3], w ∈ zT
  exact List.forall_mem_cons.mpr ⟨zwX1_0, List.forall_mem_cons.mpr ⟨zwX1_1, List.forall_mem_cons.mpr ⟨zwX1_2, List.forall_mem_cons.mpr ⟨zwX1_3, fun _ h => absurd h List.not_mem_nil⟩⟩⟩⟩
theorem zclX1 : zCL 1 RX1 TX1 4 := ⟨rfl, rfl, by decide, zinX1, ⟨tyX1, tyX1_ok⟩, nmX1⟩
theorem zwX2_0 : u_lay RX2 TX2 0 ∈ zT := zT_in (zt1 (List.mem_of_getElem? (i := 197) rfl)) rfl
theorem zwX2_1 : u_lay RX2 TX2 1 ∈ zT := zT_in (zt1 (List.mem_of_getElem? (i := 199) rfl)) rfl
theorem zwX2_2 : u_lay RX2 TX2 2 ∈ zT := zT_in (zt1 (List.mem_of_getElem? (i := 201) rfl)) rfl
theorem zwX2_3 : u_lay RX2 TX2 3 ∈ zT := zT_in (zt1 (List.mem_of_getElem? (i := 203) rfl)) rfl
theorem zwX2_4 : u_lay RX2 TX2 4 ∈ zT := zT_in (zt1 (List.mem_of_getElem? (i := 205) rfl)) rfl
theorem zwX2_5 : u_lay RX2 TX2 5 ∈ zT := zT_in (zt1 (List.mem_of_getElem? (i := 207) rfl)) rfl
theorem zwX2_6 : u_lay RX2 TX2 6 ∈ zT := zT_in (zt1 (List.mem_of_getElem? (i := 209) rfl)) rfl
theorem zwX2_7 : u_lay RX2 TX2 7 ∈ zT := zT_in (zt1 (List.mem_of_getElem? (i := 211) rfl)) rfl
theorem zwX2_8 : u_lay RX2 TX2 8 ∈ zT := zT_in (zt1 (List.mem_of_getElem? (i := 213) rfl)) rfl
theorem zinX2 : ∀ w ∈ wsX20, w ∈ zT := by
  show ∀ w ∈ [u_lay RX2 TX2 0, u_lay RX2 TX2 1, u_lay RX2 TX2 2, u_lay RX2 TX2 3, u_lay RX2 TX2 4, u_lay RX2 TX2 5, u_lay RX2 TX2 6, u_lay RX2 TX2 7, u_lay RX2 TX2 8], w ∈ zT
  exact List.forall_mem_cons.mpr ⟨zwX2_0, List.forall_mem_cons.mpr ⟨zwX2_1, List.forall_mem_cons.mpr ⟨zwX2_2, List.forall_mem_cons.mpr ⟨zwX2_3, List.forall_mem_cons.mpr ⟨zwX2_4, List.forall_mem_cons.mpr ⟨zwX2_5, List.forall_mem_cons.mpr ⟨zwX2_6, List.forall_mem_cons.mpr ⟨zwX2_7, List.forall_mem_cons.mpr ⟨zwX2_8, fun _ h => absurd h List.not_mem_nil⟩⟩⟩⟩⟩⟩⟩⟩⟩
theorem zclX2 : zCL 2 RX2 TX2 9 := ⟨rfl, rfl, by decide, zinX2, ⟨tyX2, tyX2_ok⟩, nmX2⟩
theorem zwX3_0 : u_lay RX3 TX3 0 ∈ zT := zT_in (zt2 (List.mem_of_getElem? (i := 28) rfl)) rfl
theorem zwX3_1 : u_lay RX3 TX3 1 ∈ zT := zT_in (zt2 (List.mem_of_getElem? (i := 30) rfl)) rfl
theorem zwX3_2 : u_lay RX3 TX3 2 ∈ zT := zT_in (zt2 (List.mem_of_getElem? (i := 32) rfl)) rfl
theorem zwX3_3 : u_lay RX3 TX3 3 ∈ zT := zT_in (zt2 (List.mem_of_getElem? (i := 34) rfl)) rfl
theorem zwX3_4 : u_lay RX3 TX3 4 ∈ zT := zT_in (zt2 (List.mem_of_getElem? (i := 36) rfl)) rfl
theorem zwX3_5 : u_lay RX3 TX3 5 ∈ zT := zT_in (zt2 (List.mem_of_getElem? (i := 38) rfl)) rfl
theorem zwX3_6 : u_lay RX3 TX3 6 ∈ zT := zT_in (zt2 (List.mem_of_getElem? (i := 40) rfl)) rfl
theorem zinX3 : ∀ w ∈ wsX30, w ∈ zT := by
  show ∀ w ∈ [u_lay RX3 TX3 0, u_lay RX3 TX3 1, u_lay RX3 TX3 2, u_lay RX3 TX3 3, u_lay RX3 TX3 4, u_lay RX3 TX3 5, u_lay RX3 TX3 6], w ∈ zT
  exact List.forall_mem_cons.mpr ⟨zwX3_0, List.forall_mem_cons.mpr ⟨zwX3_1, List.forall_mem_cons.mpr ⟨zwX3_2, List.forall_mem_cons.mpr ⟨zwX3_3, List.forall_mem_cons.mpr ⟨zwX3_4, List.forall_mem_cons.mpr ⟨zwX3_5, List.forall_mem_cons.mpr ⟨zwX3_6, fun _ h => absurd h List.not_mem_nil⟩⟩⟩⟩⟩⟩⟩
theorem zclX3 : zCL 3 RX3 TX3 7 := ⟨rfl, rfl, by decide, zinX3, ⟨tyX3, tyX3_ok⟩, nmX3⟩
theorem zwX4_0 : u_lay RX4 TX4 0 ∈ zT := zT_in (zt1 (List.mem_of_getElem? (i := 163) rfl)) rfl
theorem zwX4_1 : u_lay RX4 TX4 1 ∈ zT := zT_in (zt1 (List.mem_of_getElem? (i := 165) rfl)) rfl
theorem zwX4_2 : u_lay RX4 TX4 2 ∈ zT := zT_in (zt1 (List.mem_of_getElem? (i := 167) rfl)) rfl
theorem zwX4_3 : u_lay RX4 TX4 3 ∈ zT := zT_in (zt1 (List.mem_of_getElem? (i := 169) rfl)) rfl
theorem zwX4_4 : u_lay RX4 TX4 4 ∈ zT := zT_in (zt1 (List.mem_of_getElem? (i := 171) rfl)) rfl
theorem zinX4 : ∀ w ∈ wsX40, w ∈ zT := by
  show ∀ w ∈ [u_lay RX4 TX4 0, u_lay RX4 TX4 1, u_lay RX4 TX4 2, u_lay RX4 TX4 3, u_lay RX4 TX4 4], w ∈ zT
  exact List.forall_mem_cons.mpr ⟨zwX4_0, List.forall_mem_cons.mpr ⟨zwX4_1, List.forall_mem_cons.mpr ⟨zwX4_2, List.forall_mem_cons.mpr ⟨zwX4_3, List.forall_mem_cons.mpr ⟨zwX4_4, fun _ h => absurd h List.not_mem_nil⟩⟩⟩⟩⟩
theorem zclX4 : zCL 4 RX4 TX4 5 := ⟨rfl, rfl, by decide, zinX4, ⟨tyX4, tyX4_ok⟩, nmX4⟩
theorem zwX5_0 : u_lay RX5 TX5 0 ∈ zT := zT_in (zt1 (List.mem_of_getElem? (i := 141) rfl)) rfl
theorem zwX5_1 : u_lay RX5 TX5 1 ∈ zT := zT_in (zt1 (List.mem_of_getElem? (i := 143) rfl)) rfl
theorem zinX5 : ∀ w ∈ wsX50, w ∈ zT := by
  show ∀ w ∈ [u_lay RX5 TX5 0, u_lay RX5 TX5 1], w ∈ zT
  exact List.forall_mem_cons.mpr ⟨zwX5_0, List.forall_mem_cons.mpr ⟨zwX5_1, fun _ h => absurd h List.not_mem_nil⟩⟩
theorem zclX5 : zCL 5 RX5 TX5 2 := ⟨rfl, rfl, by decide, zinX5, ⟨tyX5, tyX5_ok⟩, nmX5⟩
theorem zwX6_0 : u_lay RX6 TX6 0 ∈ zT := zT_in (zt2 (List.mem_of_getElem? (i := 59) rfl)) rfl
theorem zwX6_1 : u_lay RX6 TX6 1 ∈ zT := zT_in (zt2 (List.mem_of_getElem? (i := 61) rfl)) rfl
theorem zwX6_2 : u_lay RX6 TX6 2 ∈ zT := zT_in (zt2 (List.mem_of_getElem? (i := 63) rfl)) rfl
theorem zwX6_3 : u_lay RX6 TX6 3 ∈ zT := zT_in (zt2 (List.mem_of_getElem? (i := 65) rfl)) rfl
theorem zwX6_4 : u_lay RX6 TX6 4 ∈ zT := zT_in (zt2 (List.mem_of_getElem? (i := 67) rfl)) rfl
theorem zwX6_5 : u_lay RX6 TX6 5 ∈ zT := zT_in (zt2 (List.mem_of_getElem? (i := 69) rfl)) rfl
theorem zwX6_6 : u_lay RX6 TX6 6 ∈ zT := zT_in (zt2 (List.mem_of_getElem? (i := 71) rfl)) rfl
theorem zwX6_7 : u_lay RX6 TX6 7 ∈ zT := zT_in (zt2 (List.mem_of_getElem? (i := 73) rfl)) rfl
theorem zwX6_8 : u_lay RX6 TX6 8 ∈ zT := zT_in (zt2 (List.mem_of_getElem? (i := 75) rfl)) rfl
theorem zwX6_9 : u_lay RX6 TX6 9 ∈ zT := zT_in (zt2 (List.mem_of_getElem? (i := 77) rfl)) rfl
theorem zinX6 : ∀ w ∈ wsX60, w ∈ zT := by
  show ∀ w ∈ [u_lay RX6 TX6 0, u_lay RX6 TX6 1, u_lay RX6 TX6 2, u_lay RX6 TX6 3, u_lay RX6 TX6 4, u_lay RX6 TX6 5, u_lay RX6 TX6 6, u_lay RX6 TX6 7, u_lay RX6 TX6 8, u_lay RX6 TX6 9], w ∈ zT
  exact List.forall_mem_cons.mpr ⟨zwX6_0, List.forall_mem_cons.mpr ⟨zwX6_1, List.forall_mem_cons.mpr ⟨zwX6_2, List.forall_mem_cons.mpr ⟨zwX6_3, List.forall_mem_cons.mpr ⟨zwX6_4, List.forall_mem_cons.mpr ⟨zwX6_5, List.forall_mem_cons.mpr ⟨zwX6_6, List.forall_mem_cons.mpr ⟨zwX6_7, List.forall_mem_cons.mpr ⟨zwX6_8, List.forall_mem_cons.mpr ⟨zwX6_9, fun _ h => absurd h List.not_mem_nil⟩⟩⟩⟩⟩⟩⟩⟩⟩⟩
theorem zclX6 : zCL 6 RX6 TX6 10 := ⟨rfl, rfl, by decide, zinX6, ⟨tyX6, tyX6_ok⟩, nmX6⟩
theorem zwX7_0 : u_lay RX7 TX7 0 ∈ zT := zT_in (zt1 (List.mem_of_getElem? (i := 92) rfl)) rfl
theorem zwX7_1 : u_lay RX7 TX7 1 ∈ zT := zT_in (zt1 (List.mem_of_getElem? (i := 94) rfl)) rfl
theorem zwX7_2 : u_lay RX7 TX7 2 ∈ zT := zT_in (zt1 (List.mem_of_getElem? (i := 96) rfl)) rfl
theorem zwX7_3 : u_lay RX7 TX7 3 ∈ zT := zT_in (zt1 (List.mem_of_getElem? (i := 98) rfl)) rfl
theorem zwX7_4 : u_lay RX7 TX7 4 ∈ zT := zT_in (zt1 (List.mem_of_getElem? (i := 100) rfl)) rfl
theorem zwX7_5 : u_lay RX7 TX7 5 ∈ zT := zT_in (zt1 (List.mem_of_getElem? (i := 102) rfl)) rfl
theorem zinX7 : ∀ w ∈ wsX70, w ∈ zT := by
  show ∀ w ∈ [u_lay RX7 TX7 0, u_lay RX7 TX7 1, u_lay RX7 TX7 2, u_lay RX7 TX7 3, u_lay RX7 TX7 4, u_lay RX7 TX7 5], w ∈ zT
  exact List.forall_mem_cons.mpr ⟨zwX7_0, List.forall_mem_cons.mpr ⟨zwX7_1, List.forall_mem_cons.mpr ⟨zwX7_2, List.forall_mem_cons.mpr ⟨zwX7_3, List.forall_mem_cons.mpr ⟨zwX7_4, List.forall_mem_cons.mpr ⟨zwX7_5, fun _ h => absurd h List.not_mem_nil⟩⟩⟩⟩⟩⟩
theorem zclX7 : zCL 7 RX7 TX7 6 := ⟨rfl, rfl, by decide, zinX7, ⟨tyX7, tyX7_ok⟩, nmX7⟩
theorem zwX8_0 : u_lay RX8 TX8 0 ∈ zT := zT_in (zt1 (List.mem_of_getElem? (i := 45) rfl)) rfl
theorem zwX8_1 : u_lay RX8 TX8 1 ∈ zT := zT_in (zt1 (List.mem_of_getElem? (i := 47) rfl)) rfl
theorem zinX8 : ∀ w ∈ wsX80, w ∈ zT := by
  show ∀ w ∈ [u_lay RX8 TX8 0, u_lay RX8 TX8 1], w ∈ zT
  exact List.forall_mem_cons.mpr ⟨zwX8_0, List.forall_mem_cons.mpr ⟨zwX8_1, fun _ h => absurd h List.not_mem_nil⟩⟩
theorem zclX8 : zCL 8 RX8 TX8 2 := ⟨rfl, rfl, by decide, zinX8, ⟨tyX8, tyX8_ok⟩, nmX8⟩
theorem zwX9_0 : u_lay RX9 TX9 0 ∈ zT := zT_in (zt1 (List.mem_of_getElem? (i := 225) rfl)) rfl
theorem zwX9_1 : u_lay RX9 TX9 1 ∈ zT := zT_in (zt1 (List.mem_of_getElem? (i := 227) rfl)) rfl
theorem zwX9_2 : u_lay RX9 TX9 2 ∈ zT := zT_in (zt1 (List.mem_of_getElem? (i := 229) rfl)) rfl
theorem zinX9 : ∀ w ∈ wsX90, w ∈ zT := by
  show ∀ w ∈ [u_lay RX9 TX9 0, u_lay RX9 TX9 1, u_lay RX9 TX9 2], w ∈ zT
  exact List.forall_mem_cons.mpr ⟨zwX9_0, List.forall_mem_cons.mpr ⟨zwX9_1, List.forall_mem_cons.mpr ⟨zwX9_2, fun _ h => absurd h List.not_mem_nil⟩⟩⟩
theorem zclX9 : zCL 9 RX9 TX9 3 := ⟨rfl, rfl, by decide, zinX9, ⟨tyX9, tyX9_ok⟩, nmX9⟩
theorem zwX10_0 : u_lay RX10 TX10 0 ∈ zT := zT_in (zt2 (List.mem_of_getElem? (i := 93) rfl)) rfl
theorem zwX10_1 : u_lay RX10 TX10 1 ∈ zT := zT_in (zt2 (List.mem_of_getElem? (i := 95) rfl)) rfl
theorem zwX10_2 : u_lay RX10 TX10 2 ∈ zT := zT_in (zt2 (List.mem_of_getElem? (i := 97) rfl)) rfl
theorem zwX10_3 : u_lay RX10 TX10 3 ∈ zT := zT_in (zt2 (List.mem_of_getElem? (i := 99) rfl)) rfl
theorem zwX10_4 : u_lay RX10 TX10 4 ∈ zT := zT_in (zt2 (List.mem_of_getElem? (i := 101) rfl)) rfl
theorem zwX10_5 : u_lay RX10 TX10 5 ∈ zT := zT_in (zt2 (List.mem_of_getElem? (i := 103) rfl)) rfl
theorem zwX10_6 : u_lay RX10 TX10 6 ∈ zT := zT_in (zt2 (List.mem_of_getElem? (i := 105) rfl)) rfl
theorem zwX10_7 : u_lay RX10 TX10 7 ∈ zT := zT_in (zt2 (List.mem_of_getElem? (i := 107) rfl)) rfl
theorem zwX10_8 : u_lay RX10 TX10 8 ∈ zT := zT_in (zt2 (List.mem_of_getElem? (i := 109) rfl)) rfl
theorem zwX10_9 : u_lay RX10 TX10 9 ∈ zT := zT_in (zt2 (List.mem_of_getElem? (i := 111) rfl)) rfl
theorem zwX10_10 : u_lay RX10 TX10 10 ∈ zT := zT_in (zt2 (List.mem_of_getElem? (i := 113) rfl)) rfl
theorem zwX10_11 : u_lay RX10 TX10 11 ∈ zT := zT_in (zt2 (List.mem_of_getElem? (i := 115) rfl)) rfl
theorem zwX10_12 : u_lay RX10 TX10 12 ∈ zT := zT_in (zt2 (List.mem_of_getElem? (i := 117) rfl)) rfl
theorem zinX10 : ∀ w ∈ wsX100, w ∈ zT := by
  show ∀ w ∈ [u_lay RX10 TX10 0, u_lay RX10 TX10 1, u_lay RX10 TX10 2, u_lay RX10 TX10 3, u_lay RX10 TX10 4, u_lay RX10 TX10 5, u_lay RX10 TX10 6, u_lay RX10 TX10 7, u_lay RX10 TX10 8, u_lay RX10 TX10 9, u_lay RX10 TX10 10, u_lay RX10 TX10 11, u_lay RX10 TX10 12], w ∈ zT
  exact List.forall_mem_cons.mpr ⟨zwX10_0, List.forall_mem_cons.mpr ⟨zwX10_1, List.forall_mem_cons.mpr ⟨zwX10_2, List.forall_mem_cons.mpr ⟨zwX10_3, List.forall_mem_cons.mpr ⟨zwX10_4, List.forall_mem_cons.mpr ⟨zwX10_5, List.forall_mem_cons.mpr ⟨zwX10_6, List.forall_mem_cons.mpr ⟨zwX10_7, List.forall_mem_cons.mpr ⟨zwX10_8, List.forall_mem_cons.mpr ⟨zwX10_9, List.forall_mem_cons.mpr ⟨zwX10_10, List.forall_mem_cons.mpr ⟨zwX10_11, List.forall_mem_cons.mpr ⟨zwX10_12, fun _ h => absurd h List.not_mem_nil⟩⟩⟩⟩⟩⟩⟩⟩⟩⟩⟩⟩⟩
theorem zclX10 : zCL 10 RX10 TX10 13 := ⟨rfl, rfl, by decide, zinX10, ⟨tyX10, tyX10_ok⟩, nmX10⟩
theorem zwX11_0 : u_lay RX11 TX11 0 ∈ zT := zT_in (zt6 (List.mem_of_getElem? (i := 33) rfl)) rfl
theorem zwX11_1 : u_lay RX11 TX11 1 ∈ zT := zT_in (zt6 (List.mem_of_getElem? (i := 35) rfl)) rfl
theorem zwX11_2 : u_lay RX11 TX11 2 ∈ zT := zT_in (zt6 (List.mem_of_getElem? (i := 37) rfl)) rfl
theorem zwX11_3 : u_lay RX11 TX11 3 ∈ zT := zT_in (zt6 (List.mem_of_getElem? (i := 39) rfl)) rfl
theorem zwX11_4 : u_lay RX11 TX11 4 ∈ zT := zT_in (zt6 (List.mem_of_getElem? (i := 41) rfl)) rfl
theorem zwX11_5 : u_lay RX11 TX11 5 ∈ zT := zT_in (zt6 (List.mem_of_getElem? (i := 43) rfl)) rfl
theorem zwX11_6 : u_lay RX11 TX11 6 ∈ zT := zT_in (zt6 (List.mem_of_getElem? (i := 45) rfl)) rfl
theorem zwX11_7 : u_lay RX11 TX11 7 ∈ zT := zT_in (zt6 (List.mem_of_getElem? (i := 47) rfl)) rfl
theorem zwX11_8 : u_lay RX11 TX11 8 ∈ zT := zT_in (zt6 (List.mem_of_getElem? (i := 49) rfl)) rfl
theorem zwX11_9 : u_lay RX11 TX11 9 ∈ zT := zT_in (zt6 (List.mem_of_getElem? (i := 51) rfl)) rfl
theorem zwX11_10 : u_lay RX11 TX11 10 ∈ zT := zT_in (zt6 (List.mem_of_getElem? (i := 53) rfl)) rfl
theorem zwX11_11 : u_lay RX11 TX11 11 ∈ zT := zT_in (zt6 (List.mem_of_getElem? (i := 55) rfl)) rfl
theorem zwX11_12 : u_lay RX11 TX11 12 ∈ zT := zT_in (zt6 (List.mem_of_getElem? (i := 57) rfl)) rfl
theorem zwX11_13 : u_lay RX11 TX11 13 ∈ zT := zT_in (zt6 (List.mem_of_getElem? (i := 59) rfl)) rfl
theorem zwX11_14 : u_lay RX11 TX11 14 ∈ zT := zT_in (zt6 (List.mem_of_getElem? (i := 61) rfl)) rfl
theorem zwX11_15 : u_lay RX11 TX11 15 ∈ zT := zT_in (zt6 (List.mem_of_getElem? (i := 63) rfl)) rfl
theorem zwX11_16 : u_lay RX11 TX11 16 ∈ zT := zT_in (zt6 (List.mem_of_getElem? (i := 65) rfl)) rfl
theorem zwX11_17 : u_lay RX11 TX11 17 ∈ zT := zT_in (zt6 (List.mem_of_getElem? (i := 67) rfl)) rfl
theorem zwX11_18 : u_lay RX11 TX11 18 ∈ zT := zT_in (zt6 (List.mem_of_getElem? (i := 69) rfl)) rfl
theorem zwX11_19 : u_lay RX11 TX11 19 ∈ zT := zT_in (zt6 (List.mem_of_getElem? (i := 71) rfl)) rfl
theorem zwX11_20 : u_lay RX11 TX11 20 ∈ zT := zT_in (zt6 (List.mem_of_getElem? (i := 73) rfl)) rfl
theorem zwX11_21 : u_lay RX11 TX11 21 ∈ zT := zT_in (zt6 (List.mem_of_getElem? (i := 75) rfl)) rfl
theorem zwX11_22 : u_lay RX11 TX11 22 ∈ zT := zT_in (zt6 (List.mem_of_getElem? (i := 77) rfl)) rfl
theorem zwX11_23 : u_lay RX11 TX11 23 ∈ zT := zT_in (zt6 (List.mem_of_getElem? (i := 79) rfl)) rfl
theorem zwX11_24 : u_lay RX11 TX11 24 ∈ zT := zT_in (zt6 (List.mem_of_getElem? (i := 81) rfl)) rfl
theorem zwX11_25 : u_lay RX11 TX11 25 ∈ zT := zT_in (zt6 (List.mem_of_getElem? (i := 83) rfl)) rfl
theorem zwX11_26 : u_lay RX11 TX11 26 ∈ zT := zT_in (zt6 (List.mem_of_getElem? (i := 85) rfl)) rfl
theorem zwX11_27 : u_lay RX11 TX11 27 ∈ zT := zT_in (zt6 (List.mem_of_getElem? (i := 87) rfl)) rfl
theorem zwX11_28 : u_lay RX11 TX11 28 ∈ zT := zT_in (zt6 (List.mem_of_getElem? (i := 89) rfl)) rfl
theorem zwX11_29 : u_lay RX11 TX11 29 ∈ zT := zT_in (zt6 (List.mem_of_getElem? (i := 91) rfl)) rfl
theorem zwX11_30 : u_lay RX11 TX11 30 ∈ zT := zT_in (zt6 (List.mem_of_getElem? (i := 93) rfl)) rfl
theorem zwX11_31 : u_lay RX11 TX11 31 ∈ zT := zT_in (zt6 (List.mem_of_getElem? (i := 95) rfl)) rfl
theorem zwX11_32 : u_lay RX11 TX11 32 ∈ zT := zT_in (zt6 (List.mem_of_getElem? (i := 97) rfl)) rfl
theorem zwX11_33 : u_lay RX11 TX11 33 ∈ zT := zT_in (zt6 (List.mem_of_getElem? (i := 99) rfl)) rfl
theorem zwX11_34 : u_lay RX11 TX11 34 ∈ zT := zT_in (zt6 (List.mem_of_getElem? (i := 101) rfl)) rfl
theorem zwX11_35 : u_lay RX11 TX11 35 ∈ zT := zT_in (zt6 (List.mem_of_getElem? (i := 103) rfl)) rfl
theorem zwX11_36 : u_lay RX11 TX11 36 ∈ zT := zT_in (zt6 (List.mem_of_getElem? (i := 105) rfl)) rfl
theorem zwX11_37 : u_lay RX11 TX11 37 ∈ zT := zT_in (zt6 (List.mem_of_getElem? (i := 107) rfl)) rfl
theorem zwX11_38 : u_lay RX11 TX11 38 ∈ zT := zT_in (zt6 (List.mem_of_getElem? (i := 109) rfl)) rfl
theorem zwX11_39 : u_lay RX11 TX11 39 ∈ zT := zT_in (zt6 (List.mem_of_getElem? (i := 111) rfl)) rfl
theorem zwX11_40 : u_lay RX11 TX11 40 ∈ zT := zT_in (zt6 (List.mem_of_getElem? (i := 113) rfl)) rfl
theorem zwX11_41 : u_lay RX11 TX11 41 ∈ zT := zT_in (zt6 (List.mem_of_getElem? (i := 115) rfl)) rfl
theorem zwX11_42 : u_lay RX11 TX11 42 ∈ zT := zT_in (zt6 (List.mem_of_getElem? (i := 117) rfl)) rfl
theorem zwX11_43 : u_lay RX11 TX11 43 ∈ zT := zT_in (zt6 (List.mem_of_getElem? (i := 119) rfl)) rfl
theorem zwX11_44 : u_lay RX11 TX11 44 ∈ zT := zT_in (zt6 (List.mem_of_getElem? (i := 121) rfl)) rfl
theorem zwX11_45 : u_lay RX11 TX11 45 ∈ zT := zT_in (zt6 (List.mem_of_getElem? (i := 123) rfl)) rfl
theorem zwX11_46 : u_lay RX11 TX11 46 ∈ zT := zT_in (zt6 (List.mem_of_getElem? (i := 125) rfl)) rfl
theorem zwX11_47 : u_lay RX11 TX11 47 ∈ zT := zT_in (zt6 (List.mem_of_getElem? (i := 127) rfl)) rfl
theorem zwX11_48 : u_lay RX11 TX11 48 ∈ zT := zT_in (zt6 (List.mem_of_getElem? (i := 129) rfl)) rfl
theorem zwX11_49 : u_lay RX11 TX11 49 ∈ zT := zT_in (zt6 (List.mem_of_getElem? (i := 131) rfl)) rfl
theorem zwX11_50 : u_lay RX11 TX11 50 ∈ zT := zT_in (zt6 (List.mem_of_getElem? (i := 133) rfl)) rfl
theorem zwX11_51 : u_lay RX11 TX11 51 ∈ zT := zT_in (zt6 (List.mem_of_getElem? (i := 135) rfl)) rfl
theorem zwX11_52 : u_lay RX11 TX11 52 ∈ zT := zT_in (zt6 (List.mem_of_getElem? (i := 137) rfl)) rfl
theorem zwX11_53 : u_lay RX11 TX11 53 ∈ zT := zT_in (zt6 (List.mem_of_getElem? (i := 139) rfl)) rfl
theorem zinX11 : ∀ w ∈ wsX110, w ∈ zT := by
  show ∀ w ∈ [u_lay RX11 TX11 0, u_lay RX11 TX11 1, u_lay RX11 TX11 2, u_lay RX11 TX11 3, u_lay RX11 TX11 4, u_lay RX11 TX11 5, u_lay RX11 TX11 6, u_lay RX11 TX11 7, u_lay RX11 TX11 8, u_lay RX11 TX11 9, u_lay RX11 TX11 10, u_lay RX11 TX11 11, u_lay RX11 TX11 12, u_lay RX11 TX11 13, u_lay RX11 TX11 14, u_lay RX11 TX11 15, u_lay RX11 TX11 16, u_lay RX11 TX11 17, u_lay RX11 TX11 18, u_lay RX11 TX11 19, u_lay RX11 TX11 20, u_lay RX11 TX11 21, u_lay RX11 TX11 22, u_lay RX11 TX11 23, u_lay RX11 TX11 24, u_lay RX11 TX11 25, u_lay RX11 TX11 26, u_lay RX11 TX11 27, u_lay RX11 TX11 28, u_lay RX11 TX11 29, u_lay RX11 TX11 30, u_lay RX11 TX11 31, u_lay RX11 TX11 32, u_lay RX11 TX11 33, u_lay RX11 TX11 34, u_lay RX11 TX11 35, u_lay RX11 TX11 36, u_lay RX11 TX11 37, u_lay RX11 TX11 38, u_lay RX11 TX11 39, u_lay RX11 TX11 40, u_lay RX11 TX11 41, u_lay RX11 TX11 42, u_lay RX11 TX11 43, u_lay RX11 TX11 44, u_lay RX11 TX11 45, u_lay RX11 TX11 46, u_lay RX11 TX11 47, u_lay RX11 TX11 48, u_lay RX11 TX11 49, u_lay RX11 TX11 50, u_lay RX11 TX11 51, u_lay RX11 TX11 52, u_lay RX11 TX11 53], w ∈ zT
  exact List.forall_mem_cons.mpr ⟨zwX11_0, List.forall_mem_cons.mpr ⟨zwX11_1, List.forall_mem_cons.mpr ⟨zwX11_2, List.forall_mem_cons.mpr ⟨zwX11_3, List.forall_mem_cons.mpr ⟨zwX11_4, List.forall_mem_cons.mpr ⟨zwX11_5, List.forall_mem_cons.mpr ⟨zwX11_6, List.forall_mem_cons.mpr ⟨zwX11_7, List.forall_mem_cons.mpr ⟨zwX11_8, List.forall_mem_cons.mpr ⟨zwX11_9, List.forall_mem_cons.mpr ⟨zwX11_10, List.forall_mem_cons.mpr ⟨zwX11_11, List.forall_mem_cons.mpr ⟨zwX11_12, List.forall_mem_cons.mpr ⟨zwX11_13, List.forall_mem_cons.mpr ⟨zwX11_14, List.forall_mem_cons.mpr ⟨zwX11_15, List.forall_mem_cons.mpr ⟨zwX11_16, List.forall_mem_cons.mpr ⟨zwX11_17, List.forall_mem_cons.mpr ⟨zwX11_18, List.forall_mem_cons.mpr ⟨zwX11_19, List.forall_mem_cons.mpr ⟨zwX11_20, List.forall_mem_cons.mpr ⟨zwX11_21, List.forall_mem_cons.mpr ⟨zwX11_22, List.forall_mem_cons.mpr ⟨zwX11_23, List.forall_mem_cons.mpr ⟨zwX11_24, List.forall_mem_cons.mpr ⟨zwX11_25, List.forall_mem_cons.mpr ⟨zwX11_26, List.forall_mem_cons.mpr ⟨zwX11_27, List.forall_mem_cons.mpr ⟨zwX11_28, List.forall_mem_cons.mpr ⟨zwX11_29, List.forall_mem_cons.mpr ⟨zwX11_30, List.forall_mem_cons.mpr ⟨zwX11_31, List.forall_mem_cons.mpr ⟨zwX11_32, List.forall_mem_cons.mpr ⟨zwX11_33, List.forall_mem_cons.mpr ⟨zwX11_34, List.forall_mem_cons.mpr ⟨zwX11_35, List.forall_mem_cons.mpr ⟨zwX11_36, List.forall_mem_cons.mpr ⟨zwX11_37, List.forall_mem_cons.mpr ⟨zwX11_38, List.forall_mem_cons.mpr ⟨zwX11_39, List.forall_mem_cons.mpr ⟨zwX11_40, List.forall_mem_cons.mpr ⟨zwX11_41, List.forall_mem_cons.mpr ⟨zwX11_42, List.forall_mem_cons.mpr ⟨zwX11_43, List.forall_mem_cons.mpr ⟨zwX11_44, List.forall_mem_cons.mpr ⟨zwX11_45, List.forall_mem_cons.mpr ⟨zwX11_46, List.forall_mem_cons.mpr ⟨zwX11_47, List.forall_mem_cons.mpr ⟨zwX11_48, List.forall_mem_cons.mpr ⟨zwX11_49, List.forall_mem_cons.mpr ⟨zwX11_50, List.forall_mem_cons.mpr ⟨zwX11_51, List.forall_mem_cons.mpr ⟨zwX11_52, List.forall_mem_cons.mpr ⟨zwX11_53, fun _ h => absurd h List.not_mem_nil⟩⟩⟩⟩⟩⟩⟩⟩⟩⟩⟩⟩⟩⟩⟩⟩⟩⟩⟩⟩⟩⟩⟩⟩⟩⟩⟩⟩⟩⟩⟩⟩⟩⟩⟩⟩⟩⟩⟩⟩⟩⟩⟩⟩⟩⟩⟩⟩⟩⟩⟩⟩⟩⟩
theorem zclX11 : zCL 11 RX11 TX11 54 := ⟨rfl, rfl, by decide, zinX11, ⟨tyX11, tyX11_ok⟩, nmX11⟩
theorem fl_X10_10 : zFL RX10 10 10 0 (.object "CaveAdvice$Text") true := ⟨_, _, _, zclX10, by decide, zT_in (zt2 (List.mem_of_getElem? (i := 80) rfl)) rfl, by decide +kernel, rfl⟩
theorem fl_X10_123 : zFL RX10 123 0 0 (.array .int) true := ⟨_, _, _, zclX0, by decide, zT_in (zt1 (List.mem_of_getElem? (i := 108) rfl)) rfl, by decide +kernel, rfl⟩
theorem fl_X10_126 : zFL RX10 126 0 1 (.array .int) true := ⟨_, _, _, zclX0, by decide, zT_in (zt1 (List.mem_of_getElem? (i := 112) rfl)) rfl, by decide +kernel, rfl⟩
theorem fl_X10_129 : zFL RX10 129 0 3 (.object "CaveAdvice$State") true := ⟨_, _, _, zclX0, by decide, zT_in (zt1 (List.mem_of_getElem? (i := 122) rfl)) rfl, by decide +kernel, rfl⟩
theorem fl_X10_133 : zFL RX10 133 7 0 (.array .int) true := ⟨_, _, _, zclX7, by decide, zT_in (zt1 (List.mem_of_getElem? (i := 68) rfl)) rfl, by decide +kernel, rfl⟩
theorem fl_X10_138 : zFL RX10 138 7 1 (.array .int) true := ⟨_, _, _, zclX7, by decide, zT_in (zt1 (List.mem_of_getElem? (i := 73) rfl)) rfl, by decide +kernel, rfl⟩
theorem fl_X10_141 : zFL RX10 141 7 2 (.array .int) true := ⟨_, _, _, zclX7, by decide, zT_in (zt1 (List.mem_of_getElem? (i := 78) rfl)) rfl, by decide +kernel, rfl⟩
theorem fl_X10_188 : zFL RX10 188 2 4 .int false := ⟨_, _, _, zclX2, by decide, zT_in (zt1 (List.mem_of_getElem? (i := 190) rfl)) rfl, by decide +kernel, rfl⟩
theorem fl_X10_19 : zFL RX10 19 10 1 (.object "CaveAdvice$Cave") true := ⟨_, _, _, zclX10, by decide, zT_in (zt2 (List.mem_of_getElem? (i := 81) rfl)) rfl, by decide +kernel, rfl⟩
theorem fl_X10_225 : zFL RX10 225 7 5 .int false := ⟨_, _, _, zclX7, by decide, zT_in (zt1 (List.mem_of_getElem? (i := 91) rfl)) rfl, by decide +kernel, rfl⟩
theorem fl_X10_228 : zFL RX10 228 4 2 .int false := ⟨_, _, _, zclX4, by decide, zT_in (zt1 (List.mem_of_getElem? (i := 159) rfl)) rfl, by decide +kernel, rfl⟩
theorem fl_X10_254 : zFL RX10 254 2 5 .int false := ⟨_, _, _, zclX2, by decide, zT_in (zt1 (List.mem_of_getElem? (i := 192) rfl)) rfl, by decide +kernel, rfl⟩
theorem fl_X10_26 : zFL RX10 26 10 2 (.object "CaveAdvice$Row") true := ⟨_, _, _, zclX10, by decide, zT_in (zt2 (List.mem_of_getElem? (i := 82) rfl)) rfl, by decide +kernel, rfl⟩
theorem fl_X10_260 : zFL RX10 260 7 3 .int false := ⟨_, _, _, zclX7, by decide, zT_in (zt1 (List.mem_of_getElem? (i := 84) rfl)) rfl, by decide +kernel, rfl⟩
theorem fl_X10_268 : zFL RX10 268 2 3 .int false := ⟨_, _, _, zclX2, by decide, zT_in (zt1 (List.mem_of_getElem? (i := 188) rfl)) rfl, by decide +kernel, rfl⟩
theorem fl_X10_269 : zFL RX10 269 2 1 (.array .int) true := ⟨_, _, _, zclX2, by decide, zT_in (zt1 (List.mem_of_getElem? (i := 184) rfl)) rfl, by decide +kernel, rfl⟩
theorem fl_X10_296 : zFL RX10 296 5 1 .int false := ⟨_, _, _, zclX5, by decide, zT_in (zt1 (List.mem_of_getElem? (i := 140) rfl)) rfl, by decide +kernel, rfl⟩
theorem fl_X10_33 : zFL RX10 33 10 3 (.object "CaveAdvice$History") true := ⟨_, _, _, zclX10, by decide, zT_in (zt2 (List.mem_of_getElem? (i := 83) rfl)) rfl, by decide +kernel, rfl⟩
theorem fl_X10_342 : zFL RX10 342 1 3 .int false := ⟨_, _, _, zclX1, by decide, zT_in (zt2 (List.mem_of_getElem? (i := 2) rfl)) rfl, by decide +kernel, rfl⟩
theorem fl_X10_352 : zFL RX10 352 3 3 .int false := ⟨_, _, _, zclX3, by decide, zT_in (zt2 (List.mem_of_getElem? (i := 22) rfl)) rfl, by decide +kernel, rfl⟩
theorem fl_X10_356 : zFL RX10 356 3 5 .int false := ⟨_, _, _, zclX3, by decide, zT_in (zt2 (List.mem_of_getElem? (i := 26) rfl)) rfl, by decide +kernel, rfl⟩
theorem fl_X10_359 : zFL RX10 359 3 4 (.array .int) true := ⟨_, _, _, zclX3, by decide, zT_in (zt2 (List.mem_of_getElem? (i := 24) rfl)) rfl, by decide +kernel, rfl⟩
theorem fl_X10_372 : zFL RX10 372 2 7 (.array .long) true := ⟨_, _, _, zclX2, by decide, zT_in (zt1 (List.mem_of_getElem? (i := 195) rfl)) rfl, by decide +kernel, rfl⟩
theorem fl_X10_42 : zFL RX10 42 10 4 (.object "CaveAdvice$Echo") true := ⟨_, _, _, zclX10, by decide, zT_in (zt2 (List.mem_of_getElem? (i := 84) rfl)) rfl, by decide +kernel, rfl⟩
theorem fl_X10_420 : zFL RX10 420 4 3 (.array (.object "CaveAdvice$State")) true := ⟨_, _, _, zclX4, by decide, zT_in (zt1 (List.mem_of_getElem? (i := 161) rfl)) rfl, by decide +kernel, rfl⟩
theorem fl_X10_424 : zFL RX10 424 7 4 .int false := ⟨_, _, _, zclX7, by decide, zT_in (zt1 (List.mem_of_getElem? (i := 88) rfl)) rfl, by decide +kernel, rfl⟩
theorem fl_X10_49 : zFL RX10 49 10 5 (.object "CaveAdvice$Ways") true := ⟨_, _, _, zclX10, by decide, zT_in (zt2 (List.mem_of_getElem? (i := 85) rfl)) rfl, by decide +kernel, rfl⟩
theorem fl_X10_56 : zFL RX10 56 10 6 (.object "CaveAdvice$Clues") true := ⟨_, _, _, zclX10, by decide, zT_in (zt2 (List.mem_of_getElem? (i := 86) rfl)) rfl, by decide +kernel, rfl⟩
theorem fl_X10_63 : zFL RX10 63 10 7 (.object "CaveAdvice$Hearings") true := ⟨_, _, _, zclX10, by decide, zT_in (zt2 (List.mem_of_getElem? (i := 87) rfl)) rfl, by decide +kernel, rfl⟩
theorem fl_X10_70 : zFL RX10 70 10 8 (.object "CaveAdvice$Rule") false := ⟨_, _, _, zclX10, by decide, zT_in (zt2 (List.mem_of_getElem? (i := 88) rfl)) rfl, by decide +kernel, rfl⟩
theorem fl_X10_74 : zFL RX10 74 10 9 (.object "CaveAdvice$Rule") false := ⟨_, _, _, zclX10, by decide, zT_in (zt2 (List.mem_of_getElem? (i := 89) rfl)) rfl, by decide +kernel, rfl⟩
theorem fl_X10_77 : zFL RX10 77 10 10 (.array .int) true := ⟨_, _, _, zclX10, by decide, zT_in (zt2 (List.mem_of_getElem? (i := 90) rfl)) rfl, by decide +kernel, rfl⟩
theorem fl_X10_81 : zFL RX10 81 10 11 (.array .int) true := ⟨_, _, _, zclX10, by decide, zT_in (zt2 (List.mem_of_getElem? (i := 91) rfl)) rfl, by decide +kernel, rfl⟩
theorem fl_X10_84 : zFL RX10 84 10 12 .int false := ⟨_, _, _, zclX10, by decide, zT_in (zt2 (List.mem_of_getElem? (i := 92) rfl)) rfl, by decide +kernel, rfl⟩
theorem fl_X10_88 : zFL RX10 88 8 1 .int false := ⟨_, _, _, zclX8, by decide, zT_in (zt1 (List.mem_of_getElem? (i := 43) rfl)) rfl, by decide +kernel, rfl⟩
theorem fl_X10_91 : zFL RX10 91 8 0 (.array .char) true := ⟨_, _, _, zclX8, by decide, zT_in (zt1 (List.mem_of_getElem? (i := 40) rfl)) rfl, by decide +kernel, rfl⟩
theorem fl_X10_95 : zFL RX10 95 0 2 .int false := ⟨_, _, _, zclX0, by decide, zT_in (zt1 (List.mem_of_getElem? (i := 116) rfl)) rfl, by decide +kernel, rfl⟩
theorem fl_X0_15 : zFL RX0 15 0 1 (.array .int) true := ⟨_, _, _, zclX0, by decide, zT_in (zt1 (List.mem_of_getElem? (i := 109) rfl)) rfl, by decide +kernel, rfl⟩
theorem fl_X0_18 : zFL RX0 18 0 2 .int false := ⟨_, _, _, zclX0, by decide, zT_in (zt1 (List.mem_of_getElem? (i := 113) rfl)) rfl, by decide +kernel, rfl⟩
theorem fl_X0_25 : zFL RX0 25 0 3 (.object "CaveAdvice$State") true := ⟨_, _, _, zclX0, by decide, zT_in (zt1 (List.mem_of_getElem? (i := 118) rfl)) rfl, by decide +kernel, rfl⟩
theorem fl_X0_29 : zFL RX0 29 7 0 (.array .int) true := ⟨_, _, _, zclX7, by decide, zT_in (zt1 (List.mem_of_getElem? (i := 64) rfl)) rfl, by decide +kernel, rfl⟩
theorem fl_X0_32 : zFL RX0 32 7 1 (.array .int) true := ⟨_, _, _, zclX7, by decide, zT_in (zt1 (List.mem_of_getElem? (i := 71) rfl)) rfl, by decide +kernel, rfl⟩
theorem fl_X0_35 : zFL RX0 35 7 2 (.array .int) true := ⟨_, _, _, zclX7, by decide, zT_in (zt1 (List.mem_of_getElem? (i := 76) rfl)) rfl, by decide +kernel, rfl⟩
theorem fl_X0_38 : zFL RX0 38 7 3 .int false := ⟨_, _, _, zclX7, by decide, zT_in (zt1 (List.mem_of_getElem? (i := 82) rfl)) rfl, by decide +kernel, rfl⟩
theorem fl_X0_62 : zFL RX0 62 7 4 .int false := ⟨_, _, _, zclX7, by decide, zT_in (zt1 (List.mem_of_getElem? (i := 86) rfl)) rfl, by decide +kernel, rfl⟩
theorem fl_X0_65 : zFL RX0 65 2 3 .int false := ⟨_, _, _, zclX2, by decide, zT_in (zt1 (List.mem_of_getElem? (i := 187) rfl)) rfl, by decide +kernel, rfl⟩
theorem fl_X0_70 : zFL RX0 70 2 1 (.array .int) true := ⟨_, _, _, zclX2, by decide, zT_in (zt1 (List.mem_of_getElem? (i := 183) rfl)) rfl, by decide +kernel, rfl⟩
theorem fl_X0_76 : zFL RX0 76 7 5 .int false := ⟨_, _, _, zclX7, by decide, zT_in (zt1 (List.mem_of_getElem? (i := 90) rfl)) rfl, by decide +kernel, rfl⟩
theorem fl_X0_9 : zFL RX0 9 0 0 (.array .int) true := ⟨_, _, _, zclX0, by decide, zT_in (zt1 (List.mem_of_getElem? (i := 106) rfl)) rfl, by decide +kernel, rfl⟩
theorem fl_X1_15 : zFL RX1 15 1 1 (.array .int) true := ⟨_, _, _, zclX1, by decide, zT_in (zt1 (List.mem_of_getElem? (i := 239) rfl)) rfl, by decide +kernel, rfl⟩
theorem fl_X1_19 : zFL RX1 19 1 2 (.array .int) true := ⟨_, _, _, zclX1, by decide, zT_in (zt2 (List.mem_of_getElem? (i := 0) rfl)) rfl, by decide +kernel, rfl⟩
theorem fl_X1_22 : zFL RX1 22 1 3 .int false := ⟨_, _, _, zclX1, by decide, zT_in (zt2 (List.mem_of_getElem? (i := 1) rfl)) rfl, by decide +kernel, rfl⟩
theorem fl_X1_26 : zFL RX1 26 0 2 .int false := ⟨_, _, _, zclX0, by decide, zT_in (zt1 (List.mem_of_getElem? (i := 115) rfl)) rfl, by decide +kernel, rfl⟩
theorem fl_X1_37 : zFL RX1 37 0 3 (.object "CaveAdvice$State") true := ⟨_, _, _, zclX0, by decide, zT_in (zt1 (List.mem_of_getElem? (i := 121) rfl)) rfl, by decide +kernel, rfl⟩
theorem fl_X1_41 : zFL RX1 41 7 0 (.array .int) true := ⟨_, _, _, zclX7, by decide, zT_in (zt1 (List.mem_of_getElem? (i := 67) rfl)) rfl, by decide +kernel, rfl⟩
theorem fl_X1_50 : zFL RX1 50 7 1 (.array .int) true := ⟨_, _, _, zclX7, by decide, zT_in (zt1 (List.mem_of_getElem? (i := 72) rfl)) rfl, by decide +kernel, rfl⟩
theorem fl_X1_56 : zFL RX1 56 7 2 (.array .int) true := ⟨_, _, _, zclX7, by decide, zT_in (zt1 (List.mem_of_getElem? (i := 77) rfl)) rfl, by decide +kernel, rfl⟩
theorem fl_X1_9 : zFL RX1 9 1 0 (.object "CaveAdvice$Cave") true := ⟨_, _, _, zclX1, by decide, zT_in (zt1 (List.mem_of_getElem? (i := 238) rfl)) rfl, by decide +kernel, rfl⟩
theorem fl_X2_15 : zFL RX2 15 2 1 (.array .int) true := ⟨_, _, _, zclX2, by decide, zT_in (zt1 (List.mem_of_getElem? (i := 182) rfl)) rfl, by decide +kernel, rfl⟩
theorem fl_X2_19 : zFL RX2 19 2 2 (.array .int) true := ⟨_, _, _, zclX2, by decide, zT_in (zt1 (List.mem_of_getElem? (i := 185) rfl)) rfl, by decide +kernel, rfl⟩
theorem fl_X2_22 : zFL RX2 22 2 3 .int false := ⟨_, _, _, zclX2, by decide, zT_in (zt1 (List.mem_of_getElem? (i := 186) rfl)) rfl, by decide +kernel, rfl⟩
theorem fl_X2_26 : zFL RX2 26 2 4 .int false := ⟨_, _, _, zclX2, by decide, zT_in (zt1 (List.mem_of_getElem? (i := 189) rfl)) rfl, by decide +kernel, rfl⟩
theorem fl_X2_29 : zFL RX2 29 2 5 .int false := ⟨_, _, _, zclX2, by decide, zT_in (zt1 (List.mem_of_getElem? (i := 191) rfl)) rfl, by decide +kernel, rfl⟩
theorem fl_X2_32 : zFL RX2 32 2 6 (.array .int) true := ⟨_, _, _, zclX2, by decide, zT_in (zt1 (List.mem_of_getElem? (i := 193) rfl)) rfl, by decide +kernel, rfl⟩
theorem fl_X2_35 : zFL RX2 35 2 7 (.array .long) true := ⟨_, _, _, zclX2, by decide, zT_in (zt1 (List.mem_of_getElem? (i := 194) rfl)) rfl, by decide +kernel, rfl⟩
theorem fl_X2_39 : zFL RX2 39 2 8 (.array .long) true := ⟨_, _, _, zclX2, by decide, zT_in (zt1 (List.mem_of_getElem? (i := 196) rfl)) rfl, by decide +kernel, rfl⟩
theorem fl_X2_55 : zFL RX2 55 0 3 (.object "CaveAdvice$State") true := ⟨_, _, _, zclX0, by decide, zT_in (zt1 (List.mem_of_getElem? (i := 119) rfl)) rfl, by decide +kernel, rfl⟩
theorem fl_X2_59 : zFL RX2 59 7 3 .int false := ⟨_, _, _, zclX7, by decide, zT_in (zt1 (List.mem_of_getElem? (i := 81) rfl)) rfl, by decide +kernel, rfl⟩
theorem fl_X2_64 : zFL RX2 64 0 1 (.array .int) true := ⟨_, _, _, zclX0, by decide, zT_in (zt1 (List.mem_of_getElem? (i := 111) rfl)) rfl, by decide +kernel, rfl⟩
theorem fl_X2_67 : zFL RX2 67 7 0 (.array .int) true := ⟨_, _, _, zclX7, by decide, zT_in (zt1 (List.mem_of_getElem? (i := 66) rfl)) rfl, by decide +kernel, rfl⟩
theorem fl_X2_9 : zFL RX2 9 2 0 (.object "CaveAdvice$Cave") true := ⟨_, _, _, zclX2, by decide, zT_in (zt1 (List.mem_of_getElem? (i := 181) rfl)) rfl, by decide +kernel, rfl⟩
theorem fl_X2_96 : zFL RX2 96 0 2 .int false := ⟨_, _, _, zclX0, by decide, zT_in (zt1 (List.mem_of_getElem? (i := 117) rfl)) rfl, by decide +kernel, rfl⟩
theorem fl_X3_11 : zFL RX3 11 3 0 (.array .int) true := ⟨_, _, _, zclX3, by decide, zT_in (zt2 (List.mem_of_getElem? (i := 18) rfl)) rfl, by decide +kernel, rfl⟩
theorem fl_X3_15 : zFL RX3 15 3 1 (.array .int) true := ⟨_, _, _, zclX3, by decide, zT_in (zt2 (List.mem_of_getElem? (i := 19) rfl)) rfl, by decide +kernel, rfl⟩
theorem fl_X3_18 : zFL RX3 18 3 2 (.array .int) true := ⟨_, _, _, zclX3, by decide, zT_in (zt2 (List.mem_of_getElem? (i := 20) rfl)) rfl, by decide +kernel, rfl⟩
theorem fl_X3_21 : zFL RX3 21 3 3 .int false := ⟨_, _, _, zclX3, by decide, zT_in (zt2 (List.mem_of_getElem? (i := 21) rfl)) rfl, by decide +kernel, rfl⟩
theorem fl_X3_25 : zFL RX3 25 3 4 (.array .int) true := ⟨_, _, _, zclX3, by decide, zT_in (zt2 (List.mem_of_getElem? (i := 23) rfl)) rfl, by decide +kernel, rfl⟩
theorem fl_X3_28 : zFL RX3 28 3 5 .int false := ⟨_, _, _, zclX3, by decide, zT_in (zt2 (List.mem_of_getElem? (i := 25) rfl)) rfl, by decide +kernel, rfl⟩
theorem fl_X3_31 : zFL RX3 31 3 6 (.array .int) true := ⟨_, _, _, zclX3, by decide, zT_in (zt2 (List.mem_of_getElem? (i := 27) rfl)) rfl, by decide +kernel, rfl⟩
theorem fl_X4_11 : zFL RX4 11 4 0 (.array (.object "CaveAdvice$State")) true := ⟨_, _, _, zclX4, by decide, zT_in (zt1 (List.mem_of_getElem? (i := 156) rfl)) rfl, by decide +kernel, rfl⟩
theorem fl_X4_16 : zFL RX4 16 4 1 .int false := ⟨_, _, _, zclX4, by decide, zT_in (zt1 (List.mem_of_getElem? (i := 157) rfl)) rfl, by decide +kernel, rfl⟩
theorem fl_X4_20 : zFL RX4 20 4 2 .int false := ⟨_, _, _, zclX4, by decide, zT_in (zt1 (List.mem_of_getElem? (i := 158) rfl)) rfl, by decide +kernel, rfl⟩
theorem fl_X4_23 : zFL RX4 23 4 3 (.array (.object "CaveAdvice$State")) true := ⟨_, _, _, zclX4, by decide, zT_in (zt1 (List.mem_of_getElem? (i := 160) rfl)) rfl, by decide +kernel, rfl⟩
theorem fl_X4_26 : zFL RX4 26 4 4 (.array .boolean) true := ⟨_, _, _, zclX4, by decide, zT_in (zt1 (List.mem_of_getElem? (i := 162) rfl)) rfl, by decide +kernel, rfl⟩
theorem fl_X5_13 : zFL RX5 13 5 1 .int false := ⟨_, _, _, zclX5, by decide, zT_in (zt1 (List.mem_of_getElem? (i := 139) rfl)) rfl, by decide +kernel, rfl⟩
theorem fl_X5_9 : zFL RX5 9 5 0 (.array .long) true := ⟨_, _, _, zclX5, by decide, zT_in (zt1 (List.mem_of_getElem? (i := 138) rfl)) rfl, by decide +kernel, rfl⟩
theorem fl_X6_104 : zFL RX6 104 7 1 (.array .int) true := ⟨_, _, _, zclX7, by decide, zT_in (zt1 (List.mem_of_getElem? (i := 74) rfl)) rfl, by decide +kernel, rfl⟩
theorem fl_X6_109 : zFL RX6 109 7 2 (.array .int) true := ⟨_, _, _, zclX7, by decide, zT_in (zt1 (List.mem_of_getElem? (i := 79) rfl)) rfl, by decide +kernel, rfl⟩
theorem fl_X6_11 : zFL RX6 11 6 0 (.array .int) true := ⟨_, _, _, zclX6, by decide, zT_in (zt2 (List.mem_of_getElem? (i := 49) rfl)) rfl, by decide +kernel, rfl⟩
theorem fl_X6_112 : zFL RX6 112 7 0 (.array .int) true := ⟨_, _, _, zclX7, by decide, zT_in (zt1 (List.mem_of_getElem? (i := 69) rfl)) rfl, by decide +kernel, rfl⟩
theorem fl_X6_115 : zFL RX6 115 7 4 .int false := ⟨_, _, _, zclX7, by decide, zT_in (zt1 (List.mem_of_getElem? (i := 87) rfl)) rfl, by decide +kernel, rfl⟩
theorem fl_X6_15 : zFL RX6 15 6 1 .int false := ⟨_, _, _, zclX6, by decide, zT_in (zt2 (List.mem_of_getElem? (i := 50) rfl)) rfl, by decide +kernel, rfl⟩
theorem fl_X6_19 : zFL RX6 19 6 2 (.array .char) true := ⟨_, _, _, zclX6, by decide, zT_in (zt2 (List.mem_of_getElem? (i := 51) rfl)) rfl, by decide +kernel, rfl⟩
theorem fl_X6_23 : zFL RX6 23 6 3 .int false := ⟨_, _, _, zclX6, by decide, zT_in (zt2 (List.mem_of_getElem? (i := 52) rfl)) rfl, by decide +kernel, rfl⟩
theorem fl_X6_26 : zFL RX6 26 6 4 .int false := ⟨_, _, _, zclX6, by decide, zT_in (zt2 (List.mem_of_getElem? (i := 53) rfl)) rfl, by decide +kernel, rfl⟩
theorem fl_X6_29 : zFL RX6 29 6 5 .int false := ⟨_, _, _, zclX6, by decide, zT_in (zt2 (List.mem_of_getElem? (i := 54) rfl)) rfl, by decide +kernel, rfl⟩
theorem fl_X6_32 : zFL RX6 32 6 6 .int false := ⟨_, _, _, zclX6, by decide, zT_in (zt2 (List.mem_of_getElem? (i := 55) rfl)) rfl, by decide +kernel, rfl⟩
theorem fl_X6_35 : zFL RX6 35 6 7 .boolean false := ⟨_, _, _, zclX6, by decide, zT_in (zt2 (List.mem_of_getElem? (i := 56) rfl)) rfl, by decide +kernel, rfl⟩
theorem fl_X6_39 : zFL RX6 39 6 8 (.array .int) true := ⟨_, _, _, zclX6, by decide, zT_in (zt2 (List.mem_of_getElem? (i := 57) rfl)) rfl, by decide +kernel, rfl⟩
theorem fl_X6_42 : zFL RX6 42 6 9 (.array .int) true := ⟨_, _, _, zclX6, by decide, zT_in (zt2 (List.mem_of_getElem? (i := 58) rfl)) rfl, by decide +kernel, rfl⟩
theorem fl_X6_45 : zFL RX6 45 8 1 .int false := ⟨_, _, _, zclX8, by decide, zT_in (zt1 (List.mem_of_getElem? (i := 44) rfl)) rfl, by decide +kernel, rfl⟩
theorem fl_X6_56 : zFL RX6 56 8 0 (.array .char) true := ⟨_, _, _, zclX8, by decide, zT_in (zt1 (List.mem_of_getElem? (i := 41) rfl)) rfl, by decide +kernel, rfl⟩
theorem fl_X7_15 : zFL RX7 15 7 1 (.array .int) true := ⟨_, _, _, zclX7, by decide, zT_in (zt1 (List.mem_of_getElem? (i := 70) rfl)) rfl, by decide +kernel, rfl⟩
theorem fl_X7_18 : zFL RX7 18 7 2 (.array .int) true := ⟨_, _, _, zclX7, by decide, zT_in (zt1 (List.mem_of_getElem? (i := 75) rfl)) rfl, by decide +kernel, rfl⟩
theorem fl_X7_21 : zFL RX7 21 7 3 .int false := ⟨_, _, _, zclX7, by decide, zT_in (zt1 (List.mem_of_getElem? (i := 80) rfl)) rfl, by decide +kernel, rfl⟩
theorem fl_X7_25 : zFL RX7 25 7 4 .int false := ⟨_, _, _, zclX7, by decide, zT_in (zt1 (List.mem_of_getElem? (i := 85) rfl)) rfl, by decide +kernel, rfl⟩
theorem fl_X7_28 : zFL RX7 28 7 5 .int false := ⟨_, _, _, zclX7, by decide, zT_in (zt1 (List.mem_of_getElem? (i := 89) rfl)) rfl, by decide +kernel, rfl⟩
theorem fl_X7_9 : zFL RX7 9 7 0 (.array .int) true := ⟨_, _, _, zclX7, by decide, zT_in (zt1 (List.mem_of_getElem? (i := 63) rfl)) rfl, by decide +kernel, rfl⟩
theorem fl_X8_11 : zFL RX8 11 8 0 (.array .char) true := ⟨_, _, _, zclX8, by decide, zT_in (zt1 (List.mem_of_getElem? (i := 39) rfl)) rfl, by decide +kernel, rfl⟩
theorem fl_X8_15 : zFL RX8 15 8 1 .int false := ⟨_, _, _, zclX8, by decide, zT_in (zt1 (List.mem_of_getElem? (i := 42) rfl)) rfl, by decide +kernel, rfl⟩
theorem fl_X9_15 : zFL RX9 15 9 1 (.array .int) true := ⟨_, _, _, zclX9, by decide, zT_in (zt1 (List.mem_of_getElem? (i := 223) rfl)) rfl, by decide +kernel, rfl⟩
theorem fl_X9_19 : zFL RX9 19 9 2 (.array .int) true := ⟨_, _, _, zclX9, by decide, zT_in (zt1 (List.mem_of_getElem? (i := 224) rfl)) rfl, by decide +kernel, rfl⟩
theorem fl_X9_22 : zFL RX9 22 0 2 .int false := ⟨_, _, _, zclX0, by decide, zT_in (zt1 (List.mem_of_getElem? (i := 114) rfl)) rfl, by decide +kernel, rfl⟩
theorem fl_X9_32 : zFL RX9 32 0 0 (.array .int) true := ⟨_, _, _, zclX0, by decide, zT_in (zt1 (List.mem_of_getElem? (i := 107) rfl)) rfl, by decide +kernel, rfl⟩
theorem fl_X9_35 : zFL RX9 35 0 1 (.array .int) true := ⟨_, _, _, zclX0, by decide, zT_in (zt1 (List.mem_of_getElem? (i := 110) rfl)) rfl, by decide +kernel, rfl⟩
theorem fl_X9_38 : zFL RX9 38 0 3 (.object "CaveAdvice$State") true := ⟨_, _, _, zclX0, by decide, zT_in (zt1 (List.mem_of_getElem? (i := 120) rfl)) rfl, by decide +kernel, rfl⟩
theorem fl_X9_42 : zFL RX9 42 7 0 (.array .int) true := ⟨_, _, _, zclX7, by decide, zT_in (zt1 (List.mem_of_getElem? (i := 65) rfl)) rfl, by decide +kernel, rfl⟩
theorem fl_X9_77 : zFL RX9 77 7 3 .int false := ⟨_, _, _, zclX7, by decide, zT_in (zt1 (List.mem_of_getElem? (i := 83) rfl)) rfl, by decide +kernel, rfl⟩
theorem fl_X9_9 : zFL RX9 9 9 0 (.object "CaveAdvice$Cave") true := ⟨_, _, _, zclX9, by decide, zT_in (zt1 (List.mem_of_getElem? (i := 222) rfl)) rfl, by decide +kernel, rfl⟩
theorem fl_X11_101 : zFL RX11 101 11 44 (.array .int) true := ⟨_, _, _, zclX11, by decide, zT_in (zt6 (List.mem_of_getElem? (i := 23) rfl)) rfl, by decide +kernel, rfl⟩
theorem fl_X11_104 : zFL RX11 104 11 45 (.array .int) true := ⟨_, _, _, zclX11, by decide, zT_in (zt6 (List.mem_of_getElem? (i := 24) rfl)) rfl, by decide +kernel, rfl⟩
theorem fl_X11_107 : zFL RX11 107 11 46 (.array .long) true := ⟨_, _, _, zclX11, by decide, zT_in (zt6 (List.mem_of_getElem? (i := 25) rfl)) rfl, by decide +kernel, rfl⟩
theorem fl_X11_11 : zFL RX11 11 11 2 (.array .long) true := ⟨_, _, _, zclX11, by decide, zT_in (zt5 (List.mem_of_getElem? (i := 221) rfl)) rfl, by decide +kernel, rfl⟩
theorem fl_X11_110 : zFL RX11 110 11 47 (.array .long) true := ⟨_, _, _, zclX11, by decide, zT_in (zt6 (List.mem_of_getElem? (i := 26) rfl)) rfl, by decide +kernel, rfl⟩
theorem fl_X11_113 : zFL RX11 113 11 48 (.array .int) true := ⟨_, _, _, zclX11, by decide, zT_in (zt6 (List.mem_of_getElem? (i := 27) rfl)) rfl, by decide +kernel, rfl⟩
theorem fl_X11_116 : zFL RX11 116 11 49 (.array .int) true := ⟨_, _, _, zclX11, by decide, zT_in (zt6 (List.mem_of_getElem? (i := 28) rfl)) rfl, by decide +kernel, rfl⟩
theorem fl_X11_119 : zFL RX11 119 11 51 (.array .boolean) true := ⟨_, _, _, zclX11, by decide, zT_in (zt6 (List.mem_of_getElem? (i := 30) rfl)) rfl, by decide +kernel, rfl⟩
theorem fl_X11_122 : zFL RX11 122 11 52 (.array .int) true := ⟨_, _, _, zclX11, by decide, zT_in (zt6 (List.mem_of_getElem? (i := 31) rfl)) rfl, by decide +kernel, rfl⟩
theorem fl_X11_125 : zFL RX11 125 11 53 (.array .int) true := ⟨_, _, _, zclX11, by decide, zT_in (zt6 (List.mem_of_getElem? (i := 32) rfl)) rfl, by decide +kernel, rfl⟩
theorem fl_X11_128 : zFL RX11 128 11 3 .int false := ⟨_, _, _, zclX11, by decide, zT_in (zt5 (List.mem_of_getElem? (i := 222) rfl)) rfl, by decide +kernel, rfl⟩
theorem fl_X11_137 : zFL RX11 137 11 10 .int false := ⟨_, _, _, zclX11, by decide, zT_in (zt5 (List.mem_of_getElem? (i := 229) rfl)) rfl, by decide +kernel, rfl⟩
theorem fl_X11_140 : zFL RX11 140 11 11 .int false := ⟨_, _, _, zclX11, by decide, zT_in (zt5 (List.mem_of_getElem? (i := 230) rfl)) rfl, by decide +kernel, rfl⟩
theorem fl_X11_143 : zFL RX11 143 11 13 .int false := ⟨_, _, _, zclX11, by decide, zT_in (zt5 (List.mem_of_getElem? (i := 232) rfl)) rfl, by decide +kernel, rfl⟩
theorem fl_X11_15 : zFL RX11 15 11 1 .int false := ⟨_, _, _, zclX11, by decide, zT_in (zt5 (List.mem_of_getElem? (i := 220) rfl)) rfl, by decide +kernel, rfl⟩
theorem fl_X11_152 : zFL RX11 152 11 12 .int false := ⟨_, _, _, zclX11, by decide, zT_in (zt5 (List.mem_of_getElem? (i := 231) rfl)) rfl, by decide +kernel, rfl⟩
theorem fl_X11_181 : zFL RX11 181 11 15 .int false := ⟨_, _, _, zclX11, by decide, zT_in (zt5 (List.mem_of_getElem? (i := 234) rfl)) rfl, by decide +kernel, rfl⟩
theorem fl_X11_206 : zFL RX11 206 11 28 .int false := ⟨_, _, _, zclX11, by decide, zT_in (zt6 (List.mem_of_getElem? (i := 7) rfl)) rfl, by decide +kernel, rfl⟩
theorem fl_X11_209 : zFL RX11 209 11 4 .int false := ⟨_, _, _, zclX11, by decide, zT_in (zt5 (List.mem_of_getElem? (i := 223) rfl)) rfl, by decide +kernel, rfl⟩
theorem fl_X11_212 : zFL RX11 212 11 19 .int false := ⟨_, _, _, zclX11, by decide, zT_in (zt5 (List.mem_of_getElem? (i := 238) rfl)) rfl, by decide +kernel, rfl⟩
theorem fl_X11_237 : zFL RX11 237 11 18 .int false := ⟨_, _, _, zclX11, by decide, zT_in (zt5 (List.mem_of_getElem? (i := 237) rfl)) rfl, by decide +kernel, rfl⟩
theorem fl_X11_24 : zFL RX11 24 11 5 (.array .int) true := ⟨_, _, _, zclX11, by decide, zT_in (zt5 (List.mem_of_getElem? (i := 224) rfl)) rfl, by decide +kernel, rfl⟩
theorem fl_X11_269 : zFL RX11 269 11 24 .int false := ⟨_, _, _, zclX11, by decide, zT_in (zt6 (List.mem_of_getElem? (i := 3) rfl)) rfl, by decide +kernel, rfl⟩
theorem fl_X11_272 : zFL RX11 272 11 25 .int false := ⟨_, _, _, zclX11, by decide, zT_in (zt6 (List.mem_of_getElem? (i := 4) rfl)) rfl, by decide +kernel, rfl⟩
theorem fl_X11_275 : zFL RX11 275 11 26 .int false := ⟨_, _, _, zclX11, by decide, zT_in (zt6 (List.mem_of_getElem? (i := 5) rfl)) rfl, by decide +kernel, rfl⟩
theorem fl_X11_28 : zFL RX11 28 11 6 (.array .int) true := ⟨_, _, _, zclX11, by decide, zT_in (zt5 (List.mem_of_getElem? (i := 225) rfl)) rfl, by decide +kernel, rfl⟩
theorem fl_X11_3 : zFL RX11 3 11 0 .int false := ⟨_, _, _, zclX11, by decide, zT_in (zt5 (List.mem_of_getElem? (i := 219) rfl)) rfl, by decide +kernel, rfl⟩
theorem fl_X11_31 : zFL RX11 31 11 7 (.array .int) true := ⟨_, _, _, zclX11, by decide, zT_in (zt5 (List.mem_of_getElem? (i := 226) rfl)) rfl, by decide +kernel, rfl⟩
theorem fl_X11_34 : zFL RX11 34 11 8 (.array .int) true := ⟨_, _, _, zclX11, by decide, zT_in (zt5 (List.mem_of_getElem? (i := 227) rfl)) rfl, by decide +kernel, rfl⟩
theorem fl_X11_37 : zFL RX11 37 11 9 (.array .int) true := ⟨_, _, _, zclX11, by decide, zT_in (zt5 (List.mem_of_getElem? (i := 228) rfl)) rfl, by decide +kernel, rfl⟩
theorem fl_X11_376 : zFL RX11 376 11 35 .int false := ⟨_, _, _, zclX11, by decide, zT_in (zt6 (List.mem_of_getElem? (i := 14) rfl)) rfl, by decide +kernel, rfl⟩
theorem fl_X11_40 : zFL RX11 40 11 14 (.array .int) true := ⟨_, _, _, zclX11, by decide, zT_in (zt5 (List.mem_of_getElem? (i := 233) rfl)) rfl, by decide +kernel, rfl⟩
theorem fl_X11_408 : zFL RX11 408 11 39 .int false := ⟨_, _, _, zclX11, by decide, zT_in (zt6 (List.mem_of_getElem? (i := 18) rfl)) rfl, by decide +kernel, rfl⟩
theorem fl_X11_418 : zFL RX11 418 11 42 .int false := ⟨_, _, _, zclX11, by decide, zT_in (zt6 (List.mem_of_getElem? (i := 21) rfl)) rfl, by decide +kernel, rfl⟩
theorem fl_X11_43 : zFL RX11 43 11 16 (.array .int) true := ⟨_, _, _, zclX11, by decide, zT_in (zt5 (List.mem_of_getElem? (i := 235) rfl)) rfl, by decide +kernel, rfl⟩
theorem fl_X11_440 : zFL RX11 440 11 50 .int false := ⟨_, _, _, zclX11, by decide, zT_in (zt6 (List.mem_of_getElem? (i := 29) rfl)) rfl, by decide +kernel, rfl⟩
theorem fl_X11_46 : zFL RX11 46 11 17 (.array .int) true := ⟨_, _, _, zclX11, by decide, zT_in (zt5 (List.mem_of_getElem? (i := 236) rfl)) rfl, by decide +kernel, rfl⟩
theorem fl_X11_49 : zFL RX11 49 11 20 (.array .int) true := ⟨_, _, _, zclX11, by decide, zT_in (zt5 (List.mem_of_getElem? (i := 239) rfl)) rfl, by decide +kernel, rfl⟩
theorem fl_X11_52 : zFL RX11 52 11 21 (.array .int) true := ⟨_, _, _, zclX11, by decide, zT_in (zt6 (List.mem_of_getElem? (i := 0) rfl)) rfl, by decide +kernel, rfl⟩
theorem fl_X11_55 : zFL RX11 55 11 22 (.array .int) true := ⟨_, _, _, zclX11, by decide, zT_in (zt6 (List.mem_of_getElem? (i := 1) rfl)) rfl, by decide +kernel, rfl⟩
theorem fl_X11_58 : zFL RX11 58 11 23 (.array .boolean) true := ⟨_, _, _, zclX11, by decide, zT_in (zt6 (List.mem_of_getElem? (i := 2) rfl)) rfl, by decide +kernel, rfl⟩
theorem fl_X11_62 : zFL RX11 62 11 27 (.array .int) true := ⟨_, _, _, zclX11, by decide, zT_in (zt6 (List.mem_of_getElem? (i := 6) rfl)) rfl, by decide +kernel, rfl⟩
theorem fl_X11_65 : zFL RX11 65 11 29 (.array .int) true := ⟨_, _, _, zclX11, by decide, zT_in (zt6 (List.mem_of_getElem? (i := 8) rfl)) rfl, by decide +kernel, rfl⟩
theorem fl_X11_68 : zFL RX11 68 11 30 (.array .int) true := ⟨_, _, _, zclX11, by decide, zT_in (zt6 (List.mem_of_getElem? (i := 9) rfl)) rfl, by decide +kernel, rfl⟩
theorem fl_X11_71 : zFL RX11 71 11 31 (.array .int) true := ⟨_, _, _, zclX11, by decide, zT_in (zt6 (List.mem_of_getElem? (i := 10) rfl)) rfl, by decide +kernel, rfl⟩
theorem fl_X11_74 : zFL RX11 74 11 32 (.array .int) true := ⟨_, _, _, zclX11, by decide, zT_in (zt6 (List.mem_of_getElem? (i := 11) rfl)) rfl, by decide +kernel, rfl⟩
theorem fl_X11_77 : zFL RX11 77 11 33 (.array .int) true := ⟨_, _, _, zclX11, by decide, zT_in (zt6 (List.mem_of_getElem? (i := 12) rfl)) rfl, by decide +kernel, rfl⟩
theorem fl_X11_80 : zFL RX11 80 11 34 (.array .int) true := ⟨_, _, _, zclX11, by decide, zT_in (zt6 (List.mem_of_getElem? (i := 13) rfl)) rfl, by decide +kernel, rfl⟩
theorem fl_X11_83 : zFL RX11 83 11 36 (.array .int) true := ⟨_, _, _, zclX11, by decide, zT_in (zt6 (List.mem_of_getElem? (i := 15) rfl)) rfl, by decide +kernel, rfl⟩
theorem fl_X11_86 : zFL RX11 86 11 37 (.array .int) true := ⟨_, _, _, zclX11, by decide, zT_in (zt6 (List.mem_of_getElem? (i := 16) rfl)) rfl, by decide +kernel, rfl⟩
theorem fl_X11_89 : zFL RX11 89 11 38 (.array .int) true := ⟨_, _, _, zclX11, by decide, zT_in (zt6 (List.mem_of_getElem? (i := 17) rfl)) rfl, by decide +kernel, rfl⟩
theorem fl_X11_92 : zFL RX11 92 11 40 (.array .int) true := ⟨_, _, _, zclX11, by decide, zT_in (zt6 (List.mem_of_getElem? (i := 19) rfl)) rfl, by decide +kernel, rfl⟩
theorem fl_X11_95 : zFL RX11 95 11 41 (.array .int) true := ⟨_, _, _, zclX11, by decide, zT_in (zt6 (List.mem_of_getElem? (i := 20) rfl)) rfl, by decide +kernel, rfl⟩
theorem fl_X11_98 : zFL RX11 98 11 43 (.array .int) true := ⟨_, _, _, zclX11, by decide, zT_in (zt6 (List.mem_of_getElem? (i := 22) rfl)) rfl, by decide +kernel, rfl⟩
theorem in_L : Cond.initialized RL ∈ zT := zT_in (zt1 (List.mem_of_getElem? (i := 0) rfl)) rfl
theorem in_X10 : Cond.initialized RX10 ∈ zT := zT_in (zt1 (List.mem_of_getElem? (i := 1) rfl)) rfl
theorem in_X8 : Cond.initialized RX8 ∈ zT := zT_in (zt1 (List.mem_of_getElem? (i := 2) rfl)) rfl
theorem in_X0 : Cond.initialized RX0 ∈ zT := zT_in (zt1 (List.mem_of_getElem? (i := 3) rfl)) rfl
theorem in_X7 : Cond.initialized RX7 ∈ zT := zT_in (zt1 (List.mem_of_getElem? (i := 4) rfl)) rfl
theorem in_X5 : Cond.initialized RX5 ∈ zT := zT_in (zt1 (List.mem_of_getElem? (i := 5) rfl)) rfl
theorem in_X4 : Cond.initialized RX4 ∈ zT := zT_in (zt1 (List.mem_of_getElem? (i := 6) rfl)) rfl
theorem in_X2 : Cond.initialized RX2 ∈ zT := zT_in (zt1 (List.mem_of_getElem? (i := 7) rfl)) rfl
theorem in_X9 : Cond.initialized RX9 ∈ zT := zT_in (zt1 (List.mem_of_getElem? (i := 8) rfl)) rfl
theorem in_X1 : Cond.initialized RX1 ∈ zT := zT_in (zt1 (List.mem_of_getElem? (i := 9) rfl)) rfl
theorem in_X3 : Cond.initialized RX3 ∈ zT := zT_in (zt1 (List.mem_of_getElem? (i := 10) rfl)) rfl
theorem in_X6 : Cond.initialized RX6 ∈ zT := zT_in (zt1 (List.mem_of_getElem? (i := 11) rfl)) rfl
theorem in_X11 : Cond.initialized RX11 ∈ zT := zT_in (zt1 (List.mem_of_getElem? (i := 12) rfl)) rfl
theorem in_J9 : Cond.initialized RJ9 ∈ zT := zT_in (zt1 (List.mem_of_getElem? (i := 13) rfl)) rfl
theorem in_J0 : Cond.initialized RJ0 ∈ zT := zT_in (zt1 (List.mem_of_getElem? (i := 14) rfl)) rfl
theorem in_J1 : Cond.initialized RJ1 ∈ zT := zT_in (zt1 (List.mem_of_getElem? (i := 15) rfl)) rfl
theorem in_J2 : Cond.initialized RJ2 ∈ zT := zT_in (zt1 (List.mem_of_getElem? (i := 16) rfl)) rfl
theorem in_J3 : Cond.initialized RJ3 ∈ zT := zT_in (zt1 (List.mem_of_getElem? (i := 17) rfl)) rfl
theorem in_J11 : Cond.initialized RJ11 ∈ zT := zT_in (zt1 (List.mem_of_getElem? (i := 18) rfl)) rfl
theorem in_J6 : Cond.initialized RJ6 ∈ zT := zT_in (zt1 (List.mem_of_getElem? (i := 23) rfl)) rfl
theorem in_J10 : Cond.initialized RJ10 ∈ zT := zT_in (zt1 (List.mem_of_getElem? (i := 24) rfl)) rfl
theorem ml_L_22 : Cond.methodLink RL 22 yX10_init ∈ zT := zT_in (zt1 (List.mem_of_getElem? (i := 27) rfl)) rfl
theorem mi_X10_init : Cond.instanceMethod yX10_init ∈ zT := zT_in (zt1 (List.mem_of_getElem? (i := 28) rfl)) rfl
theorem mc_X10_init : Cond.code yX10_init cX10_init 1 none ∈ zT := zT_in (zt1 (List.mem_of_getElem? (i := 29) rfl)) rfl
theorem ml_X10_9 : Cond.methodLink RX10 9 yX8_init ∈ zT := zT_in (zt1 (List.mem_of_getElem? (i := 35) rfl)) rfl
theorem mi_X8_init : Cond.instanceMethod yX8_init ∈ zT := zT_in (zt1 (List.mem_of_getElem? (i := 36) rfl)) rfl
theorem mc_X8_init : Cond.code yX8_init cX8_init 1 none ∈ zT := zT_in (zt1 (List.mem_of_getElem? (i := 37) rfl)) rfl
theorem ml_X10_18 : Cond.methodLink RX10 18 yX0_init ∈ zT := zT_in (zt1 (List.mem_of_getElem? (i := 53) rfl)) rfl
theorem mi_X0_init : Cond.instanceMethod yX0_init ∈ zT := zT_in (zt1 (List.mem_of_getElem? (i := 54) rfl)) rfl
theorem mc_X0_init : Cond.code yX0_init cX0_init 1 none ∈ zT := zT_in (zt1 (List.mem_of_getElem? (i := 55) rfl)) rfl
theorem ml_X0_24 : Cond.methodLink RX0 24 yX7_init ∈ zT := zT_in (zt1 (List.mem_of_getElem? (i := 59) rfl)) rfl
theorem mi_X7_init : Cond.instanceMethod yX7_init ∈ zT := zT_in (zt1 (List.mem_of_getElem? (i := 60) rfl)) rfl
theorem mc_X7_init : Cond.code yX7_init cX7_init 1 none ∈ zT := zT_in (zt1 (List.mem_of_getElem? (i := 61) rfl)) rfl
theorem ml_X10_25 : Cond.methodLink RX10 25 yX5_init ∈ zT := zT_in (zt1 (List.mem_of_getElem? (i := 134) rfl)) rfl
theorem mi_X5_init : Cond.instanceMethod yX5_init ∈ zT := zT_in (zt1 (List.mem_of_getElem? (i := 135) rfl)) rfl
theorem mc_X5_init : Cond.code yX5_init cX5_init 1 none ∈ zT := zT_in (zt1 (List.mem_of_getElem? (i := 136) rfl)) rfl
theorem ml_X10_32 : Cond.methodLink RX10 32 yX4_init ∈ zT := zT_in (zt1 (List.mem_of_getElem? (i := 149) rfl)) rfl
theorem mi_X4_init : Cond.instanceMethod yX4_init ∈ zT := zT_in (zt1 (List.mem_of_getElem? (i := 150) rfl)) rfl
theorem mc_X4_init : Cond.code yX4_init cX4_init 2 none ∈ zT := zT_in (zt1 (List.mem_of_getElem? (i := 151) rfl)) rfl
theorem ml_X4_15 : Cond.methodLink RX4 15 yX7_init ∈ zT := zT_in (zt1 (List.mem_of_getElem? (i := 155) rfl)) rfl
theorem ml_X10_39 : Cond.methodLink RX10 39 yX2_init ∈ zT := zT_in (zt1 (List.mem_of_getElem? (i := 177) rfl)) rfl
theorem mi_X2_init : Cond.instanceMethod yX2_init ∈ zT := zT_in (zt1 (List.mem_of_getElem? (i := 178) rfl)) rfl
theorem mc_X2_init : Cond.code yX2_init cX2_init 2 none ∈ zT := zT_in (zt1 (List.mem_of_getElem? (i := 179) rfl)) rfl
theorem ml_X10_48 : Cond.methodLink RX10 48 yX9_init ∈ zT := zT_in (zt1 (List.mem_of_getElem? (i := 218) rfl)) rfl
theorem mi_X9_init : Cond.instanceMethod yX9_init ∈ zT := zT_in (zt1 (List.mem_of_getElem? (i := 219) rfl)) rfl
theorem mc_X9_init : Cond.code yX9_init cX9_init 2 none ∈ zT := zT_in (zt1 (List.mem_of_getElem? (i := 220) rfl)) rfl
theorem ml_X10_55 : Cond.methodLink RX10 55 yX1_init ∈ zT := zT_in (zt1 (List.mem_of_getElem? (i := 234) rfl)) rfl
theorem mi_X1_init : Cond.instanceMethod yX1_init ∈ zT := zT_in (zt1 (List.mem_of_getElem? (i := 235) rfl)) rfl
theorem mc_X1_init : Cond.code yX1_init cX1_init 2 none ∈ zT := zT_in (zt1 (List.mem_of_getElem? (i := 236) rfl)) rfl
theorem ml_X10_62 : Cond.methodLink RX10 62 yX3_init ∈ zT := zT_in (zt2 (List.mem_of_getElem? (i := 14) rfl)) rfl
theorem mi_X3_init : Cond.instanceMethod yX3_init ∈ zT := zT_in (zt2 (List.mem_of_getElem? (i := 15) rfl)) rfl
theorem mc_X3_init : Cond.code yX3_init cX3_init 1 none ∈ zT := zT_in (zt2 (List.mem_of_getElem? (i := 16) rfl)) rfl
theorem ml_X10_69 : Cond.methodLink RX10 69 yX6_init ∈ zT := zT_in (zt2 (List.mem_of_getElem? (i := 45) rfl)) rfl
theorem mi_X6_init : Cond.instanceMethod yX6_init ∈ zT := zT_in (zt2 (List.mem_of_getElem? (i := 46) rfl)) rfl
theorem mc_X6_init : Cond.code yX6_init cX6_init 1 none ∈ zT := zT_in (zt2 (List.mem_of_getElem? (i := 47) rfl)) rfl
theorem ml_L_26 : Cond.methodLink RL 26 yX10_sign ∈ zT := zT_in (zt2 (List.mem_of_getElem? (i := 120) rfl)) rfl
theorem mi_X10_sign : Cond.instanceMethod yX10_sign ∈ zT := zT_in (zt2 (List.mem_of_getElem? (i := 121) rfl)) rfl
theorem mx_X10_sign : Cond.selects RX10 yX10_sign yX10_sign ∈ zT := zT_in (zt2 (List.mem_of_getElem? (i := 122) rfl)) rfl
theorem mc_X10_sign : Cond.code yX10_sign cX10_sign 3 (some .int) ∈ zT := zT_in (zt2 (List.mem_of_getElem? (i := 123) rfl)) rfl
theorem ml_L_31 : Cond.methodLink RL 31 yX10_end ∈ zT := zT_in (zt2 (List.mem_of_getElem? (i := 124) rfl)) rfl
theorem mi_X10_end : Cond.instanceMethod yX10_end ∈ zT := zT_in (zt2 (List.mem_of_getElem? (i := 125) rfl)) rfl
theorem mx_X10_end : Cond.selects RX10 yX10_end yX10_end ∈ zT := zT_in (zt2 (List.mem_of_getElem? (i := 126) rfl)) rfl
theorem mc_X10_end : Cond.code yX10_end cX10_end 2 (some .boolean) ∈ zT := zT_in (zt2 (List.mem_of_getElem? (i := 127) rfl)) rfl
theorem ml_L_36 : Cond.methodLink RL 36 yX10_passages ∈ zT := zT_in (zt2 (List.mem_of_getElem? (i := 128) rfl)) rfl
theorem mi_X10_passages : Cond.instanceMethod yX10_passages ∈ zT := zT_in (zt2 (List.mem_of_getElem? (i := 129) rfl)) rfl
theorem mx_X10_passages : Cond.selects RX10 yX10_passages yX10_passages ∈ zT := zT_in (zt2 (List.mem_of_getElem? (i := 130) rfl)) rfl
theorem mc_X10_passages : Cond.code yX10_passages cX10_passages 5 (some .int) ∈ zT := zT_in (zt2 (List.mem_of_getElem? (i := 131) rfl)) rfl
theorem ml_X10_98 : Cond.methodLink RX10 98 yX8_faultOfLines ∈ zT := zT_in (zt2 (List.mem_of_getElem? (i := 132) rfl)) rfl
theorem mi_X8_faultOfLines : Cond.instanceMethod yX8_faultOfLines ∈ zT := zT_in (zt2 (List.mem_of_getElem? (i := 133) rfl)) rfl
theorem mx_X8_faultOfLines : Cond.selects RX8 yX8_faultOfLines yX8_faultOfLines ∈ zT := zT_in (zt2 (List.mem_of_getElem? (i := 134) rfl)) rfl
theorem mc_X8_faultOfLines : Cond.code yX8_faultOfLines cX8_faultOfLines 4 (some .int) ∈ zT := zT_in (zt2 (List.mem_of_getElem? (i := 135) rfl)) rfl
theorem ml_X8_23 : Cond.methodLink RX8 23 yJ9_min_7cf53 ∈ zT := zT_in (zt2 (List.mem_of_getElem? (i := 136) rfl)) rfl
theorem ms_J9_min_7cf53 : Cond.static yJ9_min_7cf53 ∈ zT := zT_in (zt2 (List.mem_of_getElem? (i := 137) rfl)) rfl
theorem ml_X8_29 : Cond.methodLink RX8 29 yX8_standsInLine ∈ zT := zT_in (zt2 (List.mem_of_getElem? (i := 139) rfl)) rfl
theorem mi_X8_standsInLine : Cond.instanceMethod yX8_standsInLine ∈ zT := zT_in (zt2 (List.mem_of_getElem? (i := 141) rfl)) rfl
theorem mc_X8_standsInLine : Cond.code yX8_standsInLine cX8_standsInLine 3 (some .boolean) ∈ zT := zT_in (zt2 (List.mem_of_getElem? (i := 142) rfl)) rfl
theorem ml_X8_19 : Cond.methodLink RX8 19 yX8_within ∈ zT := zT_in (zt2 (List.mem_of_getElem? (i := 143) rfl)) rfl
theorem mi_X8_within : Cond.instanceMethod yX8_within ∈ zT := zT_in (zt2 (List.mem_of_getElem? (i := 144) rfl)) rfl
theorem mx_X8_within : Cond.selects RX8 yX8_within yX8_within ∈ zT := zT_in (zt2 (List.mem_of_getElem? (i := 145) rfl)) rfl
theorem mc_X8_within : Cond.code yX8_within cX8_within 4 (some .boolean) ∈ zT := zT_in (zt2 (List.mem_of_getElem? (i := 146) rfl)) rfl
theorem ml_X8_33 : Cond.methodLink RX8 33 yX8_digit ∈ zT := zT_in (zt2 (List.mem_of_getElem? (i := 147) rfl)) rfl
theorem mi_X8_digit : Cond.instanceMethod yX8_digit ∈ zT := zT_in (zt2 (List.mem_of_getElem? (i := 148) rfl)) rfl
theorem mx_X8_digit : Cond.selects RX8 yX8_digit yX8_digit ∈ zT := zT_in (zt2 (List.mem_of_getElem? (i := 149) rfl)) rfl
theorem mc_X8_digit : Cond.code yX8_digit cX8_digit 2 (some .int) ∈ zT := zT_in (zt2 (List.mem_of_getElem? (i := 150) rfl)) rfl
theorem ml_X10_102 : Cond.methodLink RX10 102 yX8_digit ∈ zT := zT_in (zt2 (List.mem_of_getElem? (i := 151) rfl)) rfl
theorem ml_X10_105 : Cond.methodLink RX10 105 yX0_add ∈ zT := zT_in (zt2 (List.mem_of_getElem? (i := 152) rfl)) rfl
theorem mi_X0_add : Cond.instanceMethod yX0_add ∈ zT := zT_in (zt2 (List.mem_of_getElem? (i := 153) rfl)) rfl
theorem mx_X0_add : Cond.selects RX0 yX0_add yX0_add ∈ zT := zT_in (zt2 (List.mem_of_getElem? (i := 154) rfl)) rfl
theorem mc_X0_add : Cond.code yX0_add cX0_add 5 none ∈ zT := zT_in (zt2 (List.mem_of_getElem? (i := 155) rfl)) rfl
theorem ml_X10_109 : Cond.methodLink RX10 109 yX4_lose ∈ zT := zT_in (zt2 (List.mem_of_getElem? (i := 156) rfl)) rfl
theorem mi_X4_lose : Cond.instanceMethod yX4_lose ∈ zT := zT_in (zt2 (List.mem_of_getElem? (i := 157) rfl)) rfl
theorem mx_X4_lose : Cond.selects RX4 yX4_lose yX4_lose ∈ zT := zT_in (zt2 (List.mem_of_getElem? (i := 158) rfl)) rfl
theorem mc_X4_lose : Cond.code yX4_lose cX4_lose 2 none ∈ zT := zT_in (zt2 (List.mem_of_getElem? (i := 159) rfl)) rfl
theorem ml_L_41 : Cond.methodLink RL 41 yX10_rule ∈ zT := zT_in (zt2 (List.mem_of_getElem? (i := 160) rfl)) rfl
theorem mi_X10_rule : Cond.instanceMethod yX10_rule ∈ zT := zT_in (zt2 (List.mem_of_getElem? (i := 161) rfl)) rfl
theorem mx_X10_rule : Cond.selects RX10 yX10_rule yX10_rule ∈ zT := zT_in (zt2 (List.mem_of_getElem? (i := 162) rfl)) rfl
theorem mc_X10_rule : Cond.code yX10_rule cX10_rule 3 (some .int) ∈ zT := zT_in (zt2 (List.mem_of_getElem? (i := 163) rfl)) rfl
theorem ml_X10_112 : Cond.methodLink RX10 112 yX6_read ∈ zT := zT_in (zt2 (List.mem_of_getElem? (i := 164) rfl)) rfl
theorem mi_X6_read : Cond.instanceMethod yX6_read ∈ zT := zT_in (zt2 (List.mem_of_getElem? (i := 165) rfl)) rfl
theorem mx_X6_read : Cond.selects RX6 yX6_read yX6_read ∈ zT := zT_in (zt2 (List.mem_of_getElem? (i := 166) rfl)) rfl
theorem mc_X6_read : Cond.code yX6_read cX6_read 5 (some .int) ∈ zT := zT_in (zt2 (List.mem_of_getElem? (i := 167) rfl)) rfl
theorem ml_X6_50 : Cond.methodLink RX6 50 yJ9_min_7cf53 ∈ zT := zT_in (zt2 (List.mem_of_getElem? (i := 168) rfl)) rfl
theorem ml_X6_59 : Cond.methodLink RX6 59 yX6_takesThing ∈ zT := zT_in (zt2 (List.mem_of_getElem? (i := 169) rfl)) rfl
theorem mi_X6_takesThing : Cond.instanceMethod yX6_takesThing ∈ zT := zT_in (zt2 (List.mem_of_getElem? (i := 171) rfl)) rfl
theorem mc_X6_takesThing : Cond.code yX6_takesThing cX6_takesThing 4 (some .boolean) ∈ zT := zT_in (zt2 (List.mem_of_getElem? (i := 172) rfl)) rfl
theorem ml_X6_70 : Cond.methodLink RX6 70 yX6_hold ∈ zT := zT_in (zt2 (List.mem_of_getElem? (i := 173) rfl)) rfl
theorem mi_X6_hold : Cond.instanceMethod yX6_hold ∈ zT := zT_in (zt2 (List.mem_of_getElem? (i := 175) rfl)) rfl
theorem mc_X6_hold : Cond.code yX6_hold cX6_hold 2 none ∈ zT := zT_in (zt2 (List.mem_of_getElem? (i := 176) rfl)) rfl
theorem ml_X6_76 : Cond.methodLink RX6 76 yJ0_indexOf_0f7a4 ∈ zT := zT_in (zt2 (List.mem_of_getElem? (i := 178) rfl)) rfl
theorem mi_J0_indexOf_0f7a4 : Cond.instanceMethod yJ0_indexOf_0f7a4 ∈ zT := zT_in (zt2 (List.mem_of_getElem? (i := 179) rfl)) rfl
theorem mx_J0_indexOf_0f7a4 : Cond.selects RJ0 yJ0_indexOf_0f7a4 yJ0_indexOf_0f7a4 ∈ zT := zT_in (zt2 (List.mem_of_getElem? (i := 180) rfl)) rfl
theorem mc_J0_indexOf_0f7a4 : Cond.code yJ0_indexOf_0f7a4 cJ0_indexOf_0f7a4 2 (some .int) ∈ zT := zT_in (zt2 (List.mem_of_getElem? (i := 181) rfl)) rfl
theorem ml_J0_633 : Cond.methodLink RJ0 633 yJ0_indexOf_7cf53 ∈ zT := zT_in (zt2 (List.mem_of_getElem? (i := 182) rfl)) rfl
theorem mi_J0_indexOf_7cf53 : Cond.instanceMethod yJ0_indexOf_7cf53 ∈ zT := zT_in (zt2 (List.mem_of_getElem? (i := 183) rfl)) rfl
theorem mx_J0_indexOf_7cf53 : Cond.selects RJ0 yJ0_indexOf_7cf53 yJ0_indexOf_7cf53 ∈ zT := zT_in (zt2 (List.mem_of_getElem? (i := 184) rfl)) rfl
theorem mc_J0_indexOf_7cf53 : Cond.code yJ0_indexOf_7cf53 cJ0_indexOf_7cf53 3 (some .int) ∈ zT := zT_in (zt2 (List.mem_of_getElem? (i := 185) rfl)) rfl
theorem ml_J0_492 : Cond.methodLink RJ0 492 yJ0_isLatin1_aae02 ∈ zT := zT_in (zt2 (List.mem_of_getElem? (i := 186) rfl)) rfl
theorem mi_J0_isLatin1_aae02 : Cond.instanceMethod yJ0_isLatin1_aae02 ∈ zT := zT_in (zt2 (List.mem_of_getElem? (i := 187) rfl)) rfl
theorem mx_J0_isLatin1_aae02 : Cond.selects RJ0 yJ0_isLatin1_aae02 yJ0_isLatin1_aae02 ∈ zT := zT_in (zt2 (List.mem_of_getElem? (i := 188) rfl)) rfl
theorem mc_J0_isLatin1_aae02 : Cond.code yJ0_isLatin1_aae02 cJ0_isLatin1_aae02 1 (some .boolean) ∈ zT := zT_in (zt2 (List.mem_of_getElem? (i := 189) rfl)) rfl
theorem ml_J0_505 : Cond.methodLink RJ0 505 yJ0_length_8abf5 ∈ zT := zT_in (zt2 (List.mem_of_getElem? (i := 192) rfl)) rfl
theorem mi_J0_length_8abf5 : Cond.instanceMethod yJ0_length_8abf5 ∈ zT := zT_in (zt2 (List.mem_of_getElem? (i := 193) rfl)) rfl
theorem mx_J0_length_8abf5 : Cond.selects RJ0 yJ0_length_8abf5 yJ0_length_8abf5 ∈ zT := zT_in (zt2 (List.mem_of_getElem? (i := 194) rfl)) rfl
theorem mc_J0_length_8abf5 : Cond.code yJ0_length_8abf5 cJ0_length_8abf5 1 (some .int) ∈ zT := zT_in (zt2 (List.mem_of_getElem? (i := 195) rfl)) rfl
theorem ml_J0_335 : Cond.methodLink RJ0 335 yJ0_coder_7d493 ∈ zT := zT_in (zt2 (List.mem_of_getElem? (i := 196) rfl)) rfl
theorem mi_J0_coder_7d493 : Cond.instanceMethod yJ0_coder_7d493 ∈ zT := zT_in (zt2 (List.mem_of_getElem? (i := 197) rfl)) rfl
theorem mx_J0_coder_7d493 : Cond.selects RJ0 yJ0_coder_7d493 yJ0_coder_7d493 ∈ zT := zT_in (zt2 (List.mem_of_getElem? (i := 198) rfl)) rfl
theorem mc_J0_coder_7d493 : Cond.code yJ0_coder_7d493 cJ0_coder_7d493 1 (some .byte) ∈ zT := zT_in (zt2 (List.mem_of_getElem? (i := 199) rfl)) rfl
theorem ml_J0_637 : Cond.methodLink RJ0 637 yJ1_indexOf_4cfef ∈ zT := zT_in (zt2 (List.mem_of_getElem? (i := 200) rfl)) rfl
theorem ms_J1_indexOf_4cfef : Cond.static yJ1_indexOf_4cfef ∈ zT := zT_in (zt2 (List.mem_of_getElem? (i := 201) rfl)) rfl
theorem mc_J1_indexOf_4cfef : Cond.code yJ1_indexOf_4cfef cJ1_indexOf_4cfef 4 (some .int) ∈ zT := zT_in (zt2 (List.mem_of_getElem? (i := 202) rfl)) rfl
theorem ml_J1_88 : Cond.methodLink RJ1 88 yJ1_canEncode_9a6ad ∈ zT := zT_in (zt2 (List.mem_of_getElem? (i := 203) rfl)) rfl
theorem ms_J1_canEncode_9a6ad : Cond.static yJ1_canEncode_9a6ad ∈ zT := zT_in (zt2 (List.mem_of_getElem? (i := 204) rfl)) rfl
theorem mc_J1_canEncode_9a6ad : Cond.code yJ1_canEncode_9a6ad cJ1_canEncode_9a6ad 1 (some .boolean) ∈ zT := zT_in (zt2 (List.mem_of_getElem? (i := 205) rfl)) rfl
theorem ml_J1_92 : Cond.methodLink RJ1 92 yJ9_max_7cf53 ∈ zT := zT_in (zt2 (List.mem_of_getElem? (i := 206) rfl)) rfl
theorem ms_J9_max_7cf53 : Cond.static yJ9_max_7cf53 ∈ zT := zT_in (zt2 (List.mem_of_getElem? (i := 207) rfl)) rfl
theorem ml_J1_38 : Cond.methodLink RJ1 38 yJ9_min_7cf53 ∈ zT := zT_in (zt2 (List.mem_of_getElem? (i := 209) rfl)) rfl
theorem ml_J1_95 : Cond.methodLink RJ1 95 yJ1_indexOfChar_4cfef ∈ zT := zT_in (zt2 (List.mem_of_getElem? (i := 210) rfl)) rfl
theorem ms_J1_indexOfChar_4cfef : Cond.static yJ1_indexOfChar_4cfef ∈ zT := zT_in (zt2 (List.mem_of_getElem? (i := 211) rfl)) rfl
theorem mc_J1_indexOfChar_4cfef : Cond.code yJ1_indexOfChar_4cfef cJ1_indexOfChar_4cfef 6 (some .int) ∈ zT := zT_in (zt2 (List.mem_of_getElem? (i := 212) rfl)) rfl
theorem ml_J0_640 : Cond.methodLink RJ0 640 yJ2_indexOf_4cfef ∈ zT := zT_in (zt2 (List.mem_of_getElem? (i := 213) rfl)) rfl
theorem ms_J2_indexOf_4cfef : Cond.static yJ2_indexOf_4cfef ∈ zT := zT_in (zt2 (List.mem_of_getElem? (i := 214) rfl)) rfl
theorem mc_J2_indexOf_4cfef : Cond.code yJ2_indexOf_4cfef cJ2_indexOf_4cfef 4 (some .int) ∈ zT := zT_in (zt2 (List.mem_of_getElem? (i := 215) rfl)) rfl
theorem ml_J2_224 : Cond.methodLink RJ2 224 yJ9_max_7cf53 ∈ zT := zT_in (zt2 (List.mem_of_getElem? (i := 216) rfl)) rfl
theorem ml_J2_183 : Cond.methodLink RJ2 183 yJ9_min_7cf53 ∈ zT := zT_in (zt2 (List.mem_of_getElem? (i := 217) rfl)) rfl
theorem cn_J2_227 : Cond.constant RJ2 227 (65536) ∈ zT := zT_in (zt2 (List.mem_of_getElem? (i := 218) rfl)) rfl
theorem ml_J2_228 : Cond.methodLink RJ2 228 yJ2_indexOfChar_4cfef ∈ zT := zT_in (zt2 (List.mem_of_getElem? (i := 219) rfl)) rfl
theorem ms_J2_indexOfChar_4cfef : Cond.static yJ2_indexOfChar_4cfef ∈ zT := zT_in (zt2 (List.mem_of_getElem? (i := 220) rfl)) rfl
theorem mc_J2_indexOfChar_4cfef : Cond.code yJ2_indexOfChar_4cfef cJ2_indexOfChar_4cfef 4 (some .int) ∈ zT := zT_in (zt2 (List.mem_of_getElem? (i := 221) rfl)) rfl
theorem ml_J2_96 : Cond.methodLink RJ2 96 yJ2_checkBoundsBeginEnd_d044e ∈ zT := zT_in (zt2 (List.mem_of_getElem? (i := 222) rfl)) rfl
theorem ms_J2_checkBoundsBeginEnd_d044e : Cond.static yJ2_checkBoundsBeginEnd_d044e ∈ zT := zT_in (zt2 (List.mem_of_getElem? (i := 223) rfl)) rfl
theorem mc_J2_checkBoundsBeginEnd_d044e : Cond.code yJ2_checkBoundsBeginEnd_d044e cJ2_checkBoundsBeginEnd_d044e 3 none ∈ zT := zT_in (zt2 (List.mem_of_getElem? (i := 224) rfl)) rfl
theorem ml_J2_48 : Cond.methodLink RJ2 48 yJ2_length_9d52b ∈ zT := zT_in (zt2 (List.mem_of_getElem? (i := 225) rfl)) rfl
theorem ms_J2_length_9d52b : Cond.static yJ2_length_9d52b ∈ zT := zT_in (zt2 (List.mem_of_getElem? (i := 226) rfl)) rfl
theorem mc_J2_length_9d52b : Cond.code yJ2_length_9d52b cJ2_length_9d52b 1 (some .int) ∈ zT := zT_in (zt2 (List.mem_of_getElem? (i := 227) rfl)) rfl
theorem ml_J2_241 : Cond.methodLink RJ2 241 yJ0_checkBoundsBeginEnd_23922 ∈ zT := zT_in (zt2 (List.mem_of_getElem? (i := 228) rfl)) rfl
theorem ms_J0_checkBoundsBeginEnd_23922 : Cond.static yJ0_checkBoundsBeginEnd_23922 ∈ zT := zT_in (zt2 (List.mem_of_getElem? (i := 229) rfl)) rfl
theorem mc_J0_checkBoundsBeginEnd_23922 : Cond.code yJ0_checkBoundsBeginEnd_23922 cJ0_checkBoundsBeginEnd_23922 3 none ∈ zT := zT_in (zt2 (List.mem_of_getElem? (i := 230) rfl)) rfl
theorem ml_J0_1062 : Cond.methodLink RJ0 1062 yJ3_checkFromToIndex_8c36e ∈ zT := zT_in (zt2 (List.mem_of_getElem? (i := 233) rfl)) rfl
theorem ms_J3_checkFromToIndex_8c36e : Cond.static yJ3_checkFromToIndex_8c36e ∈ zT := zT_in (zt2 (List.mem_of_getElem? (i := 234) rfl)) rfl
theorem mc_J3_checkFromToIndex_8c36e : Cond.code yJ3_checkFromToIndex_8c36e cJ3_checkFromToIndex_8c36e 4 (some .int) ∈ zT := zT_in (zt2 (List.mem_of_getElem? (i := 235) rfl)) rfl
theorem ml_J2_244 : Cond.methodLink RJ2 244 yJ2_indexOfCharUnsafe_4cfef ∈ zT := zT_in (zt2 (List.mem_of_getElem? (i := 236) rfl)) rfl
theorem ms_J2_indexOfCharUnsafe_4cfef : Cond.static yJ2_indexOfCharUnsafe_4cfef ∈ zT := zT_in (zt2 (List.mem_of_getElem? (i := 237) rfl)) rfl
theorem mc_J2_indexOfCharUnsafe_4cfef : Cond.code yJ2_indexOfCharUnsafe_4cfef cJ2_indexOfCharUnsafe_4cfef 5 (some .int) ∈ zT := zT_in (zt2 (List.mem_of_getElem? (i := 238) rfl)) rfl
theorem ml_J2_71 : Cond.methodLink RJ2 71 yJ2_getChar_3b067 ∈ zT := zT_in (zt2 (List.mem_of_getElem? (i := 239) rfl)) rfl
theorem ms_J2_getChar_3b067 : Cond.static yJ2_getChar_3b067 ∈ zT := zT_in (zt3 (List.mem_of_getElem? (i := 0) rfl)) rfl
theorem mc_J2_getChar_3b067 : Cond.code yJ2_getChar_3b067 cJ2_getChar_3b067 2 (some .char) ∈ zT := zT_in (zt3 (List.mem_of_getElem? (i := 1) rfl)) rfl
theorem ml_J2_232 : Cond.methodLink RJ2 232 yJ2_indexOfSupplementary_4cfef ∈ zT := zT_in (zt3 (List.mem_of_getElem? (i := 8) rfl)) rfl
theorem ms_J2_indexOfSupplementary_4cfef : Cond.static yJ2_indexOfSupplementary_4cfef ∈ zT := zT_in (zt3 (List.mem_of_getElem? (i := 9) rfl)) rfl
theorem mc_J2_indexOfSupplementary_4cfef : Cond.code yJ2_indexOfSupplementary_4cfef cJ2_indexOfSupplementary_4cfef 7 (some .int) ∈ zT := zT_in (zt3 (List.mem_of_getElem? (i := 10) rfl)) rfl
theorem ml_J2_164 : Cond.methodLink RJ2 164 yJ11_isValidCodePoint_9a6ad ∈ zT := zT_in (zt3 (List.mem_of_getElem? (i := 11) rfl)) rfl
theorem ms_J11_isValidCodePoint_9a6ad : Cond.static yJ11_isValidCodePoint_9a6ad ∈ zT := zT_in (zt3 (List.mem_of_getElem? (i := 12) rfl)) rfl
theorem mc_J11_isValidCodePoint_9a6ad : Cond.code yJ11_isValidCodePoint_9a6ad cJ11_isValidCodePoint_9a6ad 2 (some .boolean) ∈ zT := zT_in (zt3 (List.mem_of_getElem? (i := 13) rfl)) rfl
theorem ml_J2_157 : Cond.methodLink RJ2 157 yJ11_highSurrogate_5068e ∈ zT := zT_in (zt3 (List.mem_of_getElem? (i := 14) rfl)) rfl
theorem ms_J11_highSurrogate_5068e : Cond.static yJ11_highSurrogate_5068e ∈ zT := zT_in (zt3 (List.mem_of_getElem? (i := 15) rfl)) rfl
theorem mc_J11_highSurrogate_5068e : Cond.code yJ11_highSurrogate_5068e cJ11_highSurrogate_5068e 1 (some .char) ∈ zT := zT_in (zt3 (List.mem_of_getElem? (i := 16) rfl)) rfl
theorem cn_J11_110 : Cond.constant RJ11 110 (55232) ∈ zT := zT_in (zt3 (List.mem_of_getElem? (i := 17) rfl)) rfl
theorem ml_J2_161 : Cond.methodLink RJ2 161 yJ11_lowSurrogate_5068e ∈ zT := zT_in (zt3 (List.mem_of_getElem? (i := 18) rfl)) rfl
theorem ms_J11_lowSurrogate_5068e : Cond.static yJ11_lowSurrogate_5068e ∈ zT := zT_in (zt3 (List.mem_of_getElem? (i := 19) rfl)) rfl
theorem mc_J11_lowSurrogate_5068e : Cond.code yJ11_lowSurrogate_5068e cJ11_lowSurrogate_5068e 1 (some .char) ∈ zT := zT_in (zt3 (List.mem_of_getElem? (i := 20) rfl)) rfl
theorem cn_J11_76 : Cond.constant RJ11 76 (56320) ∈ zT := zT_in (zt3 (List.mem_of_getElem? (i := 21) rfl)) rfl
theorem ml_X6_82 : Cond.methodLink RX6 82 yX6_emit ∈ zT := zT_in (zt3 (List.mem_of_getElem? (i := 22) rfl)) rfl
theorem mi_X6_emit : Cond.instanceMethod yX6_emit ∈ zT := zT_in (zt3 (List.mem_of_getElem? (i := 24) rfl)) rfl
theorem mc_X6_emit : Cond.code yX6_emit cX6_emit 2 none ∈ zT := zT_in (zt3 (List.mem_of_getElem? (i := 25) rfl)) rfl
theorem ml_X6_63 : Cond.methodLink RX6 63 yX6_takesBehindThing ∈ zT := zT_in (zt3 (List.mem_of_getElem? (i := 26) rfl)) rfl
theorem mi_X6_takesBehindThing : Cond.instanceMethod yX6_takesBehindThing ∈ zT := zT_in (zt3 (List.mem_of_getElem? (i := 28) rfl)) rfl
theorem mc_X6_takesBehindThing : Cond.code yX6_takesBehindThing cX6_takesBehindThing 4 (some .boolean) ∈ zT := zT_in (zt3 (List.mem_of_getElem? (i := 29) rfl)) rfl
theorem ml_X6_85 : Cond.methodLink RX6 85 yX6_takesDigit ∈ zT := zT_in (zt3 (List.mem_of_getElem? (i := 30) rfl)) rfl
theorem mi_X6_takesDigit : Cond.instanceMethod yX6_takesDigit ∈ zT := zT_in (zt3 (List.mem_of_getElem? (i := 32) rfl)) rfl
theorem mc_X6_takesDigit : Cond.code yX6_takesDigit cX6_takesDigit 2 (some .boolean) ∈ zT := zT_in (zt3 (List.mem_of_getElem? (i := 33) rfl)) rfl
theorem ml_X6_89 : Cond.methodLink RX6 89 yX6_closes ∈ zT := zT_in (zt3 (List.mem_of_getElem? (i := 34) rfl)) rfl
theorem mi_X6_closes : Cond.instanceMethod yX6_closes ∈ zT := zT_in (zt3 (List.mem_of_getElem? (i := 36) rfl)) rfl
theorem mc_X6_closes : Cond.code yX6_closes cX6_closes 1 (some .boolean) ∈ zT := zT_in (zt3 (List.mem_of_getElem? (i := 37) rfl)) rfl
theorem ml_X6_66 : Cond.methodLink RX6 66 yX6_release ∈ zT := zT_in (zt3 (List.mem_of_getElem? (i := 38) rfl)) rfl
theorem mi_X6_release : Cond.instanceMethod yX6_release ∈ zT := zT_in (zt3 (List.mem_of_getElem? (i := 40) rfl)) rfl
theorem mc_X6_release : Cond.code yX6_release cX6_release 2 none ∈ zT := zT_in (zt3 (List.mem_of_getElem? (i := 41) rfl)) rfl
theorem ml_X6_100 : Cond.methodLink RX6 100 yX6_bindsAtLeast ∈ zT := zT_in (zt3 (List.mem_of_getElem? (i := 42) rfl)) rfl
theorem ms_X6_bindsAtLeast : Cond.static yX6_bindsAtLeast ∈ zT := zT_in (zt3 (List.mem_of_getElem? (i := 43) rfl)) rfl
theorem mc_X6_bindsAtLeast : Cond.code yX6_bindsAtLeast cX6_bindsAtLeast 2 (some .boolean) ∈ zT := zT_in (zt3 (List.mem_of_getElem? (i := 44) rfl)) rfl
theorem ml_X6_93 : Cond.methodLink RX6 93 yX6_bindingOf ∈ zT := zT_in (zt3 (List.mem_of_getElem? (i := 45) rfl)) rfl
theorem ms_X6_bindingOf : Cond.static yX6_bindingOf ∈ zT := zT_in (zt3 (List.mem_of_getElem? (i := 46) rfl)) rfl
theorem mc_X6_bindingOf : Cond.code yX6_bindingOf cX6_bindingOf 1 (some .int) ∈ zT := zT_in (zt3 (List.mem_of_getElem? (i := 47) rfl)) rfl
theorem ml_X6_97 : Cond.methodLink RX6 97 yJ9_max_7cf53 ∈ zT := zT_in (zt3 (List.mem_of_getElem? (i := 48) rfl)) rfl
theorem ml_L_57 : Cond.methodLink RL 57 yX10_sheet ∈ zT := zT_in (zt3 (List.mem_of_getElem? (i := 50) rfl)) rfl
theorem mi_X10_sheet : Cond.instanceMethod yX10_sheet ∈ zT := zT_in (zt3 (List.mem_of_getElem? (i := 51) rfl)) rfl
theorem mx_X10_sheet : Cond.selects RX10 yX10_sheet yX10_sheet ∈ zT := zT_in (zt3 (List.mem_of_getElem? (i := 52) rfl)) rfl
theorem mc_X10_sheet : Cond.code yX10_sheet cX10_sheet 7 (some .int) ∈ zT := zT_in (zt3 (List.mem_of_getElem? (i := 53) rfl)) rfl
theorem ml_X10_162 : Cond.methodLink RX10 162 yX10_wearToldBy ∈ zT := zT_in (zt3 (List.mem_of_getElem? (i := 54) rfl)) rfl
theorem ms_X10_wearToldBy : Cond.static yX10_wearToldBy ∈ zT := zT_in (zt3 (List.mem_of_getElem? (i := 55) rfl)) rfl
theorem mc_X10_wearToldBy : Cond.code yX10_wearToldBy cX10_wearToldBy 3 (some .int) ∈ zT := zT_in (zt3 (List.mem_of_getElem? (i := 56) rfl)) rfl
theorem ml_X10_170 : Cond.methodLink RX10 170 yJ9_min_7cf53 ∈ zT := zT_in (zt3 (List.mem_of_getElem? (i := 57) rfl)) rfl
theorem ml_X10_175 : Cond.methodLink RX10 175 yJ9_max_7cf53 ∈ zT := zT_in (zt3 (List.mem_of_getElem? (i := 58) rfl)) rfl
theorem ml_X10_166 : Cond.methodLink RX10 166 yX0_wearOfAll ∈ zT := zT_in (zt3 (List.mem_of_getElem? (i := 59) rfl)) rfl
theorem mi_X0_wearOfAll : Cond.instanceMethod yX0_wearOfAll ∈ zT := zT_in (zt3 (List.mem_of_getElem? (i := 60) rfl)) rfl
theorem mx_X0_wearOfAll : Cond.selects RX0 yX0_wearOfAll yX0_wearOfAll ∈ zT := zT_in (zt3 (List.mem_of_getElem? (i := 61) rfl)) rfl
theorem mc_X0_wearOfAll : Cond.code yX0_wearOfAll cX0_wearOfAll 3 (some .int) ∈ zT := zT_in (zt3 (List.mem_of_getElem? (i := 62) rfl)) rfl
theorem ml_L_62 : Cond.methodLink RL 62 yX10_calls ∈ zT := zT_in (zt3 (List.mem_of_getElem? (i := 63) rfl)) rfl
theorem mi_X10_calls : Cond.instanceMethod yX10_calls ∈ zT := zT_in (zt3 (List.mem_of_getElem? (i := 64) rfl)) rfl
theorem mx_X10_calls : Cond.selects RX10 yX10_calls yX10_calls ∈ zT := zT_in (zt3 (List.mem_of_getElem? (i := 65) rfl)) rfl
theorem mc_X10_calls : Cond.code yX10_calls cX10_calls 4 (some .int) ∈ zT := zT_in (zt3 (List.mem_of_getElem? (i := 66) rfl)) rfl
theorem ml_X10_178 : Cond.methodLink RX10 178 yX10_refusalOfCall ∈ zT := zT_in (zt3 (List.mem_of_getElem? (i := 67) rfl)) rfl
theorem mi_X10_refusalOfCall : Cond.instanceMethod yX10_refusalOfCall ∈ zT := zT_in (zt3 (List.mem_of_getElem? (i := 69) rfl)) rfl
theorem mc_X10_refusalOfCall : Cond.code yX10_refusalOfCall cX10_refusalOfCall 4 (some .int) ∈ zT := zT_in (zt3 (List.mem_of_getElem? (i := 70) rfl)) rfl
theorem ml_X10_236 : Cond.methodLink RX10 236 yX2_goes ∈ zT := zT_in (zt3 (List.mem_of_getElem? (i := 71) rfl)) rfl
theorem mi_X2_goes : Cond.instanceMethod yX2_goes ∈ zT := zT_in (zt3 (List.mem_of_getElem? (i := 72) rfl)) rfl
theorem mx_X2_goes : Cond.selects RX2 yX2_goes yX2_goes ∈ zT := zT_in (zt3 (List.mem_of_getElem? (i := 73) rfl)) rfl
theorem mc_X2_goes : Cond.code yX2_goes cX2_goes 5 (some .boolean) ∈ zT := zT_in (zt3 (List.mem_of_getElem? (i := 74) rfl)) rfl
theorem ml_X2_42 : Cond.methodLink RX2 42 yX0_has ∈ zT := zT_in (zt3 (List.mem_of_getElem? (i := 75) rfl)) rfl
theorem mi_X0_has : Cond.instanceMethod yX0_has ∈ zT := zT_in (zt3 (List.mem_of_getElem? (i := 76) rfl)) rfl
theorem mx_X0_has : Cond.selects RX0 yX0_has yX0_has ∈ zT := zT_in (zt3 (List.mem_of_getElem? (i := 77) rfl)) rfl
theorem mc_X0_has : Cond.code yX0_has cX0_has 2 (some .boolean) ∈ zT := zT_in (zt3 (List.mem_of_getElem? (i := 78) rfl)) rfl
theorem ml_X2_48 : Cond.methodLink RX2 48 yX0_isOpen ∈ zT := zT_in (zt3 (List.mem_of_getElem? (i := 79) rfl)) rfl
theorem mi_X0_isOpen : Cond.instanceMethod yX0_isOpen ∈ zT := zT_in (zt3 (List.mem_of_getElem? (i := 80) rfl)) rfl
theorem mx_X0_isOpen : Cond.selects RX0 yX0_isOpen yX0_isOpen ∈ zT := zT_in (zt3 (List.mem_of_getElem? (i := 81) rfl)) rfl
theorem mc_X0_isOpen : Cond.code yX0_isOpen cX0_isOpen 2 (some .boolean) ∈ zT := zT_in (zt3 (List.mem_of_getElem? (i := 82) rfl)) rfl
theorem ml_X2_51 : Cond.methodLink RX2 51 yX0_isEnd ∈ zT := zT_in (zt3 (List.mem_of_getElem? (i := 83) rfl)) rfl
theorem mi_X0_isEnd : Cond.instanceMethod yX0_isEnd ∈ zT := zT_in (zt3 (List.mem_of_getElem? (i := 84) rfl)) rfl
theorem mx_X0_isEnd : Cond.selects RX0 yX0_isEnd yX0_isEnd ∈ zT := zT_in (zt3 (List.mem_of_getElem? (i := 85) rfl)) rfl
theorem mc_X0_isEnd : Cond.code yX0_isEnd cX0_isEnd 3 (some .boolean) ∈ zT := zT_in (zt3 (List.mem_of_getElem? (i := 86) rfl)) rfl
theorem ml_X2_70 : Cond.methodLink RX2 70 yX0_acrossFrom ∈ zT := zT_in (zt3 (List.mem_of_getElem? (i := 87) rfl)) rfl
theorem mi_X0_acrossFrom : Cond.instanceMethod yX0_acrossFrom ∈ zT := zT_in (zt3 (List.mem_of_getElem? (i := 88) rfl)) rfl
theorem mx_X0_acrossFrom : Cond.selects RX0 yX0_acrossFrom yX0_acrossFrom ∈ zT := zT_in (zt3 (List.mem_of_getElem? (i := 89) rfl)) rfl
theorem mc_X0_acrossFrom : Cond.code yX0_acrossFrom cX0_acrossFrom 3 (some .int) ∈ zT := zT_in (zt3 (List.mem_of_getElem? (i := 90) rfl)) rfl
theorem ml_X2_74 : Cond.methodLink RX2 74 yX0_openOf ∈ zT := zT_in (zt3 (List.mem_of_getElem? (i := 91) rfl)) rfl
theorem mi_X0_openOf : Cond.instanceMethod yX0_openOf ∈ zT := zT_in (zt3 (List.mem_of_getElem? (i := 92) rfl)) rfl
theorem mx_X0_openOf : Cond.selects RX0 yX0_openOf yX0_openOf ∈ zT := zT_in (zt3 (List.mem_of_getElem? (i := 93) rfl)) rfl
theorem mc_X0_openOf : Cond.code yX0_openOf cX0_openOf 2 (some .int) ∈ zT := zT_in (zt3 (List.mem_of_getElem? (i := 94) rfl)) rfl
theorem ml_X0_45 : Cond.methodLink RX0 45 yX0_endingAt ∈ zT := zT_in (zt3 (List.mem_of_getElem? (i := 95) rfl)) rfl
theorem mi_X0_endingAt : Cond.instanceMethod yX0_endingAt ∈ zT := zT_in (zt3 (List.mem_of_getElem? (i := 96) rfl)) rfl
theorem mx_X0_endingAt : Cond.selects RX0 yX0_endingAt yX0_endingAt ∈ zT := zT_in (zt3 (List.mem_of_getElem? (i := 97) rfl)) rfl
theorem mc_X0_endingAt : Cond.code yX0_endingAt cX0_endingAt 4 (some .int) ∈ zT := zT_in (zt3 (List.mem_of_getElem? (i := 98) rfl)) rfl
theorem ml_X0_41 : Cond.methodLink RX0 41 yX0_isEnd ∈ zT := zT_in (zt3 (List.mem_of_getElem? (i := 99) rfl)) rfl
theorem ml_X2_78 : Cond.methodLink RX2 78 yX2_leastOf ∈ zT := zT_in (zt3 (List.mem_of_getElem? (i := 100) rfl)) rfl
theorem mi_X2_leastOf : Cond.instanceMethod yX2_leastOf ∈ zT := zT_in (zt3 (List.mem_of_getElem? (i := 102) rfl)) rfl
theorem mc_X2_leastOf : Cond.code yX2_leastOf cX2_leastOf 2 (some .int) ∈ zT := zT_in (zt3 (List.mem_of_getElem? (i := 103) rfl)) rfl
theorem ml_X2_81 : Cond.methodLink RX2 81 yJ6_numberOfTrailingZeros_0f7a4 ∈ zT := zT_in (zt3 (List.mem_of_getElem? (i := 104) rfl)) rfl
theorem ms_J6_numberOfTrailingZeros_0f7a4 : Cond.static yJ6_numberOfTrailingZeros_0f7a4 ∈ zT := zT_in (zt3 (List.mem_of_getElem? (i := 105) rfl)) rfl
theorem mc_J6_numberOfTrailingZeros_0f7a4 : Cond.code yJ6_numberOfTrailingZeros_0f7a4 cJ6_numberOfTrailingZeros_0f7a4 2 (some .int) ∈ zT := zT_in (zt3 (List.mem_of_getElem? (i := 106) rfl)) rfl
theorem cn_J6_264 : Cond.constant RJ6 264 (65536) ∈ zT := zT_in (zt3 (List.mem_of_getElem? (i := 107) rfl)) rfl
theorem ml_X10_240 : Cond.methodLink RX10 240 yX8_faultOfCall ∈ zT := zT_in (zt3 (List.mem_of_getElem? (i := 108) rfl)) rfl
theorem mi_X8_faultOfCall : Cond.instanceMethod yX8_faultOfCall ∈ zT := zT_in (zt3 (List.mem_of_getElem? (i := 109) rfl)) rfl
theorem mx_X8_faultOfCall : Cond.selects RX8 yX8_faultOfCall yX8_faultOfCall ∈ zT := zT_in (zt3 (List.mem_of_getElem? (i := 110) rfl)) rfl
theorem mc_X8_faultOfCall : Cond.code yX8_faultOfCall cX8_faultOfCall 2 (some .int) ∈ zT := zT_in (zt3 (List.mem_of_getElem? (i := 111) rfl)) rfl
theorem ml_X8_37 : Cond.methodLink RX8 37 yX8_lettersFrom ∈ zT := zT_in (zt3 (List.mem_of_getElem? (i := 112) rfl)) rfl
theorem mi_X8_lettersFrom : Cond.instanceMethod yX8_lettersFrom ∈ zT := zT_in (zt3 (List.mem_of_getElem? (i := 113) rfl)) rfl
theorem mx_X8_lettersFrom : Cond.selects RX8 yX8_lettersFrom yX8_lettersFrom ∈ zT := zT_in (zt3 (List.mem_of_getElem? (i := 114) rfl)) rfl
theorem mc_X8_lettersFrom : Cond.code yX8_lettersFrom cX8_lettersFrom 3 (some .int) ∈ zT := zT_in (zt3 (List.mem_of_getElem? (i := 115) rfl)) rfl
theorem ml_X10_181 : Cond.methodLink RX10 181 yX4_mark ∈ zT := zT_in (zt3 (List.mem_of_getElem? (i := 116) rfl)) rfl
theorem mi_X4_mark : Cond.instanceMethod yX4_mark ∈ zT := zT_in (zt3 (List.mem_of_getElem? (i := 117) rfl)) rfl
theorem mx_X4_mark : Cond.selects RX4 yX4_mark yX4_mark ∈ zT := zT_in (zt3 (List.mem_of_getElem? (i := 118) rfl)) rfl
theorem mc_X4_mark : Cond.code yX4_mark cX4_mark 2 none ∈ zT := zT_in (zt3 (List.mem_of_getElem? (i := 119) rfl)) rfl
theorem ml_X4_30 : Cond.methodLink RX4 30 yX4_marked ∈ zT := zT_in (zt3 (List.mem_of_getElem? (i := 120) rfl)) rfl
theorem mi_X4_marked : Cond.instanceMethod yX4_marked ∈ zT := zT_in (zt3 (List.mem_of_getElem? (i := 121) rfl)) rfl
theorem mx_X4_marked : Cond.selects RX4 yX4_marked yX4_marked ∈ zT := zT_in (zt3 (List.mem_of_getElem? (i := 122) rfl)) rfl
theorem mc_X4_marked : Cond.code yX4_marked cX4_marked 1 (some (.object "CaveAdvice$State")) ∈ zT := zT_in (zt3 (List.mem_of_getElem? (i := 123) rfl)) rfl
theorem ml_X4_34 : Cond.methodLink RX4 34 yX7_take ∈ zT := zT_in (zt3 (List.mem_of_getElem? (i := 124) rfl)) rfl
theorem mi_X7_take : Cond.instanceMethod yX7_take ∈ zT := zT_in (zt3 (List.mem_of_getElem? (i := 125) rfl)) rfl
theorem mx_X7_take : Cond.selects RX7 yX7_take yX7_take ∈ zT := zT_in (zt3 (List.mem_of_getElem? (i := 126) rfl)) rfl
theorem mc_X7_take : Cond.code yX7_take cX7_take 2 none ∈ zT := zT_in (zt3 (List.mem_of_getElem? (i := 127) rfl)) rfl
theorem ml_X10_185 : Cond.methodLink RX10 185 yX5_begin ∈ zT := zT_in (zt3 (List.mem_of_getElem? (i := 131) rfl)) rfl
theorem mi_X5_begin : Cond.instanceMethod yX5_begin ∈ zT := zT_in (zt3 (List.mem_of_getElem? (i := 132) rfl)) rfl
theorem mx_X5_begin : Cond.selects RX5 yX5_begin yX5_begin ∈ zT := zT_in (zt3 (List.mem_of_getElem? (i := 133) rfl)) rfl
theorem mc_X5_begin : Cond.code yX5_begin cX5_begin 1 none ∈ zT := zT_in (zt3 (List.mem_of_getElem? (i := 134) rfl)) rfl
theorem ml_X10_191 : Cond.methodLink RX10 191 yX5_put ∈ zT := zT_in (zt3 (List.mem_of_getElem? (i := 135) rfl)) rfl
theorem mi_X5_put : Cond.instanceMethod yX5_put ∈ zT := zT_in (zt3 (List.mem_of_getElem? (i := 136) rfl)) rfl
theorem mx_X5_put : Cond.selects RX5 yX5_put yX5_put ∈ zT := zT_in (zt3 (List.mem_of_getElem? (i := 137) rfl)) rfl
theorem mc_X5_put : Cond.code yX5_put cX5_put 3 none ∈ zT := zT_in (zt3 (List.mem_of_getElem? (i := 138) rfl)) rfl
theorem ml_X10_195 : Cond.methodLink RX10 195 yX10_putLetters ∈ zT := zT_in (zt3 (List.mem_of_getElem? (i := 139) rfl)) rfl
theorem mi_X10_putLetters : Cond.instanceMethod yX10_putLetters ∈ zT := zT_in (zt3 (List.mem_of_getElem? (i := 141) rfl)) rfl
theorem mc_X10_putLetters : Cond.code yX10_putLetters cX10_putLetters 3 none ∈ zT := zT_in (zt3 (List.mem_of_getElem? (i := 142) rfl)) rfl
theorem ml_X10_243 : Cond.methodLink RX10 243 yX8_letter ∈ zT := zT_in (zt3 (List.mem_of_getElem? (i := 143) rfl)) rfl
theorem mi_X8_letter : Cond.instanceMethod yX8_letter ∈ zT := zT_in (zt3 (List.mem_of_getElem? (i := 144) rfl)) rfl
theorem mx_X8_letter : Cond.selects RX8 yX8_letter yX8_letter ∈ zT := zT_in (zt3 (List.mem_of_getElem? (i := 145) rfl)) rfl
theorem mc_X8_letter : Cond.code yX8_letter cX8_letter 2 (some .int) ∈ zT := zT_in (zt3 (List.mem_of_getElem? (i := 146) rfl)) rfl
theorem ml_X10_246 : Cond.methodLink RX10 246 yX2_comesOut ∈ zT := zT_in (zt3 (List.mem_of_getElem? (i := 147) rfl)) rfl
theorem mi_X2_comesOut : Cond.instanceMethod yX2_comesOut ∈ zT := zT_in (zt3 (List.mem_of_getElem? (i := 148) rfl)) rfl
theorem mx_X2_comesOut : Cond.selects RX2 yX2_comesOut yX2_comesOut ∈ zT := zT_in (zt3 (List.mem_of_getElem? (i := 149) rfl)) rfl
theorem mc_X2_comesOut : Cond.code yX2_comesOut cX2_comesOut 6 (some .int) ∈ zT := zT_in (zt3 (List.mem_of_getElem? (i := 150) rfl)) rfl
theorem ml_X2_86 : Cond.methodLink RX2 86 yX6_changed ∈ zT := zT_in (zt3 (List.mem_of_getElem? (i := 151) rfl)) rfl
theorem mi_X6_changed : Cond.instanceMethod yX6_changed ∈ zT := zT_in (zt3 (List.mem_of_getElem? (i := 152) rfl)) rfl
theorem mx_X6_changed : Cond.selects RX6 yX6_changed yX6_changed ∈ zT := zT_in (zt3 (List.mem_of_getElem? (i := 153) rfl)) rfl
theorem mc_X6_changed : Cond.code yX6_changed cX6_changed 6 (some .int) ∈ zT := zT_in (zt3 (List.mem_of_getElem? (i := 154) rfl)) rfl
theorem ml_X6_118 : Cond.methodLink RX6 118 yX6_valueOfThings ∈ zT := zT_in (zt3 (List.mem_of_getElem? (i := 155) rfl)) rfl
theorem mi_X6_valueOfThings : Cond.instanceMethod yX6_valueOfThings ∈ zT := zT_in (zt3 (List.mem_of_getElem? (i := 157) rfl)) rfl
theorem mc_X6_valueOfThings : Cond.code yX6_valueOfThings cX6_valueOfThings 4 (some .int) ∈ zT := zT_in (zt3 (List.mem_of_getElem? (i := 158) rfl)) rfl
theorem ml_X6_122 : Cond.methodLink RX6 122 yX6_joined ∈ zT := zT_in (zt3 (List.mem_of_getElem? (i := 159) rfl)) rfl
theorem ms_X6_joined : Cond.static yX6_joined ∈ zT := zT_in (zt3 (List.mem_of_getElem? (i := 160) rfl)) rfl
theorem mc_X6_joined : Cond.code yX6_joined cX6_joined 3 (some .int) ∈ zT := zT_in (zt3 (List.mem_of_getElem? (i := 161) rfl)) rfl
theorem ml_X10_199 : Cond.methodLink RX10 199 yX10_wearByEcho ∈ zT := zT_in (zt3 (List.mem_of_getElem? (i := 162) rfl)) rfl
theorem mi_X10_wearByEcho : Cond.instanceMethod yX10_wearByEcho ∈ zT := zT_in (zt3 (List.mem_of_getElem? (i := 164) rfl)) rfl
theorem mc_X10_wearByEcho : Cond.code yX10_wearByEcho cX10_wearByEcho 1 (some .int) ∈ zT := zT_in (zt3 (List.mem_of_getElem? (i := 165) rfl)) rfl
theorem ml_X10_250 : Cond.methodLink RX10 250 yX0_wearOut ∈ zT := zT_in (zt3 (List.mem_of_getElem? (i := 166) rfl)) rfl
theorem mi_X0_wearOut : Cond.instanceMethod yX0_wearOut ∈ zT := zT_in (zt3 (List.mem_of_getElem? (i := 167) rfl)) rfl
theorem mx_X0_wearOut : Cond.selects RX0 yX0_wearOut yX0_wearOut ∈ zT := zT_in (zt3 (List.mem_of_getElem? (i := 168) rfl)) rfl
theorem mc_X0_wearOut : Cond.code yX0_wearOut cX0_wearOut 4 none ∈ zT := zT_in (zt3 (List.mem_of_getElem? (i := 169) rfl)) rfl
theorem ml_X0_73 : Cond.methodLink RX0 73 yJ9_min_7cf53 ∈ zT := zT_in (zt3 (List.mem_of_getElem? (i := 170) rfl)) rfl
theorem ml_X10_202 : Cond.methodLink RX10 202 yX4_settle ∈ zT := zT_in (zt3 (List.mem_of_getElem? (i := 171) rfl)) rfl
theorem mi_X4_settle : Cond.instanceMethod yX4_settle ∈ zT := zT_in (zt3 (List.mem_of_getElem? (i := 172) rfl)) rfl
theorem mx_X4_settle : Cond.selects RX4 yX4_settle yX4_settle ∈ zT := zT_in (zt3 (List.mem_of_getElem? (i := 173) rfl)) rfl
theorem mc_X4_settle : Cond.code yX4_settle cX4_settle 2 none ∈ zT := zT_in (zt3 (List.mem_of_getElem? (i := 174) rfl)) rfl
theorem ml_L_66 : Cond.methodLink RL 66 yX10_hours ∈ zT := zT_in (zt3 (List.mem_of_getElem? (i := 175) rfl)) rfl
theorem mi_X10_hours : Cond.instanceMethod yX10_hours ∈ zT := zT_in (zt3 (List.mem_of_getElem? (i := 176) rfl)) rfl
theorem mx_X10_hours : Cond.selects RX10 yX10_hours yX10_hours ∈ zT := zT_in (zt3 (List.mem_of_getElem? (i := 177) rfl)) rfl
theorem mc_X10_hours : Cond.code yX10_hours cX10_hours 3 (some .int) ∈ zT := zT_in (zt3 (List.mem_of_getElem? (i := 178) rfl)) rfl
theorem ml_X10_206 : Cond.methodLink RX10 206 yX10_passHours ∈ zT := zT_in (zt3 (List.mem_of_getElem? (i := 179) rfl)) rfl
theorem mi_X10_passHours : Cond.instanceMethod yX10_passHours ∈ zT := zT_in (zt3 (List.mem_of_getElem? (i := 181) rfl)) rfl
theorem mc_X10_passHours : Cond.code yX10_passHours cX10_passHours 2 (some .int) ∈ zT := zT_in (zt3 (List.mem_of_getElem? (i := 182) rfl)) rfl
theorem ml_X10_257 : Cond.methodLink RX10 257 yX0_heal ∈ zT := zT_in (zt3 (List.mem_of_getElem? (i := 183) rfl)) rfl
theorem mi_X0_heal : Cond.instanceMethod yX0_heal ∈ zT := zT_in (zt3 (List.mem_of_getElem? (i := 184) rfl)) rfl
theorem mx_X0_heal : Cond.selects RX0 yX0_heal yX0_heal ∈ zT := zT_in (zt3 (List.mem_of_getElem? (i := 185) rfl)) rfl
theorem mc_X0_heal : Cond.code yX0_heal cX0_heal 3 none ∈ zT := zT_in (zt3 (List.mem_of_getElem? (i := 186) rfl)) rfl
theorem ml_X0_56 : Cond.methodLink RX0 56 yJ9_max_7cf53 ∈ zT := zT_in (zt3 (List.mem_of_getElem? (i := 187) rfl)) rfl
theorem ml_L_70 : Cond.methodLink RL 70 yX10_falls ∈ zT := zT_in (zt3 (List.mem_of_getElem? (i := 188) rfl)) rfl
theorem mi_X10_falls : Cond.instanceMethod yX10_falls ∈ zT := zT_in (zt3 (List.mem_of_getElem? (i := 189) rfl)) rfl
theorem mx_X10_falls : Cond.selects RX10 yX10_falls yX10_falls ∈ zT := zT_in (zt3 (List.mem_of_getElem? (i := 190) rfl)) rfl
theorem mc_X10_falls : Cond.code yX10_falls cX10_falls 3 (some .int) ∈ zT := zT_in (zt3 (List.mem_of_getElem? (i := 191) rfl)) rfl
theorem ml_X10_209 : Cond.methodLink RX10 209 yX10_turnPassage ∈ zT := zT_in (zt3 (List.mem_of_getElem? (i := 192) rfl)) rfl
theorem mi_X10_turnPassage : Cond.instanceMethod yX10_turnPassage ∈ zT := zT_in (zt3 (List.mem_of_getElem? (i := 194) rfl)) rfl
theorem mc_X10_turnPassage : Cond.code yX10_turnPassage cX10_turnPassage 2 (some .int) ∈ zT := zT_in (zt3 (List.mem_of_getElem? (i := 195) rfl)) rfl
theorem ml_X10_116 : Cond.methodLink RX10 116 yX0_has ∈ zT := zT_in (zt3 (List.mem_of_getElem? (i := 196) rfl)) rfl
theorem ml_X10_263 : Cond.methodLink RX10 263 yJ6_bitCount_0f7a4 ∈ zT := zT_in (zt3 (List.mem_of_getElem? (i := 197) rfl)) rfl
theorem ms_J6_bitCount_0f7a4 : Cond.static yJ6_bitCount_0f7a4 ∈ zT := zT_in (zt3 (List.mem_of_getElem? (i := 198) rfl)) rfl
theorem mc_J6_bitCount_0f7a4 : Cond.code yJ6_bitCount_0f7a4 cJ6_bitCount_0f7a4 1 (some .int) ∈ zT := zT_in (zt3 (List.mem_of_getElem? (i := 199) rfl)) rfl
theorem cn_J6_265 : Cond.constant RJ6 265 (1431655765) ∈ zT := zT_in (zt3 (List.mem_of_getElem? (i := 200) rfl)) rfl
theorem cn_J6_266 : Cond.constant RJ6 266 (858993459) ∈ zT := zT_in (zt3 (List.mem_of_getElem? (i := 201) rfl)) rfl
theorem cn_J6_267 : Cond.constant RJ6 267 (252645135) ∈ zT := zT_in (zt3 (List.mem_of_getElem? (i := 202) rfl)) rfl
theorem ml_L_74 : Cond.methodLink RL 74 yX10_digs ∈ zT := zT_in (zt3 (List.mem_of_getElem? (i := 203) rfl)) rfl
theorem mi_X10_digs : Cond.instanceMethod yX10_digs ∈ zT := zT_in (zt3 (List.mem_of_getElem? (i := 204) rfl)) rfl
theorem mx_X10_digs : Cond.selects RX10 yX10_digs yX10_digs ∈ zT := zT_in (zt3 (List.mem_of_getElem? (i := 205) rfl)) rfl
theorem mc_X10_digs : Cond.code yX10_digs cX10_digs 5 (some .int) ∈ zT := zT_in (zt3 (List.mem_of_getElem? (i := 206) rfl)) rfl
theorem ml_X10_212 : Cond.methodLink RX10 212 yX10_digPassage ∈ zT := zT_in (zt3 (List.mem_of_getElem? (i := 207) rfl)) rfl
theorem mi_X10_digPassage : Cond.instanceMethod yX10_digPassage ∈ zT := zT_in (zt3 (List.mem_of_getElem? (i := 209) rfl)) rfl
theorem mc_X10_digPassage : Cond.code yX10_digPassage cX10_digPassage 6 (some .int) ∈ zT := zT_in (zt3 (List.mem_of_getElem? (i := 210) rfl)) rfl
theorem ml_L_79 : Cond.methodLink RL 79 yX10_season ∈ zT := zT_in (zt3 (List.mem_of_getElem? (i := 211) rfl)) rfl
theorem mi_X10_season : Cond.instanceMethod yX10_season ∈ zT := zT_in (zt3 (List.mem_of_getElem? (i := 212) rfl)) rfl
theorem mx_X10_season : Cond.selects RX10 yX10_season yX10_season ∈ zT := zT_in (zt3 (List.mem_of_getElem? (i := 213) rfl)) rfl
theorem mc_X10_season : Cond.code yX10_season cX10_season 5 (some .int) ∈ zT := zT_in (zt3 (List.mem_of_getElem? (i := 214) rfl)) rfl
theorem ml_X10_216 : Cond.methodLink RX10 216 yX8_faultOfSeason ∈ zT := zT_in (zt3 (List.mem_of_getElem? (i := 215) rfl)) rfl
theorem mi_X8_faultOfSeason : Cond.instanceMethod yX8_faultOfSeason ∈ zT := zT_in (zt3 (List.mem_of_getElem? (i := 216) rfl)) rfl
theorem mx_X8_faultOfSeason : Cond.selects RX8 yX8_faultOfSeason yX8_faultOfSeason ∈ zT := zT_in (zt3 (List.mem_of_getElem? (i := 217) rfl)) rfl
theorem mc_X8_faultOfSeason : Cond.code yX8_faultOfSeason cX8_faultOfSeason 5 (some .int) ∈ zT := zT_in (zt3 (List.mem_of_getElem? (i := 218) rfl)) rfl
theorem ml_X8_40 : Cond.methodLink RX8 40 yX8_digitsOfAct ∈ zT := zT_in (zt3 (List.mem_of_getElem? (i := 219) rfl)) rfl
theorem mi_X8_digitsOfAct : Cond.instanceMethod yX8_digitsOfAct ∈ zT := zT_in (zt3 (List.mem_of_getElem? (i := 221) rfl)) rfl
theorem mc_X8_digitsOfAct : Cond.code yX8_digitsOfAct cX8_digitsOfAct 2 (some .int) ∈ zT := zT_in (zt3 (List.mem_of_getElem? (i := 222) rfl)) rfl
theorem ml_X10_219 : Cond.methodLink RX10 219 yX10_doAct ∈ zT := zT_in (zt3 (List.mem_of_getElem? (i := 223) rfl)) rfl
theorem mi_X10_doAct : Cond.instanceMethod yX10_doAct ∈ zT := zT_in (zt3 (List.mem_of_getElem? (i := 225) rfl)) rfl
theorem mc_X10_doAct : Cond.code yX10_doAct cX10_doAct 2 (some .int) ∈ zT := zT_in (zt3 (List.mem_of_getElem? (i := 226) rfl)) rfl
theorem ml_X10_222 : Cond.methodLink RX10 222 yX8_signsOfAct ∈ zT := zT_in (zt3 (List.mem_of_getElem? (i := 227) rfl)) rfl
theorem mi_X8_signsOfAct : Cond.instanceMethod yX8_signsOfAct ∈ zT := zT_in (zt3 (List.mem_of_getElem? (i := 228) rfl)) rfl
theorem mx_X8_signsOfAct : Cond.selects RX8 yX8_signsOfAct yX8_signsOfAct ∈ zT := zT_in (zt3 (List.mem_of_getElem? (i := 229) rfl)) rfl
theorem mc_X8_signsOfAct : Cond.code yX8_signsOfAct cX8_signsOfAct 4 (some .int) ∈ zT := zT_in (zt3 (List.mem_of_getElem? (i := 230) rfl)) rfl
theorem ml_L_83 : Cond.methodLink RL 83 yX10_undo ∈ zT := zT_in (zt3 (List.mem_of_getElem? (i := 231) rfl)) rfl
theorem mi_X10_undo : Cond.instanceMethod yX10_undo ∈ zT := zT_in (zt3 (List.mem_of_getElem? (i := 232) rfl)) rfl
theorem mx_X10_undo : Cond.selects RX10 yX10_undo yX10_undo ∈ zT := zT_in (zt3 (List.mem_of_getElem? (i := 233) rfl)) rfl
theorem mc_X10_undo : Cond.code yX10_undo cX10_undo 1 (some .int) ∈ zT := zT_in (zt3 (List.mem_of_getElem? (i := 234) rfl)) rfl
theorem ml_X10_229 : Cond.methodLink RX10 229 yX4_latest ∈ zT := zT_in (zt3 (List.mem_of_getElem? (i := 235) rfl)) rfl
theorem mi_X4_latest : Cond.instanceMethod yX4_latest ∈ zT := zT_in (zt3 (List.mem_of_getElem? (i := 236) rfl)) rfl
theorem mx_X4_latest : Cond.selects RX4 yX4_latest yX4_latest ∈ zT := zT_in (zt3 (List.mem_of_getElem? (i := 237) rfl)) rfl
theorem mc_X4_latest : Cond.code yX4_latest cX4_latest 1 (some (.object "CaveAdvice$State")) ∈ zT := zT_in (zt3 (List.mem_of_getElem? (i := 238) rfl)) rfl
theorem ml_X4_38 : Cond.methodLink RX4 38 yJ9_max_7cf53 ∈ zT := zT_in (zt3 (List.mem_of_getElem? (i := 239) rfl)) rfl
theorem ml_X10_233 : Cond.methodLink RX10 233 yX7_take ∈ zT := zT_in (zt4 (List.mem_of_getElem? (i := 0) rfl)) rfl
theorem ml_L_87 : Cond.methodLink RL 87 yX10_route ∈ zT := zT_in (zt4 (List.mem_of_getElem? (i := 1) rfl)) rfl
theorem mi_X10_route : Cond.instanceMethod yX10_route ∈ zT := zT_in (zt4 (List.mem_of_getElem? (i := 2) rfl)) rfl
theorem mx_X10_route : Cond.selects RX10 yX10_route yX10_route ∈ zT := zT_in (zt4 (List.mem_of_getElem? (i := 3) rfl)) rfl
theorem mc_X10_route : Cond.code yX10_route cX10_route 4 (some .int) ∈ zT := zT_in (zt4 (List.mem_of_getElem? (i := 4) rfl)) rfl
theorem ml_L_91 : Cond.methodLink RL 91 yX10_hears ∈ zT := zT_in (zt4 (List.mem_of_getElem? (i := 5) rfl)) rfl
theorem mi_X10_hears : Cond.instanceMethod yX10_hears ∈ zT := zT_in (zt4 (List.mem_of_getElem? (i := 6) rfl)) rfl
theorem mx_X10_hears : Cond.selects RX10 yX10_hears yX10_hears ∈ zT := zT_in (zt4 (List.mem_of_getElem? (i := 7) rfl)) rfl
theorem mc_X10_hears : Cond.code yX10_hears cX10_hears 7 (some .int) ∈ zT := zT_in (zt4 (List.mem_of_getElem? (i := 8) rfl)) rfl
theorem ml_X10_272 : Cond.methodLink RX10 272 yX5_at ∈ zT := zT_in (zt4 (List.mem_of_getElem? (i := 9) rfl)) rfl
theorem mi_X5_at : Cond.instanceMethod yX5_at ∈ zT := zT_in (zt4 (List.mem_of_getElem? (i := 10) rfl)) rfl
theorem mx_X5_at : Cond.selects RX5 yX5_at yX5_at ∈ zT := zT_in (zt4 (List.mem_of_getElem? (i := 11) rfl)) rfl
theorem mc_X5_at : Cond.code yX5_at cX5_at 2 (some .long) ∈ zT := zT_in (zt4 (List.mem_of_getElem? (i := 12) rfl)) rfl
theorem ml_L_95 : Cond.methodLink RL 95 yX10_asks ∈ zT := zT_in (zt4 (List.mem_of_getElem? (i := 13) rfl)) rfl
theorem mi_X10_asks : Cond.instanceMethod yX10_asks ∈ zT := zT_in (zt4 (List.mem_of_getElem? (i := 14) rfl)) rfl
theorem mx_X10_asks : Cond.selects RX10 yX10_asks yX10_asks ∈ zT := zT_in (zt4 (List.mem_of_getElem? (i := 15) rfl)) rfl
theorem mc_X10_asks : Cond.code yX10_asks cX10_asks 7 (some .int) ∈ zT := zT_in (zt4 (List.mem_of_getElem? (i := 16) rfl)) rfl
theorem ml_X10_276 : Cond.methodLink RX10 276 yX2_imagesAt ∈ zT := zT_in (zt4 (List.mem_of_getElem? (i := 17) rfl)) rfl
theorem mi_X2_imagesAt : Cond.instanceMethod yX2_imagesAt ∈ zT := zT_in (zt4 (List.mem_of_getElem? (i := 18) rfl)) rfl
theorem mx_X2_imagesAt : Cond.selects RX2 yX2_imagesAt yX2_imagesAt ∈ zT := zT_in (zt4 (List.mem_of_getElem? (i := 19) rfl)) rfl
theorem mc_X2_imagesAt : Cond.code yX2_imagesAt cX2_imagesAt 5 none ∈ zT := zT_in (zt4 (List.mem_of_getElem? (i := 20) rfl)) rfl
theorem ml_X2_92 : Cond.methodLink RX2 92 yX2_comesOut ∈ zT := zT_in (zt4 (List.mem_of_getElem? (i := 21) rfl)) rfl
theorem ml_X10_280 : Cond.methodLink RX10 280 yX10_timesAmongImages ∈ zT := zT_in (zt4 (List.mem_of_getElem? (i := 22) rfl)) rfl
theorem mi_X10_timesAmongImages : Cond.instanceMethod yX10_timesAmongImages ∈ zT := zT_in (zt4 (List.mem_of_getElem? (i := 24) rfl)) rfl
theorem mc_X10_timesAmongImages : Cond.code yX10_timesAmongImages cX10_timesAmongImages 4 (some .int) ∈ zT := zT_in (zt4 (List.mem_of_getElem? (i := 25) rfl)) rfl
theorem ml_X10_283 : Cond.methodLink RX10 283 yX10_firstImage ∈ zT := zT_in (zt4 (List.mem_of_getElem? (i := 26) rfl)) rfl
theorem mi_X10_firstImage : Cond.instanceMethod yX10_firstImage ∈ zT := zT_in (zt4 (List.mem_of_getElem? (i := 28) rfl)) rfl
theorem mc_X10_firstImage : Cond.code yX10_firstImage cX10_firstImage 3 (some .int) ∈ zT := zT_in (zt4 (List.mem_of_getElem? (i := 29) rfl)) rfl
theorem ml_L_99 : Cond.methodLink RL 99 yX10_becomes ∈ zT := zT_in (zt4 (List.mem_of_getElem? (i := 30) rfl)) rfl
theorem mi_X10_becomes : Cond.instanceMethod yX10_becomes ∈ zT := zT_in (zt4 (List.mem_of_getElem? (i := 31) rfl)) rfl
theorem mx_X10_becomes : Cond.selects RX10 yX10_becomes yX10_becomes ∈ zT := zT_in (zt4 (List.mem_of_getElem? (i := 32) rfl)) rfl
theorem mc_X10_becomes : Cond.code yX10_becomes cX10_becomes 6 (some .int) ∈ zT := zT_in (zt4 (List.mem_of_getElem? (i := 33) rfl)) rfl
theorem ml_X10_286 : Cond.methodLink RX10 286 yX8_faultOfPair ∈ zT := zT_in (zt4 (List.mem_of_getElem? (i := 34) rfl)) rfl
theorem mi_X8_faultOfPair : Cond.instanceMethod yX8_faultOfPair ∈ zT := zT_in (zt4 (List.mem_of_getElem? (i := 35) rfl)) rfl
theorem mx_X8_faultOfPair : Cond.selects RX8 yX8_faultOfPair yX8_faultOfPair ∈ zT := zT_in (zt4 (List.mem_of_getElem? (i := 36) rfl)) rfl
theorem mc_X8_faultOfPair : Cond.code yX8_faultOfPair cX8_faultOfPair 3 (some .int) ∈ zT := zT_in (zt4 (List.mem_of_getElem? (i := 37) rfl)) rfl
theorem ml_X10_289 : Cond.methodLink RX10 289 yX10_turnsIntoOther ∈ zT := zT_in (zt4 (List.mem_of_getElem? (i := 38) rfl)) rfl
theorem mi_X10_turnsIntoOther : Cond.instanceMethod yX10_turnsIntoOther ∈ zT := zT_in (zt4 (List.mem_of_getElem? (i := 40) rfl)) rfl
theorem mc_X10_turnsIntoOther : Cond.code yX10_turnsIntoOther cX10_turnsIntoOther 4 (some .boolean) ∈ zT := zT_in (zt4 (List.mem_of_getElem? (i := 41) rfl)) rfl
theorem ml_X10_292 : Cond.methodLink RX10 292 yX10_putIfFirst ∈ zT := zT_in (zt4 (List.mem_of_getElem? (i := 42) rfl)) rfl
theorem mi_X10_putIfFirst : Cond.instanceMethod yX10_putIfFirst ∈ zT := zT_in (zt4 (List.mem_of_getElem? (i := 44) rfl)) rfl
theorem mc_X10_putIfFirst : Cond.code yX10_putIfFirst cX10_putIfFirst 3 none ∈ zT := zT_in (zt4 (List.mem_of_getElem? (i := 45) rfl)) rfl
theorem ml_L_103 : Cond.methodLink RL 103 yX10_keeps ∈ zT := zT_in (zt4 (List.mem_of_getElem? (i := 46) rfl)) rfl
theorem mi_X10_keeps : Cond.instanceMethod yX10_keeps ∈ zT := zT_in (zt4 (List.mem_of_getElem? (i := 47) rfl)) rfl
theorem mx_X10_keeps : Cond.selects RX10 yX10_keeps yX10_keeps ∈ zT := zT_in (zt4 (List.mem_of_getElem? (i := 48) rfl)) rfl
theorem mc_X10_keeps : Cond.code yX10_keeps cX10_keeps 7 (some .int) ∈ zT := zT_in (zt4 (List.mem_of_getElem? (i := 49) rfl)) rfl
theorem ml_L_107 : Cond.methodLink RL 107 yX10_apart ∈ zT := zT_in (zt4 (List.mem_of_getElem? (i := 50) rfl)) rfl
theorem mi_X10_apart : Cond.instanceMethod yX10_apart ∈ zT := zT_in (zt4 (List.mem_of_getElem? (i := 51) rfl)) rfl
theorem mx_X10_apart : Cond.selects RX10 yX10_apart yX10_apart ∈ zT := zT_in (zt4 (List.mem_of_getElem? (i := 52) rfl)) rfl
theorem mc_X10_apart : Cond.code yX10_apart cX10_apart 11 (some .int) ∈ zT := zT_in (zt4 (List.mem_of_getElem? (i := 53) rfl)) rfl
theorem ml_L_111 : Cond.methodLink RL 111 yX10_longest ∈ zT := zT_in (zt4 (List.mem_of_getElem? (i := 54) rfl)) rfl
theorem mi_X10_longest : Cond.instanceMethod yX10_longest ∈ zT := zT_in (zt4 (List.mem_of_getElem? (i := 55) rfl)) rfl
theorem mx_X10_longest : Cond.selects RX10 yX10_longest yX10_longest ∈ zT := zT_in (zt4 (List.mem_of_getElem? (i := 56) rfl)) rfl
theorem mc_X10_longest : Cond.code yX10_longest cX10_longest 6 (some .int) ∈ zT := zT_in (zt4 (List.mem_of_getElem? (i := 57) rfl)) rfl
theorem ml_X10_147 : Cond.methodLink RX10 147 yX10_isCavern ∈ zT := zT_in (zt4 (List.mem_of_getElem? (i := 58) rfl)) rfl
theorem ms_X10_isCavern : Cond.static yX10_isCavern ∈ zT := zT_in (zt4 (List.mem_of_getElem? (i := 59) rfl)) rfl
theorem mc_X10_isCavern : Cond.code yX10_isCavern cX10_isCavern 1 (some .boolean) ∈ zT := zT_in (zt4 (List.mem_of_getElem? (i := 60) rfl)) rfl
theorem ml_L_115 : Cond.methodLink RL 115 yX10_rounds ∈ zT := zT_in (zt4 (List.mem_of_getElem? (i := 61) rfl)) rfl
theorem mi_X10_rounds : Cond.instanceMethod yX10_rounds ∈ zT := zT_in (zt4 (List.mem_of_getElem? (i := 62) rfl)) rfl
theorem mx_X10_rounds : Cond.selects RX10 yX10_rounds yX10_rounds ∈ zT := zT_in (zt4 (List.mem_of_getElem? (i := 63) rfl)) rfl
theorem mc_X10_rounds : Cond.code yX10_rounds cX10_rounds 6 (some .int) ∈ zT := zT_in (zt4 (List.mem_of_getElem? (i := 64) rfl)) rfl
theorem ml_L_119 : Cond.methodLink RL 119 yX10_way ∈ zT := zT_in (zt4 (List.mem_of_getElem? (i := 65) rfl)) rfl
theorem mi_X10_way : Cond.instanceMethod yX10_way ∈ zT := zT_in (zt4 (List.mem_of_getElem? (i := 66) rfl)) rfl
theorem mx_X10_way : Cond.selects RX10 yX10_way yX10_way ∈ zT := zT_in (zt4 (List.mem_of_getElem? (i := 67) rfl)) rfl
theorem mc_X10_way : Cond.code yX10_way cX10_way 7 (some .int) ∈ zT := zT_in (zt4 (List.mem_of_getElem? (i := 68) rfl)) rfl
theorem ml_X10_153 : Cond.methodLink RX10 153 yX9_measure ∈ zT := zT_in (zt4 (List.mem_of_getElem? (i := 69) rfl)) rfl
theorem mi_X9_measure : Cond.instanceMethod yX9_measure ∈ zT := zT_in (zt4 (List.mem_of_getElem? (i := 70) rfl)) rfl
theorem mx_X9_measure : Cond.selects RX9 yX9_measure yX9_measure ∈ zT := zT_in (zt4 (List.mem_of_getElem? (i := 71) rfl)) rfl
theorem mc_X9_measure : Cond.code yX9_measure cX9_measure 4 none ∈ zT := zT_in (zt4 (List.mem_of_getElem? (i := 72) rfl)) rfl
theorem ml_X9_28 : Cond.methodLink RX9 28 yX0_isOpen ∈ zT := zT_in (zt4 (List.mem_of_getElem? (i := 73) rfl)) rfl
theorem ml_X9_47 : Cond.methodLink RX9 47 yX9_shorten ∈ zT := zT_in (zt4 (List.mem_of_getElem? (i := 74) rfl)) rfl
theorem mi_X9_shorten : Cond.instanceMethod yX9_shorten ∈ zT := zT_in (zt4 (List.mem_of_getElem? (i := 76) rfl)) rfl
theorem mc_X9_shorten : Cond.code yX9_shorten cX9_shorten 4 none ∈ zT := zT_in (zt4 (List.mem_of_getElem? (i := 77) rfl)) rfl
theorem ml_X9_55 : Cond.methodLink RX9 55 yJ9_min_7cf53 ∈ zT := zT_in (zt4 (List.mem_of_getElem? (i := 78) rfl)) rfl
theorem ml_X9_51 : Cond.methodLink RX9 51 yX9_farOf ∈ zT := zT_in (zt4 (List.mem_of_getElem? (i := 79) rfl)) rfl
theorem mi_X9_farOf : Cond.instanceMethod yX9_farOf ∈ zT := zT_in (zt4 (List.mem_of_getElem? (i := 80) rfl)) rfl
theorem mx_X9_farOf : Cond.selects RX9 yX9_farOf yX9_farOf ∈ zT := zT_in (zt4 (List.mem_of_getElem? (i := 81) rfl)) rfl
theorem mc_X9_farOf : Cond.code yX9_farOf cX9_farOf 3 (some .int) ∈ zT := zT_in (zt4 (List.mem_of_getElem? (i := 82) rfl)) rfl
theorem ml_X10_297 : Cond.methodLink RX10 297 yX9_farOf ∈ zT := zT_in (zt4 (List.mem_of_getElem? (i := 83) rfl)) rfl
theorem ml_X10_300 : Cond.methodLink RX10 300 yX9_firstStep ∈ zT := zT_in (zt4 (List.mem_of_getElem? (i := 84) rfl)) rfl
theorem mi_X9_firstStep : Cond.instanceMethod yX9_firstStep ∈ zT := zT_in (zt4 (List.mem_of_getElem? (i := 85) rfl)) rfl
theorem mx_X9_firstStep : Cond.selects RX9 yX9_firstStep yX9_firstStep ∈ zT := zT_in (zt4 (List.mem_of_getElem? (i := 86) rfl)) rfl
theorem mc_X9_firstStep : Cond.code yX9_firstStep cX9_firstStep 5 (some .int) ∈ zT := zT_in (zt4 (List.mem_of_getElem? (i := 87) rfl)) rfl
theorem ml_X9_63 : Cond.methodLink RX9 63 yX0_isEnd ∈ zT := zT_in (zt4 (List.mem_of_getElem? (i := 88) rfl)) rfl
theorem ml_X9_67 : Cond.methodLink RX9 67 yX0_acrossFrom ∈ zT := zT_in (zt4 (List.mem_of_getElem? (i := 89) rfl)) rfl
theorem ml_X10_303 : Cond.methodLink RX10 303 yX0_acrossFrom ∈ zT := zT_in (zt4 (List.mem_of_getElem? (i := 90) rfl)) rfl
theorem ml_L_123 : Cond.methodLink RL 123 yX10_meets ∈ zT := zT_in (zt4 (List.mem_of_getElem? (i := 91) rfl)) rfl
theorem mi_X10_meets : Cond.instanceMethod yX10_meets ∈ zT := zT_in (zt4 (List.mem_of_getElem? (i := 92) rfl)) rfl
theorem mx_X10_meets : Cond.selects RX10 yX10_meets yX10_meets ∈ zT := zT_in (zt4 (List.mem_of_getElem? (i := 93) rfl)) rfl
theorem mc_X10_meets : Cond.code yX10_meets cX10_meets 5 (some .int) ∈ zT := zT_in (zt4 (List.mem_of_getElem? (i := 94) rfl)) rfl
theorem ml_X10_306 : Cond.methodLink RX10 306 yX9_laterOf ∈ zT := zT_in (zt4 (List.mem_of_getElem? (i := 95) rfl)) rfl
theorem mi_X9_laterOf : Cond.instanceMethod yX9_laterOf ∈ zT := zT_in (zt4 (List.mem_of_getElem? (i := 96) rfl)) rfl
theorem mx_X9_laterOf : Cond.selects RX9 yX9_laterOf yX9_laterOf ∈ zT := zT_in (zt4 (List.mem_of_getElem? (i := 97) rfl)) rfl
theorem mc_X9_laterOf : Cond.code yX9_laterOf cX9_laterOf 4 (some .int) ∈ zT := zT_in (zt4 (List.mem_of_getElem? (i := 98) rfl)) rfl
theorem ml_X9_60 : Cond.methodLink RX9 60 yJ9_max_7cf53 ∈ zT := zT_in (zt4 (List.mem_of_getElem? (i := 99) rfl)) rfl
theorem ml_L_127 : Cond.methodLink RL 127 yX10_heart ∈ zT := zT_in (zt4 (List.mem_of_getElem? (i := 100) rfl)) rfl
theorem mi_X10_heart : Cond.instanceMethod yX10_heart ∈ zT := zT_in (zt4 (List.mem_of_getElem? (i := 101) rfl)) rfl
theorem mx_X10_heart : Cond.selects RX10 yX10_heart yX10_heart ∈ zT := zT_in (zt4 (List.mem_of_getElem? (i := 102) rfl)) rfl
theorem mc_X10_heart : Cond.code yX10_heart cX10_heart 4 (some .int) ∈ zT := zT_in (zt4 (List.mem_of_getElem? (i := 103) rfl)) rfl
theorem ml_X10_309 : Cond.methodLink RX10 309 yX10_joinedCount ∈ zT := zT_in (zt4 (List.mem_of_getElem? (i := 104) rfl)) rfl
theorem mi_X10_joinedCount : Cond.instanceMethod yX10_joinedCount ∈ zT := zT_in (zt4 (List.mem_of_getElem? (i := 106) rfl)) rfl
theorem mc_X10_joinedCount : Cond.code yX10_joinedCount cX10_joinedCount 2 (some .int) ∈ zT := zT_in (zt4 (List.mem_of_getElem? (i := 107) rfl)) rfl
theorem ml_X10_156 : Cond.methodLink RX10 156 yX9_joinedTo ∈ zT := zT_in (zt4 (List.mem_of_getElem? (i := 108) rfl)) rfl
theorem mi_X9_joinedTo : Cond.instanceMethod yX9_joinedTo ∈ zT := zT_in (zt4 (List.mem_of_getElem? (i := 109) rfl)) rfl
theorem mx_X9_joinedTo : Cond.selects RX9 yX9_joinedTo yX9_joinedTo ∈ zT := zT_in (zt4 (List.mem_of_getElem? (i := 110) rfl)) rfl
theorem mc_X9_joinedTo : Cond.code yX9_joinedTo cX9_joinedTo 4 (some .int) ∈ zT := zT_in (zt4 (List.mem_of_getElem? (i := 111) rfl)) rfl
theorem ml_X10_159 : Cond.methodLink RX10 159 yX9_farthestOf ∈ zT := zT_in (zt4 (List.mem_of_getElem? (i := 112) rfl)) rfl
theorem mi_X9_farthestOf : Cond.instanceMethod yX9_farthestOf ∈ zT := zT_in (zt4 (List.mem_of_getElem? (i := 113) rfl)) rfl
theorem mx_X9_farthestOf : Cond.selects RX9 yX9_farthestOf yX9_farthestOf ∈ zT := zT_in (zt4 (List.mem_of_getElem? (i := 114) rfl)) rfl
theorem mc_X9_farthestOf : Cond.code yX9_farthestOf cX9_farthestOf 4 (some .int) ∈ zT := zT_in (zt4 (List.mem_of_getElem? (i := 115) rfl)) rfl
theorem ml_L_131 : Cond.methodLink RL 131 yX10_ropes ∈ zT := zT_in (zt4 (List.mem_of_getElem? (i := 116) rfl)) rfl
theorem mi_X10_ropes : Cond.instanceMethod yX10_ropes ∈ zT := zT_in (zt4 (List.mem_of_getElem? (i := 117) rfl)) rfl
theorem mx_X10_ropes : Cond.selects RX10 yX10_ropes yX10_ropes ∈ zT := zT_in (zt4 (List.mem_of_getElem? (i := 118) rfl)) rfl
theorem mc_X10_ropes : Cond.code yX10_ropes cX10_ropes 5 (some .int) ∈ zT := zT_in (zt4 (List.mem_of_getElem? (i := 119) rfl)) rfl
theorem ml_X10_144 : Cond.methodLink RX10 144 yX0_isOpen ∈ zT := zT_in (zt4 (List.mem_of_getElem? (i := 120) rfl)) rfl
theorem ml_X10_312 : Cond.methodLink RX10 312 yX9_joinsEnds ∈ zT := zT_in (zt4 (List.mem_of_getElem? (i := 121) rfl)) rfl
theorem mi_X9_joinsEnds : Cond.instanceMethod yX9_joinsEnds ∈ zT := zT_in (zt4 (List.mem_of_getElem? (i := 122) rfl)) rfl
theorem mx_X9_joinsEnds : Cond.selects RX9 yX9_joinsEnds yX9_joinsEnds ∈ zT := zT_in (zt4 (List.mem_of_getElem? (i := 123) rfl)) rfl
theorem mc_X9_joinsEnds : Cond.code yX9_joinsEnds cX9_joinsEnds 3 (some .boolean) ∈ zT := zT_in (zt4 (List.mem_of_getElem? (i := 124) rfl)) rfl
theorem ml_X9_74 : Cond.methodLink RX9 74 yX9_reached ∈ zT := zT_in (zt4 (List.mem_of_getElem? (i := 125) rfl)) rfl
theorem mi_X9_reached : Cond.instanceMethod yX9_reached ∈ zT := zT_in (zt4 (List.mem_of_getElem? (i := 127) rfl)) rfl
theorem mc_X9_reached : Cond.code yX9_reached cX9_reached 7 (some .int) ∈ zT := zT_in (zt4 (List.mem_of_getElem? (i := 128) rfl)) rfl
theorem ml_X9_70 : Cond.methodLink RX9 70 yX0_endsOf ∈ zT := zT_in (zt4 (List.mem_of_getElem? (i := 129) rfl)) rfl
theorem mi_X0_endsOf : Cond.instanceMethod yX0_endsOf ∈ zT := zT_in (zt4 (List.mem_of_getElem? (i := 130) rfl)) rfl
theorem mx_X0_endsOf : Cond.selects RX0 yX0_endsOf yX0_endsOf ∈ zT := zT_in (zt4 (List.mem_of_getElem? (i := 131) rfl)) rfl
theorem mc_X0_endsOf : Cond.code yX0_endsOf cX0_endsOf 2 (some .int) ∈ zT := zT_in (zt4 (List.mem_of_getElem? (i := 132) rfl)) rfl
theorem ml_L_135 : Cond.methodLink RL 135 yX10_needed ∈ zT := zT_in (zt4 (List.mem_of_getElem? (i := 133) rfl)) rfl
theorem mi_X10_needed : Cond.instanceMethod yX10_needed ∈ zT := zT_in (zt4 (List.mem_of_getElem? (i := 134) rfl)) rfl
theorem mx_X10_needed : Cond.selects RX10 yX10_needed yX10_needed ∈ zT := zT_in (zt4 (List.mem_of_getElem? (i := 135) rfl)) rfl
theorem mc_X10_needed : Cond.code yX10_needed cX10_needed 4 (some .int) ∈ zT := zT_in (zt4 (List.mem_of_getElem? (i := 136) rfl)) rfl
theorem ml_X10_315 : Cond.methodLink RX10 315 yX0_enteredCaverns ∈ zT := zT_in (zt4 (List.mem_of_getElem? (i := 137) rfl)) rfl
theorem mi_X0_enteredCaverns : Cond.instanceMethod yX0_enteredCaverns ∈ zT := zT_in (zt4 (List.mem_of_getElem? (i := 138) rfl)) rfl
theorem mx_X0_enteredCaverns : Cond.selects RX0 yX0_enteredCaverns yX0_enteredCaverns ∈ zT := zT_in (zt4 (List.mem_of_getElem? (i := 139) rfl)) rfl
theorem mc_X0_enteredCaverns : Cond.code yX0_enteredCaverns cX0_enteredCaverns 3 (some .int) ∈ zT := zT_in (zt4 (List.mem_of_getElem? (i := 140) rfl)) rfl
theorem ml_X0_49 : Cond.methodLink RX0 49 yX0_isOpen ∈ zT := zT_in (zt4 (List.mem_of_getElem? (i := 141) rfl)) rfl
theorem ml_X0_53 : Cond.methodLink RX0 53 yX0_endsOf ∈ zT := zT_in (zt4 (List.mem_of_getElem? (i := 142) rfl)) rfl
theorem ml_X10_318 : Cond.methodLink RX10 318 yX9_heapsOf ∈ zT := zT_in (zt4 (List.mem_of_getElem? (i := 143) rfl)) rfl
theorem mi_X9_heapsOf : Cond.instanceMethod yX9_heapsOf ∈ zT := zT_in (zt4 (List.mem_of_getElem? (i := 144) rfl)) rfl
theorem mx_X9_heapsOf : Cond.selects RX9 yX9_heapsOf yX9_heapsOf ∈ zT := zT_in (zt4 (List.mem_of_getElem? (i := 145) rfl)) rfl
theorem mc_X9_heapsOf : Cond.code yX9_heapsOf cX9_heapsOf 5 (some .int) ∈ zT := zT_in (zt4 (List.mem_of_getElem? (i := 146) rfl)) rfl
theorem ml_L_139 : Cond.methodLink RL 139 yX10_tour ∈ zT := zT_in (zt4 (List.mem_of_getElem? (i := 147) rfl)) rfl
theorem mi_X10_tour : Cond.instanceMethod yX10_tour ∈ zT := zT_in (zt4 (List.mem_of_getElem? (i := 148) rfl)) rfl
theorem mx_X10_tour : Cond.selects RX10 yX10_tour yX10_tour ∈ zT := zT_in (zt4 (List.mem_of_getElem? (i := 149) rfl)) rfl
theorem mc_X10_tour : Cond.code yX10_tour cX10_tour 7 (some .int) ∈ zT := zT_in (zt4 (List.mem_of_getElem? (i := 150) rfl)) rfl
theorem ml_X10_321 : Cond.methodLink RX10 321 yX9_planTours ∈ zT := zT_in (zt4 (List.mem_of_getElem? (i := 151) rfl)) rfl
theorem mi_X9_planTours : Cond.instanceMethod yX9_planTours ∈ zT := zT_in (zt4 (List.mem_of_getElem? (i := 152) rfl)) rfl
theorem mx_X9_planTours : Cond.selects RX9 yX9_planTours yX9_planTours ∈ zT := zT_in (zt4 (List.mem_of_getElem? (i := 153) rfl)) rfl
theorem mc_X9_planTours : Cond.code yX9_planTours cX9_planTours 6 none ∈ zT := zT_in (zt4 (List.mem_of_getElem? (i := 154) rfl)) rfl
theorem ml_X9_80 : Cond.methodLink RX9 80 yX9_nextOfTour ∈ zT := zT_in (zt4 (List.mem_of_getElem? (i := 155) rfl)) rfl
theorem mi_X9_nextOfTour : Cond.instanceMethod yX9_nextOfTour ∈ zT := zT_in (zt4 (List.mem_of_getElem? (i := 156) rfl)) rfl
theorem mx_X9_nextOfTour : Cond.selects RX9 yX9_nextOfTour yX9_nextOfTour ∈ zT := zT_in (zt4 (List.mem_of_getElem? (i := 157) rfl)) rfl
theorem mc_X9_nextOfTour : Cond.code yX9_nextOfTour cX9_nextOfTour 6 (some .int) ∈ zT := zT_in (zt4 (List.mem_of_getElem? (i := 158) rfl)) rfl
theorem ml_X9_83 : Cond.methodLink RX9 83 yX9_minutesBy ∈ zT := zT_in (zt4 (List.mem_of_getElem? (i := 159) rfl)) rfl
theorem mi_X9_minutesBy : Cond.instanceMethod yX9_minutesBy ∈ zT := zT_in (zt4 (List.mem_of_getElem? (i := 161) rfl)) rfl
theorem mc_X9_minutesBy : Cond.code yX9_minutesBy cX9_minutesBy 4 (some .int) ∈ zT := zT_in (zt4 (List.mem_of_getElem? (i := 162) rfl)) rfl
theorem ml_X9_87 : Cond.methodLink RX9 87 yX9_minutesLeft ∈ zT := zT_in (zt4 (List.mem_of_getElem? (i := 163) rfl)) rfl
theorem mi_X9_minutesLeft : Cond.instanceMethod yX9_minutesLeft ∈ zT := zT_in (zt4 (List.mem_of_getElem? (i := 164) rfl)) rfl
theorem mx_X9_minutesLeft : Cond.selects RX9 yX9_minutesLeft yX9_minutesLeft ∈ zT := zT_in (zt4 (List.mem_of_getElem? (i := 165) rfl)) rfl
theorem mc_X9_minutesLeft : Cond.code yX9_minutesLeft cX9_minutesLeft 3 (some .int) ∈ zT := zT_in (zt4 (List.mem_of_getElem? (i := 166) rfl)) rfl
theorem ml_X10_324 : Cond.methodLink RX10 324 yX9_minutesLeft ∈ zT := zT_in (zt4 (List.mem_of_getElem? (i := 167) rfl)) rfl
theorem ml_X10_327 : Cond.methodLink RX10 327 yX9_nextOfTour ∈ zT := zT_in (zt4 (List.mem_of_getElem? (i := 168) rfl)) rfl
theorem ml_L_143 : Cond.methodLink RL 143 yX10_halves ∈ zT := zT_in (zt4 (List.mem_of_getElem? (i := 169) rfl)) rfl
theorem mi_X10_halves : Cond.instanceMethod yX10_halves ∈ zT := zT_in (zt4 (List.mem_of_getElem? (i := 170) rfl)) rfl
theorem mx_X10_halves : Cond.selects RX10 yX10_halves yX10_halves ∈ zT := zT_in (zt4 (List.mem_of_getElem? (i := 171) rfl)) rfl
theorem mc_X10_halves : Cond.code yX10_halves cX10_halves 2 (some .int) ∈ zT := zT_in (zt4 (List.mem_of_getElem? (i := 172) rfl)) rfl
theorem ml_X10_330 : Cond.methodLink RX10 330 yX9_firstHalf ∈ zT := zT_in (zt4 (List.mem_of_getElem? (i := 173) rfl)) rfl
theorem mi_X9_firstHalf : Cond.instanceMethod yX9_firstHalf ∈ zT := zT_in (zt4 (List.mem_of_getElem? (i := 174) rfl)) rfl
theorem mx_X9_firstHalf : Cond.selects RX9 yX9_firstHalf yX9_firstHalf ∈ zT := zT_in (zt4 (List.mem_of_getElem? (i := 175) rfl)) rfl
theorem mc_X9_firstHalf : Cond.code yX9_firstHalf cX9_firstHalf 6 (some .int) ∈ zT := zT_in (zt4 (List.mem_of_getElem? (i := 176) rfl)) rfl
theorem ml_X9_90 : Cond.methodLink RX9 90 yX0_enteredCaverns ∈ zT := zT_in (zt4 (List.mem_of_getElem? (i := 177) rfl)) rfl
theorem ml_X9_94 : Cond.methodLink RX9 94 yX9_acrossOf ∈ zT := zT_in (zt4 (List.mem_of_getElem? (i := 178) rfl)) rfl
theorem mi_X9_acrossOf : Cond.instanceMethod yX9_acrossOf ∈ zT := zT_in (zt4 (List.mem_of_getElem? (i := 180) rfl)) rfl
theorem mc_X9_acrossOf : Cond.code yX9_acrossOf cX9_acrossOf 4 (some .int) ∈ zT := zT_in (zt4 (List.mem_of_getElem? (i := 181) rfl)) rfl
theorem ml_L_147 : Cond.methodLink RL 147 yX10_guides ∈ zT := zT_in (zt4 (List.mem_of_getElem? (i := 182) rfl)) rfl
theorem mi_X10_guides : Cond.instanceMethod yX10_guides ∈ zT := zT_in (zt4 (List.mem_of_getElem? (i := 183) rfl)) rfl
theorem mx_X10_guides : Cond.selects RX10 yX10_guides yX10_guides ∈ zT := zT_in (zt4 (List.mem_of_getElem? (i := 184) rfl)) rfl
theorem mc_X10_guides : Cond.code yX10_guides cX10_guides 3 (some .int) ∈ zT := zT_in (zt4 (List.mem_of_getElem? (i := 185) rfl)) rfl
theorem ml_X10_333 : Cond.methodLink RX10 333 yX9_guarded ∈ zT := zT_in (zt4 (List.mem_of_getElem? (i := 186) rfl)) rfl
theorem mi_X9_guarded : Cond.instanceMethod yX9_guarded ∈ zT := zT_in (zt4 (List.mem_of_getElem? (i := 187) rfl)) rfl
theorem mx_X9_guarded : Cond.selects RX9 yX9_guarded yX9_guarded ∈ zT := zT_in (zt4 (List.mem_of_getElem? (i := 188) rfl)) rfl
theorem mc_X9_guarded : Cond.code yX9_guarded cX9_guarded 3 (some .boolean) ∈ zT := zT_in (zt4 (List.mem_of_getElem? (i := 189) rfl)) rfl
theorem ml_L_151 : Cond.methodLink RL 151 yX10_most ∈ zT := zT_in (zt4 (List.mem_of_getElem? (i := 190) rfl)) rfl
theorem mi_X10_most : Cond.instanceMethod yX10_most ∈ zT := zT_in (zt4 (List.mem_of_getElem? (i := 191) rfl)) rfl
theorem mx_X10_most : Cond.selects RX10 yX10_most yX10_most ∈ zT := zT_in (zt4 (List.mem_of_getElem? (i := 192) rfl)) rfl
theorem mc_X10_most : Cond.code yX10_most cX10_most 2 (some .int) ∈ zT := zT_in (zt4 (List.mem_of_getElem? (i := 193) rfl)) rfl
theorem ms_X9_mostApart : Cond.static yX9_mostApart ∈ zT := zT_in (zt4 (List.mem_of_getElem? (i := 195) rfl)) rfl
theorem mc_X9_mostApart : Cond.code yX9_mostApart cX9_mostApart 7 (some .int) ∈ zT := zT_in (zt4 (List.mem_of_getElem? (i := 196) rfl)) rfl
theorem ml_X9_97 : Cond.methodLink RX9 97 yJ6_bitCount_0f7a4 ∈ zT := zT_in (zt4 (List.mem_of_getElem? (i := 197) rfl)) rfl
theorem ml_X9_102 : Cond.methodLink RX9 102 yX9_mostApart ∈ zT := zT_in (zt4 (List.mem_of_getElem? (i := 198) rfl)) rfl
theorem ml_L_155 : Cond.methodLink RL 155 yX10_told ∈ zT := zT_in (zt4 (List.mem_of_getElem? (i := 199) rfl)) rfl
theorem mi_X10_told : Cond.instanceMethod yX10_told ∈ zT := zT_in (zt4 (List.mem_of_getElem? (i := 200) rfl)) rfl
theorem mx_X10_told : Cond.selects RX10 yX10_told yX10_told ∈ zT := zT_in (zt4 (List.mem_of_getElem? (i := 201) rfl)) rfl
theorem mc_X10_told : Cond.code yX10_told cX10_told 3 (some .int) ∈ zT := zT_in (zt4 (List.mem_of_getElem? (i := 202) rfl)) rfl
theorem ml_X10_340 : Cond.methodLink RX10 340 yX1_add ∈ zT := zT_in (zt4 (List.mem_of_getElem? (i := 203) rfl)) rfl
theorem mi_X1_add : Cond.instanceMethod yX1_add ∈ zT := zT_in (zt4 (List.mem_of_getElem? (i := 204) rfl)) rfl
theorem mx_X1_add : Cond.selects RX1 yX1_add yX1_add ∈ zT := zT_in (zt4 (List.mem_of_getElem? (i := 205) rfl)) rfl
theorem mc_X1_add : Cond.code yX1_add cX1_add 5 (some .boolean) ∈ zT := zT_in (zt4 (List.mem_of_getElem? (i := 206) rfl)) rfl
theorem ml_L_159 : Cond.methodLink RL 159 yX10_forget ∈ zT := zT_in (zt4 (List.mem_of_getElem? (i := 207) rfl)) rfl
theorem mi_X10_forget : Cond.instanceMethod yX10_forget ∈ zT := zT_in (zt4 (List.mem_of_getElem? (i := 208) rfl)) rfl
theorem mx_X10_forget : Cond.selects RX10 yX10_forget yX10_forget ∈ zT := zT_in (zt4 (List.mem_of_getElem? (i := 209) rfl)) rfl
theorem mc_X10_forget : Cond.code yX10_forget cX10_forget 2 (some .int) ∈ zT := zT_in (zt4 (List.mem_of_getElem? (i := 210) rfl)) rfl
theorem ml_L_163 : Cond.methodLink RL 163 yX10_fits ∈ zT := zT_in (zt4 (List.mem_of_getElem? (i := 211) rfl)) rfl
theorem mi_X10_fits : Cond.instanceMethod yX10_fits ∈ zT := zT_in (zt4 (List.mem_of_getElem? (i := 212) rfl)) rfl
theorem mx_X10_fits : Cond.selects RX10 yX10_fits yX10_fits ∈ zT := zT_in (zt4 (List.mem_of_getElem? (i := 213) rfl)) rfl
theorem mc_X10_fits : Cond.code yX10_fits cX10_fits 2 (some .int) ∈ zT := zT_in (zt4 (List.mem_of_getElem? (i := 214) rfl)) rfl
theorem ml_X10_343 : Cond.methodLink RX10 343 yX1_fittingPassages ∈ zT := zT_in (zt4 (List.mem_of_getElem? (i := 215) rfl)) rfl
theorem mi_X1_fittingPassages : Cond.instanceMethod yX1_fittingPassages ∈ zT := zT_in (zt4 (List.mem_of_getElem? (i := 216) rfl)) rfl
theorem mx_X1_fittingPassages : Cond.selects RX1 yX1_fittingPassages yX1_fittingPassages ∈ zT := zT_in (zt4 (List.mem_of_getElem? (i := 217) rfl)) rfl
theorem mc_X1_fittingPassages : Cond.code yX1_fittingPassages cX1_fittingPassages 3 (some .int) ∈ zT := zT_in (zt4 (List.mem_of_getElem? (i := 218) rfl)) rfl
theorem ml_X1_29 : Cond.methodLink RX1 29 yX1_fitsAll ∈ zT := zT_in (zt4 (List.mem_of_getElem? (i := 219) rfl)) rfl
theorem mi_X1_fitsAll : Cond.instanceMethod yX1_fitsAll ∈ zT := zT_in (zt4 (List.mem_of_getElem? (i := 221) rfl)) rfl
theorem mc_X1_fitsAll : Cond.code yX1_fitsAll cX1_fitsAll 3 (some .boolean) ∈ zT := zT_in (zt4 (List.mem_of_getElem? (i := 222) rfl)) rfl
theorem ml_X1_33 : Cond.methodLink RX1 33 yX1_agrees ∈ zT := zT_in (zt4 (List.mem_of_getElem? (i := 223) rfl)) rfl
theorem mi_X1_agrees : Cond.instanceMethod yX1_agrees ∈ zT := zT_in (zt4 (List.mem_of_getElem? (i := 225) rfl)) rfl
theorem mc_X1_agrees : Cond.code yX1_agrees cX1_agrees 4 (some .boolean) ∈ zT := zT_in (zt4 (List.mem_of_getElem? (i := 226) rfl)) rfl
theorem ml_X1_46 : Cond.methodLink RX1 46 yX0_isEnd ∈ zT := zT_in (zt4 (List.mem_of_getElem? (i := 227) rfl)) rfl
theorem ml_X1_53 : Cond.methodLink RX1 53 yX0_isOpen ∈ zT := zT_in (zt4 (List.mem_of_getElem? (i := 228) rfl)) rfl
theorem ml_L_167 : Cond.methodLink RL 167 yX10_next ∈ zT := zT_in (zt4 (List.mem_of_getElem? (i := 229) rfl)) rfl
theorem mi_X10_next : Cond.instanceMethod yX10_next ∈ zT := zT_in (zt4 (List.mem_of_getElem? (i := 230) rfl)) rfl
theorem mx_X10_next : Cond.selects RX10 yX10_next yX10_next ∈ zT := zT_in (zt4 (List.mem_of_getElem? (i := 231) rfl)) rfl
theorem mc_X10_next : Cond.code yX10_next cX10_next 7 (some .int) ∈ zT := zT_in (zt4 (List.mem_of_getElem? (i := 232) rfl)) rfl
theorem ml_X10_346 : Cond.methodLink RX10 346 yX0_endingAt ∈ zT := zT_in (zt4 (List.mem_of_getElem? (i := 233) rfl)) rfl
theorem ml_L_171 : Cond.methodLink RL 171 yX10_heard ∈ zT := zT_in (zt4 (List.mem_of_getElem? (i := 234) rfl)) rfl
theorem mi_X10_heard : Cond.instanceMethod yX10_heard ∈ zT := zT_in (zt4 (List.mem_of_getElem? (i := 235) rfl)) rfl
theorem mx_X10_heard : Cond.selects RX10 yX10_heard yX10_heard ∈ zT := zT_in (zt4 (List.mem_of_getElem? (i := 236) rfl)) rfl
theorem mc_X10_heard : Cond.code yX10_heard cX10_heard 4 (some .int) ∈ zT := zT_in (zt4 (List.mem_of_getElem? (i := 237) rfl)) rfl
theorem ml_X10_349 : Cond.methodLink RX10 349 yX3_add ∈ zT := zT_in (zt4 (List.mem_of_getElem? (i := 238) rfl)) rfl
theorem mi_X3_add : Cond.instanceMethod yX3_add ∈ zT := zT_in (zt4 (List.mem_of_getElem? (i := 239) rfl)) rfl
theorem mx_X3_add : Cond.selects RX3 yX3_add yX3_add ∈ zT := zT_in (zt5 (List.mem_of_getElem? (i := 0) rfl)) rfl
theorem mc_X3_add : Cond.code yX3_add cX3_add 5 (some .boolean) ∈ zT := zT_in (zt5 (List.mem_of_getElem? (i := 1) rfl)) rfl
theorem ms_X10_isLetter : Cond.static yX10_isLetter ∈ zT := zT_in (zt5 (List.mem_of_getElem? (i := 3) rfl)) rfl
theorem mc_X10_isLetter : Cond.code yX10_isLetter cX10_isLetter 1 (some .boolean) ∈ zT := zT_in (zt5 (List.mem_of_getElem? (i := 4) rfl)) rfl
theorem ml_L_175 : Cond.methodLink RL 175 yX10_denied ∈ zT := zT_in (zt5 (List.mem_of_getElem? (i := 5) rfl)) rfl
theorem mi_X10_denied : Cond.instanceMethod yX10_denied ∈ zT := zT_in (zt5 (List.mem_of_getElem? (i := 6) rfl)) rfl
theorem mx_X10_denied : Cond.selects RX10 yX10_denied yX10_denied ∈ zT := zT_in (zt5 (List.mem_of_getElem? (i := 7) rfl)) rfl
theorem mc_X10_denied : Cond.code yX10_denied cX10_denied 2 (some .int) ∈ zT := zT_in (zt5 (List.mem_of_getElem? (i := 8) rfl)) rfl
theorem ml_L_179 : Cond.methodLink RL 179 yX10_laws ∈ zT := zT_in (zt5 (List.mem_of_getElem? (i := 9) rfl)) rfl
theorem mi_X10_laws : Cond.instanceMethod yX10_laws ∈ zT := zT_in (zt5 (List.mem_of_getElem? (i := 10) rfl)) rfl
theorem mx_X10_laws : Cond.selects RX10 yX10_laws yX10_laws ∈ zT := zT_in (zt5 (List.mem_of_getElem? (i := 11) rfl)) rfl
theorem mc_X10_laws : Cond.code yX10_laws cX10_laws 1 (some .int) ∈ zT := zT_in (zt5 (List.mem_of_getElem? (i := 12) rfl)) rfl
theorem ml_X10_353 : Cond.methodLink RX10 353 yX3_findFitting ∈ zT := zT_in (zt5 (List.mem_of_getElem? (i := 13) rfl)) rfl
theorem mi_X3_findFitting : Cond.instanceMethod yX3_findFitting ∈ zT := zT_in (zt5 (List.mem_of_getElem? (i := 14) rfl)) rfl
theorem mx_X3_findFitting : Cond.selects RX3 yX3_findFitting yX3_findFitting ∈ zT := zT_in (zt5 (List.mem_of_getElem? (i := 15) rfl)) rfl
theorem mc_X3_findFitting : Cond.code yX3_findFitting cX3_findFitting 2 none ∈ zT := zT_in (zt5 (List.mem_of_getElem? (i := 16) rfl)) rfl
theorem ml_X3_38 : Cond.methodLink RX3 38 yX3_fitsHeard ∈ zT := zT_in (zt5 (List.mem_of_getElem? (i := 17) rfl)) rfl
theorem mi_X3_fitsHeard : Cond.instanceMethod yX3_fitsHeard ∈ zT := zT_in (zt5 (List.mem_of_getElem? (i := 19) rfl)) rfl
theorem mc_X3_fitsHeard : Cond.code yX3_fitsHeard cX3_fitsHeard 3 (some .boolean) ∈ zT := zT_in (zt5 (List.mem_of_getElem? (i := 20) rfl)) rfl
theorem ml_X3_41 : Cond.methodLink RX3 41 yX3_becomesBy ∈ zT := zT_in (zt5 (List.mem_of_getElem? (i := 21) rfl)) rfl
theorem ms_X3_becomesBy : Cond.static yX3_becomesBy ∈ zT := zT_in (zt5 (List.mem_of_getElem? (i := 22) rfl)) rfl
theorem mc_X3_becomesBy : Cond.code yX3_becomesBy cX3_becomesBy 3 (some .int) ∈ zT := zT_in (zt5 (List.mem_of_getElem? (i := 23) rfl)) rfl
theorem ml_L_183 : Cond.methodLink RL 183 yX10_listens ∈ zT := zT_in (zt5 (List.mem_of_getElem? (i := 24) rfl)) rfl
theorem mi_X10_listens : Cond.instanceMethod yX10_listens ∈ zT := zT_in (zt5 (List.mem_of_getElem? (i := 25) rfl)) rfl
theorem mx_X10_listens : Cond.selects RX10 yX10_listens yX10_listens ∈ zT := zT_in (zt5 (List.mem_of_getElem? (i := 26) rfl)) rfl
theorem mc_X10_listens : Cond.code yX10_listens cX10_listens 6 (some .int) ∈ zT := zT_in (zt5 (List.mem_of_getElem? (i := 27) rfl)) rfl
theorem ml_X10_362 : Cond.methodLink RX10 362 yX3_mostLeft ∈ zT := zT_in (zt5 (List.mem_of_getElem? (i := 28) rfl)) rfl
theorem mi_X3_mostLeft : Cond.instanceMethod yX3_mostLeft ∈ zT := zT_in (zt5 (List.mem_of_getElem? (i := 29) rfl)) rfl
theorem mx_X3_mostLeft : Cond.selects RX3 yX3_mostLeft yX3_mostLeft ∈ zT := zT_in (zt5 (List.mem_of_getElem? (i := 30) rfl)) rfl
theorem mc_X3_mostLeft : Cond.code yX3_mostLeft cX3_mostLeft 6 (some .int) ∈ zT := zT_in (zt5 (List.mem_of_getElem? (i := 31) rfl)) rfl
theorem ml_X3_45 : Cond.methodLink RX3 45 yJ9_max_7cf53 ∈ zT := zT_in (zt5 (List.mem_of_getElem? (i := 32) rfl)) rfl
theorem ml_L_187 : Cond.methodLink RL 187 yX10_hints ∈ zT := zT_in (zt5 (List.mem_of_getElem? (i := 33) rfl)) rfl
theorem mi_X10_hints : Cond.instanceMethod yX10_hints ∈ zT := zT_in (zt5 (List.mem_of_getElem? (i := 34) rfl)) rfl
theorem mx_X10_hints : Cond.selects RX10 yX10_hints yX10_hints ∈ zT := zT_in (zt5 (List.mem_of_getElem? (i := 35) rfl)) rfl
theorem mc_X10_hints : Cond.code yX10_hints cX10_hints 12 (some .int) ∈ zT := zT_in (zt5 (List.mem_of_getElem? (i := 36) rfl)) rfl
theorem ml_X10_365 : Cond.methodLink RX10 365 yX10_isLetter ∈ zT := zT_in (zt5 (List.mem_of_getElem? (i := 37) rfl)) rfl
theorem ml_X10_368 : Cond.methodLink RX10 368 yX2_spread ∈ zT := zT_in (zt5 (List.mem_of_getElem? (i := 38) rfl)) rfl
theorem mi_X2_spread : Cond.instanceMethod yX2_spread ∈ zT := zT_in (zt5 (List.mem_of_getElem? (i := 39) rfl)) rfl
theorem mx_X2_spread : Cond.selects RX2 yX2_spread yX2_spread ∈ zT := zT_in (zt5 (List.mem_of_getElem? (i := 40) rfl)) rfl
theorem mc_X2_spread : Cond.code yX2_spread cX2_spread 8 (some .long) ∈ zT := zT_in (zt5 (List.mem_of_getElem? (i := 41) rfl)) rfl
theorem cl_X2_109 : Cond.constantLong RX2 109 (10) ∈ zT := zT_in (zt5 (List.mem_of_getElem? (i := 43) rfl)) rfl
theorem ml_X10_376 : Cond.methodLink RX10 376 yX10_commonDivisor ∈ zT := zT_in (zt5 (List.mem_of_getElem? (i := 44) rfl)) rfl
theorem ms_X10_commonDivisor : Cond.static yX10_commonDivisor ∈ zT := zT_in (zt5 (List.mem_of_getElem? (i := 45) rfl)) rfl
theorem mc_X10_commonDivisor : Cond.code yX10_commonDivisor cX10_commonDivisor 11 (some .long) ∈ zT := zT_in (zt5 (List.mem_of_getElem? (i := 46) rfl)) rfl
theorem ml_L_192 : Cond.methodLink RL 192 yX10_game ∈ zT := zT_in (zt5 (List.mem_of_getElem? (i := 47) rfl)) rfl
theorem mi_X10_game : Cond.instanceMethod yX10_game ∈ zT := zT_in (zt5 (List.mem_of_getElem? (i := 48) rfl)) rfl
theorem mx_X10_game : Cond.selects RX10 yX10_game yX10_game ∈ zT := zT_in (zt5 (List.mem_of_getElem? (i := 49) rfl)) rfl
theorem mc_X10_game : Cond.code yX10_game cX10_game 5 (some .int) ∈ zT := zT_in (zt5 (List.mem_of_getElem? (i := 50) rfl)) rfl
theorem ml_X10_380 : Cond.methodLink RX10 380 yX10_goodMoves ∈ zT := zT_in (zt5 (List.mem_of_getElem? (i := 51) rfl)) rfl
theorem mi_X10_goodMoves : Cond.instanceMethod yX10_goodMoves ∈ zT := zT_in (zt5 (List.mem_of_getElem? (i := 53) rfl)) rfl
theorem mc_X10_goodMoves : Cond.code yX10_goodMoves cX10_goodMoves 5 (some .int) ∈ zT := zT_in (zt5 (List.mem_of_getElem? (i := 54) rfl)) rfl
theorem ml_X10_383 : Cond.methodLink RX10 383 yX10_winsBehind ∈ zT := zT_in (zt5 (List.mem_of_getElem? (i := 55) rfl)) rfl
theorem ms_X10_winsBehind : Cond.static yX10_winsBehind ∈ zT := zT_in (zt5 (List.mem_of_getElem? (i := 56) rfl)) rfl
theorem mc_X10_winsBehind : Cond.code yX10_winsBehind cX10_winsBehind 7 (some .int) ∈ zT := zT_in (zt5 (List.mem_of_getElem? (i := 57) rfl)) rfl
theorem ml_L_196 : Cond.methodLink RL 196 yX10_law ∈ zT := zT_in (zt5 (List.mem_of_getElem? (i := 58) rfl)) rfl
theorem mi_X10_law : Cond.instanceMethod yX10_law ∈ zT := zT_in (zt5 (List.mem_of_getElem? (i := 59) rfl)) rfl
theorem mx_X10_law : Cond.selects RX10 yX10_law yX10_law ∈ zT := zT_in (zt5 (List.mem_of_getElem? (i := 60) rfl)) rfl
theorem mc_X10_law : Cond.code yX10_law cX10_law 4 (some .int) ∈ zT := zT_in (zt5 (List.mem_of_getElem? (i := 61) rfl)) rfl
theorem ml_X10_386 : Cond.methodLink RX10 386 yX10_keptBy ∈ zT := zT_in (zt5 (List.mem_of_getElem? (i := 62) rfl)) rfl
theorem mi_X10_keptBy : Cond.instanceMethod yX10_keptBy ∈ zT := zT_in (zt5 (List.mem_of_getElem? (i := 64) rfl)) rfl
theorem mc_X10_keptBy : Cond.code yX10_keptBy cX10_keptBy 5 (some .int) ∈ zT := zT_in (zt5 (List.mem_of_getElem? (i := 65) rfl)) rfl
theorem ml_X10_399 : Cond.methodLink RX10 399 yX2_learnSteps ∈ zT := zT_in (zt5 (List.mem_of_getElem? (i := 66) rfl)) rfl
theorem mi_X2_learnSteps : Cond.instanceMethod yX2_learnSteps ∈ zT := zT_in (zt5 (List.mem_of_getElem? (i := 67) rfl)) rfl
theorem mx_X2_learnSteps : Cond.selects RX2 yX2_learnSteps yX2_learnSteps ∈ zT := zT_in (zt5 (List.mem_of_getElem? (i := 68) rfl)) rfl
theorem mc_X2_learnSteps : Cond.code yX2_learnSteps cX2_learnSteps 4 none ∈ zT := zT_in (zt5 (List.mem_of_getElem? (i := 69) rfl)) rfl
theorem ml_X2_99 : Cond.methodLink RX2 99 yX2_stepAt ∈ zT := zT_in (zt5 (List.mem_of_getElem? (i := 70) rfl)) rfl
theorem ms_X2_stepAt : Cond.static yX2_stepAt ∈ zT := zT_in (zt5 (List.mem_of_getElem? (i := 71) rfl)) rfl
theorem mc_X2_stepAt : Cond.code yX2_stepAt cX2_stepAt 3 (some .int) ∈ zT := zT_in (zt5 (List.mem_of_getElem? (i := 72) rfl)) rfl
theorem ml_X10_403 : Cond.methodLink RX10 403 yX2_keptByLearntSteps ∈ zT := zT_in (zt5 (List.mem_of_getElem? (i := 73) rfl)) rfl
theorem mi_X2_keptByLearntSteps : Cond.instanceMethod yX2_keptByLearntSteps ∈ zT := zT_in (zt5 (List.mem_of_getElem? (i := 74) rfl)) rfl
theorem mx_X2_keptByLearntSteps : Cond.selects RX2 yX2_keptByLearntSteps yX2_keptByLearntSteps ∈ zT := zT_in (zt5 (List.mem_of_getElem? (i := 75) rfl)) rfl
theorem mc_X2_keptByLearntSteps : Cond.code yX2_keptByLearntSteps cX2_keptByLearntSteps 5 (some .int) ∈ zT := zT_in (zt5 (List.mem_of_getElem? (i := 76) rfl)) rfl
theorem ml_L_200 : Cond.methodLink RL 200 yX10_rests ∈ zT := zT_in (zt5 (List.mem_of_getElem? (i := 77) rfl)) rfl
theorem mi_X10_rests : Cond.instanceMethod yX10_rests ∈ zT := zT_in (zt5 (List.mem_of_getElem? (i := 78) rfl)) rfl
theorem mx_X10_rests : Cond.selects RX10 yX10_rests yX10_rests ∈ zT := zT_in (zt5 (List.mem_of_getElem? (i := 79) rfl)) rfl
theorem mc_X10_rests : Cond.code yX10_rests cX10_rests 5 (some .int) ∈ zT := zT_in (zt5 (List.mem_of_getElem? (i := 80) rfl)) rfl
theorem ml_X10_390 : Cond.methodLink RX10 390 yX10_isBestAnswer ∈ zT := zT_in (zt5 (List.mem_of_getElem? (i := 81) rfl)) rfl
theorem ms_X10_isBestAnswer : Cond.static yX10_isBestAnswer ∈ zT := zT_in (zt5 (List.mem_of_getElem? (i := 82) rfl)) rfl
theorem mc_X10_isBestAnswer : Cond.code yX10_isBestAnswer cX10_isBestAnswer 5 (some .boolean) ∈ zT := zT_in (zt5 (List.mem_of_getElem? (i := 83) rfl)) rfl
theorem ml_X10_406 : Cond.methodLink RX10 406 yX10_gainOf ∈ zT := zT_in (zt5 (List.mem_of_getElem? (i := 84) rfl)) rfl
theorem ms_X10_gainOf : Cond.static yX10_gainOf ∈ zT := zT_in (zt5 (List.mem_of_getElem? (i := 85) rfl)) rfl
theorem mc_X10_gainOf : Cond.code yX10_gainOf cX10_gainOf 4 (some .int) ∈ zT := zT_in (zt5 (List.mem_of_getElem? (i := 86) rfl)) rfl
theorem ml_L_204 : Cond.methodLink RL 204 yX10_years ∈ zT := zT_in (zt5 (List.mem_of_getElem? (i := 87) rfl)) rfl
theorem mi_X10_years : Cond.instanceMethod yX10_years ∈ zT := zT_in (zt5 (List.mem_of_getElem? (i := 88) rfl)) rfl
theorem mx_X10_years : Cond.selects RX10 yX10_years yX10_years ∈ zT := zT_in (zt5 (List.mem_of_getElem? (i := 89) rfl)) rfl
theorem mc_X10_years : Cond.code yX10_years cX10_years 5 (some .int) ∈ zT := zT_in (zt5 (List.mem_of_getElem? (i := 90) rfl)) rfl
theorem ml_X10_393 : Cond.methodLink RX10 393 yX10_liveYear ∈ zT := zT_in (zt5 (List.mem_of_getElem? (i := 91) rfl)) rfl
theorem mi_X10_liveYear : Cond.instanceMethod yX10_liveYear ∈ zT := zT_in (zt5 (List.mem_of_getElem? (i := 93) rfl)) rfl
theorem mc_X10_liveYear : Cond.code yX10_liveYear cX10_liveYear 3 (some .int) ∈ zT := zT_in (zt5 (List.mem_of_getElem? (i := 94) rfl)) rfl
theorem ml_X10_409 : Cond.methodLink RX10 409 yX10_draw ∈ zT := zT_in (zt5 (List.mem_of_getElem? (i := 95) rfl)) rfl
theorem mi_X10_draw : Cond.instanceMethod yX10_draw ∈ zT := zT_in (zt5 (List.mem_of_getElem? (i := 97) rfl)) rfl
theorem mc_X10_draw : Cond.code yX10_draw cX10_draw 2 (some .int) ∈ zT := zT_in (zt5 (List.mem_of_getElem? (i := 98) rfl)) rfl
theorem cn_X10_412 : Cond.constant RX10 412 (1103515245) ∈ zT := zT_in (zt5 (List.mem_of_getElem? (i := 99) rfl)) rfl
theorem ml_X10_396 : Cond.methodLink RX10 396 yX4_marked ∈ zT := zT_in (zt5 (List.mem_of_getElem? (i := 100) rfl)) rfl
theorem ml_L_208 : Cond.methodLink RL 208 yX10_keep ∈ zT := zT_in (zt5 (List.mem_of_getElem? (i := 101) rfl)) rfl
theorem mi_X10_keep : Cond.instanceMethod yX10_keep ∈ zT := zT_in (zt5 (List.mem_of_getElem? (i := 102) rfl)) rfl
theorem mx_X10_keep : Cond.selects RX10 yX10_keep yX10_keep ∈ zT := zT_in (zt5 (List.mem_of_getElem? (i := 103) rfl)) rfl
theorem mc_X10_keep : Cond.code yX10_keep cX10_keep 2 (some .boolean) ∈ zT := zT_in (zt5 (List.mem_of_getElem? (i := 104) rfl)) rfl
theorem ml_X10_413 : Cond.methodLink RX10 413 yX4_store ∈ zT := zT_in (zt5 (List.mem_of_getElem? (i := 105) rfl)) rfl
theorem mi_X4_store : Cond.instanceMethod yX4_store ∈ zT := zT_in (zt5 (List.mem_of_getElem? (i := 106) rfl)) rfl
theorem mx_X4_store : Cond.selects RX4 yX4_store yX4_store ∈ zT := zT_in (zt5 (List.mem_of_getElem? (i := 107) rfl)) rfl
theorem mc_X4_store : Cond.code yX4_store cX4_store 3 (some .boolean) ∈ zT := zT_in (zt5 (List.mem_of_getElem? (i := 108) rfl)) rfl
theorem ml_L_212 : Cond.methodLink RL 212 yX10_again ∈ zT := zT_in (zt5 (List.mem_of_getElem? (i := 109) rfl)) rfl
theorem mi_X10_again : Cond.instanceMethod yX10_again ∈ zT := zT_in (zt5 (List.mem_of_getElem? (i := 110) rfl)) rfl
theorem mx_X10_again : Cond.selects RX10 yX10_again yX10_again ∈ zT := zT_in (zt5 (List.mem_of_getElem? (i := 111) rfl)) rfl
theorem mc_X10_again : Cond.code yX10_again cX10_again 2 (some .boolean) ∈ zT := zT_in (zt5 (List.mem_of_getElem? (i := 112) rfl)) rfl
theorem ml_X10_417 : Cond.methodLink RX10 417 yX4_hasStored ∈ zT := zT_in (zt5 (List.mem_of_getElem? (i := 113) rfl)) rfl
theorem mi_X4_hasStored : Cond.instanceMethod yX4_hasStored ∈ zT := zT_in (zt5 (List.mem_of_getElem? (i := 114) rfl)) rfl
theorem mx_X4_hasStored : Cond.selects RX4 yX4_hasStored yX4_hasStored ∈ zT := zT_in (zt5 (List.mem_of_getElem? (i := 115) rfl)) rfl
theorem mc_X4_hasStored : Cond.code yX4_hasStored cX4_hasStored 2 (some .boolean) ∈ zT := zT_in (zt5 (List.mem_of_getElem? (i := 116) rfl)) rfl
theorem ml_L_216 : Cond.methodLink RL 216 yX10_count ∈ zT := zT_in (zt5 (List.mem_of_getElem? (i := 117) rfl)) rfl
theorem mi_X10_count : Cond.instanceMethod yX10_count ∈ zT := zT_in (zt5 (List.mem_of_getElem? (i := 118) rfl)) rfl
theorem mx_X10_count : Cond.selects RX10 yX10_count yX10_count ∈ zT := zT_in (zt5 (List.mem_of_getElem? (i := 119) rfl)) rfl
theorem mc_X10_count : Cond.code yX10_count cX10_count 2 (some .int) ∈ zT := zT_in (zt5 (List.mem_of_getElem? (i := 120) rfl)) rfl
theorem ml_X10_427 : Cond.methodLink RX10 427 yX0_delayOfAll ∈ zT := zT_in (zt5 (List.mem_of_getElem? (i := 121) rfl)) rfl
theorem mi_X0_delayOfAll : Cond.instanceMethod yX0_delayOfAll ∈ zT := zT_in (zt5 (List.mem_of_getElem? (i := 122) rfl)) rfl
theorem mx_X0_delayOfAll : Cond.selects RX0 yX0_delayOfAll yX0_delayOfAll ∈ zT := zT_in (zt5 (List.mem_of_getElem? (i := 123) rfl)) rfl
theorem mc_X0_delayOfAll : Cond.code yX0_delayOfAll cX0_delayOfAll 3 (some .int) ∈ zT := zT_in (zt5 (List.mem_of_getElem? (i := 124) rfl)) rfl
theorem ml_L_45 : Cond.methodLink RL 45 yL_passage ∈ zT := zT_in (zt5 (List.mem_of_getElem? (i := 125) rfl)) rfl
theorem ms_L_passage : Cond.static yL_passage ∈ zT := zT_in (zt5 (List.mem_of_getElem? (i := 126) rfl)) rfl
theorem ml_L_7 : Cond.methodLink RL 7 yX10_passage ∈ zT := zT_in (zt5 (List.mem_of_getElem? (i := 129) rfl)) rfl
theorem mi_X10_passage : Cond.instanceMethod yX10_passage ∈ zT := zT_in (zt5 (List.mem_of_getElem? (i := 130) rfl)) rfl
theorem mx_X10_passage : Cond.selects RX10 yX10_passage yX10_passage ∈ zT := zT_in (zt5 (List.mem_of_getElem? (i := 131) rfl)) rfl
theorem mc_X10_passage : Cond.code yX10_passage cX10_passage 3 (some .int) ∈ zT := zT_in (zt5 (List.mem_of_getElem? (i := 132) rfl)) rfl
theorem ml_L_54 : Cond.methodLink RL 54 yL_cavern ∈ zT := zT_in (zt5 (List.mem_of_getElem? (i := 194) rfl)) rfl
theorem ms_L_cavern : Cond.static yL_cavern ∈ zT := zT_in (zt5 (List.mem_of_getElem? (i := 195) rfl)) rfl
theorem ml_L_15 : Cond.methodLink RL 15 yX10_cavern ∈ zT := zT_in (zt5 (List.mem_of_getElem? (i := 197) rfl)) rfl
theorem mi_X10_cavern : Cond.instanceMethod yX10_cavern ∈ zT := zT_in (zt5 (List.mem_of_getElem? (i := 198) rfl)) rfl
theorem mx_X10_cavern : Cond.selects RX10 yX10_cavern yX10_cavern ∈ zT := zT_in (zt5 (List.mem_of_getElem? (i := 199) rfl)) rfl
theorem mc_X10_cavern : Cond.code yX10_cavern cX10_cavern 3 (some .int) ∈ zT := zT_in (zt5 (List.mem_of_getElem? (i := 200) rfl)) rfl
theorem ml_X10_150 : Cond.methodLink RX10 150 yX0_openOf ∈ zT := zT_in (zt5 (List.mem_of_getElem? (i := 201) rfl)) rfl
theorem ml_L_220 : Cond.methodLink RL 220 yL_row ∈ zT := zT_in (zt5 (List.mem_of_getElem? (i := 202) rfl)) rfl
theorem ms_L_row : Cond.static yL_row ∈ zT := zT_in (zt5 (List.mem_of_getElem? (i := 203) rfl)) rfl
theorem ml_L_18 : Cond.methodLink RL 18 yX10_row ∈ zT := zT_in (zt5 (List.mem_of_getElem? (i := 205) rfl)) rfl
theorem mi_X10_row : Cond.instanceMethod yX10_row ∈ zT := zT_in (zt5 (List.mem_of_getElem? (i := 206) rfl)) rfl
theorem mx_X10_row : Cond.selects RX10 yX10_row yX10_row ∈ zT := zT_in (zt5 (List.mem_of_getElem? (i := 207) rfl)) rfl
theorem mc_X10_row : Cond.code yX10_row cX10_row 2 (some .long) ∈ zT := zT_in (zt5 (List.mem_of_getElem? (i := 208) rfl)) rfl
theorem ml_L_51 : Cond.methodLink RL 51 yX11_thrown ∈ zT := zT_in (zt5 (List.mem_of_getElem? (i := 209) rfl)) rfl
theorem mi_X11_thrown : Cond.instanceMethod yX11_thrown ∈ zT := zT_in (zt5 (List.mem_of_getElem? (i := 210) rfl)) rfl
theorem mx_X11_thrown : Cond.selects RX11 yX11_thrown yX11_thrown ∈ zT := zT_in (zt5 (List.mem_of_getElem? (i := 211) rfl)) rfl
theorem mc_X11_thrown : Cond.code yX11_thrown cX11_thrown 1 (some .int) ∈ zT := zT_in (zt5 (List.mem_of_getElem? (i := 212) rfl)) rfl
theorem ml_L_25 : Cond.methodLink RL 25 yX11_init ∈ zT := zT_in (zt5 (List.mem_of_getElem? (i := 215) rfl)) rfl
theorem mi_X11_init : Cond.instanceMethod yX11_init ∈ zT := zT_in (zt5 (List.mem_of_getElem? (i := 216) rfl)) rfl
theorem mc_X11_init : Cond.code yX11_init cX11_init 1 none ∈ zT := zT_in (zt5 (List.mem_of_getElem? (i := 217) rfl)) rfl
theorem ml_L_30 : Cond.methodLink RL 30 yX11_sign ∈ zT := zT_in (zt6 (List.mem_of_getElem? (i := 142) rfl)) rfl
theorem mi_X11_sign : Cond.instanceMethod yX11_sign ∈ zT := zT_in (zt6 (List.mem_of_getElem? (i := 143) rfl)) rfl
theorem mx_X11_sign : Cond.selects RX11 yX11_sign yX11_sign ∈ zT := zT_in (zt6 (List.mem_of_getElem? (i := 144) rfl)) rfl
theorem mc_X11_sign : Cond.code yX11_sign cX11_sign 3 (some .int) ∈ zT := zT_in (zt6 (List.mem_of_getElem? (i := 145) rfl)) rfl
theorem ml_L_35 : Cond.methodLink RL 35 yX11_end ∈ zT := zT_in (zt6 (List.mem_of_getElem? (i := 146) rfl)) rfl
theorem mi_X11_end : Cond.instanceMethod yX11_end ∈ zT := zT_in (zt6 (List.mem_of_getElem? (i := 147) rfl)) rfl
theorem mx_X11_end : Cond.selects RX11 yX11_end yX11_end ∈ zT := zT_in (zt6 (List.mem_of_getElem? (i := 148) rfl)) rfl
theorem mc_X11_end : Cond.code yX11_end cX11_end 2 (some .boolean) ∈ zT := zT_in (zt6 (List.mem_of_getElem? (i := 149) rfl)) rfl
theorem ml_X11_131 : Cond.methodLink RX11 131 yX11_in ∈ zT := zT_in (zt6 (List.mem_of_getElem? (i := 150) rfl)) rfl
theorem ms_X11_in : Cond.static yX11_in ∈ zT := zT_in (zt6 (List.mem_of_getElem? (i := 151) rfl)) rfl
theorem mc_X11_in : Cond.code yX11_in cX11_in 6 (some .boolean) ∈ zT := zT_in (zt6 (List.mem_of_getElem? (i := 152) rfl)) rfl
theorem ml_L_40 : Cond.methodLink RL 40 yX11_passages ∈ zT := zT_in (zt6 (List.mem_of_getElem? (i := 153) rfl)) rfl
theorem mi_X11_passages : Cond.instanceMethod yX11_passages ∈ zT := zT_in (zt6 (List.mem_of_getElem? (i := 154) rfl)) rfl
theorem mx_X11_passages : Cond.selects RX11 yX11_passages yX11_passages ∈ zT := zT_in (zt6 (List.mem_of_getElem? (i := 155) rfl)) rfl
theorem mc_X11_passages : Cond.code yX11_passages cX11_passages 6 (some .int) ∈ zT := zT_in (zt6 (List.mem_of_getElem? (i := 156) rfl)) rfl
theorem ml_X11_192 : Cond.methodLink RX11 192 yX11_begins ∈ zT := zT_in (zt6 (List.mem_of_getElem? (i := 157) rfl)) rfl
theorem mi_X11_begins : Cond.instanceMethod yX11_begins ∈ zT := zT_in (zt6 (List.mem_of_getElem? (i := 159) rfl)) rfl
theorem mc_X11_begins : Cond.code yX11_begins cX11_begins 3 (some .int) ∈ zT := zT_in (zt6 (List.mem_of_getElem? (i := 160) rfl)) rfl
theorem ml_X11_146 : Cond.methodLink RX11 146 yJ9_min_7cf53 ∈ zT := zT_in (zt6 (List.mem_of_getElem? (i := 161) rfl)) rfl
theorem ml_X11_195 : Cond.methodLink RX11 195 yX11_readsPassage ∈ zT := zT_in (zt6 (List.mem_of_getElem? (i := 162) rfl)) rfl
theorem mi_X11_readsPassage : Cond.instanceMethod yX11_readsPassage ∈ zT := zT_in (zt6 (List.mem_of_getElem? (i := 164) rfl)) rfl
theorem mc_X11_readsPassage : Cond.code yX11_readsPassage cX11_readsPassage 2 (some .boolean) ∈ zT := zT_in (zt6 (List.mem_of_getElem? (i := 165) rfl)) rfl
theorem ml_X11_184 : Cond.methodLink RX11 184 yX11_digitIn ∈ zT := zT_in (zt6 (List.mem_of_getElem? (i := 166) rfl)) rfl
theorem mi_X11_digitIn : Cond.instanceMethod yX11_digitIn ∈ zT := zT_in (zt6 (List.mem_of_getElem? (i := 168) rfl)) rfl
theorem mc_X11_digitIn : Cond.code yX11_digitIn cX11_digitIn 4 (some .int) ∈ zT := zT_in (zt6 (List.mem_of_getElem? (i := 169) rfl)) rfl
theorem ml_X11_188 : Cond.methodLink RX11 188 yX11_number ∈ zT := zT_in (zt6 (List.mem_of_getElem? (i := 170) rfl)) rfl
theorem mi_X11_number : Cond.instanceMethod yX11_number ∈ zT := zT_in (zt6 (List.mem_of_getElem? (i := 172) rfl)) rfl
theorem mc_X11_number : Cond.code yX11_number cX11_number 4 (some .int) ∈ zT := zT_in (zt6 (List.mem_of_getElem? (i := 173) rfl)) rfl
theorem ml_X11_177 : Cond.methodLink RX11 177 yX11_isDigit ∈ zT := zT_in (zt6 (List.mem_of_getElem? (i := 174) rfl)) rfl
theorem mi_X11_isDigit : Cond.instanceMethod yX11_isDigit ∈ zT := zT_in (zt6 (List.mem_of_getElem? (i := 176) rfl)) rfl
theorem mc_X11_isDigit : Cond.code yX11_isDigit cX11_isDigit 1 (some .boolean) ∈ zT := zT_in (zt6 (List.mem_of_getElem? (i := 177) rfl)) rfl
theorem cl_X11_159 : Cond.constantLong RX11 159 (48) ∈ zT := zT_in (zt6 (List.mem_of_getElem? (i := 178) rfl)) rfl
theorem cl_X11_161 : Cond.constantLong RX11 161 (57) ∈ zT := zT_in (zt6 (List.mem_of_getElem? (i := 179) rfl)) rfl
theorem ml_X11_198 : Cond.methodLink RX11 198 yX11_takes ∈ zT := zT_in (zt6 (List.mem_of_getElem? (i := 180) rfl)) rfl
theorem mi_X11_takes : Cond.instanceMethod yX11_takes ∈ zT := zT_in (zt6 (List.mem_of_getElem? (i := 182) rfl)) rfl
theorem mc_X11_takes : Cond.code yX11_takes cX11_takes 3 (some .boolean) ∈ zT := zT_in (zt6 (List.mem_of_getElem? (i := 183) rfl)) rfl
theorem ml_X11_155 : Cond.methodLink RX11 155 yX11_flag ∈ zT := zT_in (zt6 (List.mem_of_getElem? (i := 184) rfl)) rfl
theorem ms_X11_flag : Cond.static yX11_flag ∈ zT := zT_in (zt6 (List.mem_of_getElem? (i := 185) rfl)) rfl
theorem mc_X11_flag : Cond.code yX11_flag cX11_flag 1 (some .int) ∈ zT := zT_in (zt6 (List.mem_of_getElem? (i := 186) rfl)) rfl
theorem ml_X11_202 : Cond.methodLink RX11 202 yX11_faultOf ∈ zT := zT_in (zt6 (List.mem_of_getElem? (i := 187) rfl)) rfl
theorem mi_X11_faultOf : Cond.instanceMethod yX11_faultOf ∈ zT := zT_in (zt6 (List.mem_of_getElem? (i := 189) rfl)) rfl
theorem mc_X11_faultOf : Cond.code yX11_faultOf cX11_faultOf 5 (some .int) ∈ zT := zT_in (zt6 (List.mem_of_getElem? (i := 190) rfl)) rfl
theorem ml_L_44 : Cond.methodLink RL 44 yX11_rule ∈ zT := zT_in (zt6 (List.mem_of_getElem? (i := 191) rfl)) rfl
theorem mi_X11_rule : Cond.instanceMethod yX11_rule ∈ zT := zT_in (zt6 (List.mem_of_getElem? (i := 192) rfl)) rfl
theorem mx_X11_rule : Cond.selects RX11 yX11_rule yX11_rule ∈ zT := zT_in (zt6 (List.mem_of_getElem? (i := 193) rfl)) rfl
theorem mc_X11_rule : Cond.code yX11_rule cX11_rule 2 (some .int) ∈ zT := zT_in (zt6 (List.mem_of_getElem? (i := 194) rfl)) rfl
theorem ml_X11_240 : Cond.methodLink RX11 240 yX11_readsRule ∈ zT := zT_in (zt6 (List.mem_of_getElem? (i := 195) rfl)) rfl
theorem mi_X11_readsRule : Cond.instanceMethod yX11_readsRule ∈ zT := zT_in (zt6 (List.mem_of_getElem? (i := 197) rfl)) rfl
theorem mc_X11_readsRule : Cond.code yX11_readsRule cX11_readsRule 3 (some .int) ∈ zT := zT_in (zt6 (List.mem_of_getElem? (i := 198) rfl)) rfl
theorem ml_X11_228 : Cond.methodLink RX11 228 yX11_readsRank ∈ zT := zT_in (zt6 (List.mem_of_getElem? (i := 199) rfl)) rfl
theorem mi_X11_readsRank : Cond.instanceMethod yX11_readsRank ∈ zT := zT_in (zt6 (List.mem_of_getElem? (i := 201) rfl)) rfl
theorem mc_X11_readsRank : Cond.code yX11_readsRank cX11_readsRank 4 (some .boolean) ∈ zT := zT_in (zt6 (List.mem_of_getElem? (i := 202) rfl)) rfl
theorem ml_X11_215 : Cond.methodLink RX11 215 yX11_readsThing ∈ zT := zT_in (zt6 (List.mem_of_getElem? (i := 203) rfl)) rfl
theorem mi_X11_readsThing : Cond.instanceMethod yX11_readsThing ∈ zT := zT_in (zt6 (List.mem_of_getElem? (i := 205) rfl)) rfl
theorem mc_X11_readsThing : Cond.code yX11_readsThing cX11_readsThing 2 (some .boolean) ∈ zT := zT_in (zt6 (List.mem_of_getElem? (i := 206) rfl)) rfl
theorem ml_X11_218 : Cond.methodLink RX11 218 yX11_codes ∈ zT := zT_in (zt6 (List.mem_of_getElem? (i := 207) rfl)) rfl
theorem mi_X11_codes : Cond.instanceMethod yX11_codes ∈ zT := zT_in (zt6 (List.mem_of_getElem? (i := 209) rfl)) rfl
theorem mc_X11_codes : Cond.code yX11_codes cX11_codes 2 none ∈ zT := zT_in (zt6 (List.mem_of_getElem? (i := 210) rfl)) rfl
theorem ml_X11_224 : Cond.methodLink RX11 224 yX11_takesOf ∈ zT := zT_in (zt6 (List.mem_of_getElem? (i := 212) rfl)) rfl
theorem mi_X11_takesOf : Cond.instanceMethod yX11_takesOf ∈ zT := zT_in (zt6 (List.mem_of_getElem? (i := 214) rfl)) rfl
theorem mc_X11_takesOf : Cond.code yX11_takesOf cX11_takesOf 3 (some .int) ∈ zT := zT_in (zt6 (List.mem_of_getElem? (i := 215) rfl)) rfl
theorem ml_X11_167 : Cond.methodLink RX11 167 yJ0_length_8abf5 ∈ zT := zT_in (zt6 (List.mem_of_getElem? (i := 216) rfl)) rfl
theorem ml_X11_173 : Cond.methodLink RX11 173 yJ0_charAt_5068e ∈ zT := zT_in (zt6 (List.mem_of_getElem? (i := 217) rfl)) rfl
theorem mi_J0_charAt_5068e : Cond.instanceMethod yJ0_charAt_5068e ∈ zT := zT_in (zt6 (List.mem_of_getElem? (i := 218) rfl)) rfl
theorem mx_J0_charAt_5068e : Cond.selects RJ0 yJ0_charAt_5068e yJ0_charAt_5068e ∈ zT := zT_in (zt6 (List.mem_of_getElem? (i := 219) rfl)) rfl
theorem mc_J0_charAt_5068e : Cond.code yJ0_charAt_5068e cJ0_charAt_5068e 2 (some .char) ∈ zT := zT_in (zt6 (List.mem_of_getElem? (i := 220) rfl)) rfl
theorem ml_J0_495 : Cond.methodLink RJ0 495 yJ1_charAt_3b067 ∈ zT := zT_in (zt6 (List.mem_of_getElem? (i := 221) rfl)) rfl
theorem ms_J1_charAt_3b067 : Cond.static yJ1_charAt_3b067 ∈ zT := zT_in (zt6 (List.mem_of_getElem? (i := 222) rfl)) rfl
theorem mc_J1_charAt_3b067 : Cond.code yJ1_charAt_3b067 cJ1_charAt_3b067 2 (some .char) ∈ zT := zT_in (zt6 (List.mem_of_getElem? (i := 223) rfl)) rfl
theorem ml_J1_9 : Cond.methodLink RJ1 9 yJ0_checkIndex_df160 ∈ zT := zT_in (zt6 (List.mem_of_getElem? (i := 224) rfl)) rfl
theorem ms_J0_checkIndex_df160 : Cond.static yJ0_checkIndex_df160 ∈ zT := zT_in (zt6 (List.mem_of_getElem? (i := 225) rfl)) rfl
theorem mc_J0_checkIndex_df160 : Cond.code yJ0_checkIndex_df160 cJ0_checkIndex_df160 2 none ∈ zT := zT_in (zt6 (List.mem_of_getElem? (i := 226) rfl)) rfl
theorem ml_J0_1059 : Cond.methodLink RJ0 1059 yJ3_checkIndex_8e157 ∈ zT := zT_in (zt6 (List.mem_of_getElem? (i := 227) rfl)) rfl
theorem ms_J3_checkIndex_8e157 : Cond.static yJ3_checkIndex_8e157 ∈ zT := zT_in (zt6 (List.mem_of_getElem? (i := 228) rfl)) rfl
theorem mc_J3_checkIndex_8e157 : Cond.code yJ3_checkIndex_8e157 cJ3_checkIndex_8e157 3 (some .int) ∈ zT := zT_in (zt6 (List.mem_of_getElem? (i := 229) rfl)) rfl
theorem ml_J0_498 : Cond.methodLink RJ0 498 yJ2_charAt_3b067 ∈ zT := zT_in (zt6 (List.mem_of_getElem? (i := 230) rfl)) rfl
theorem ms_J2_charAt_3b067 : Cond.static yJ2_charAt_3b067 ∈ zT := zT_in (zt6 (List.mem_of_getElem? (i := 231) rfl)) rfl
theorem mc_J2_charAt_3b067 : Cond.code yJ2_charAt_3b067 cJ2_charAt_3b067 2 (some .char) ∈ zT := zT_in (zt6 (List.mem_of_getElem? (i := 232) rfl)) rfl
theorem ml_J2_67 : Cond.methodLink RJ2 67 yJ2_checkIndex_2214a ∈ zT := zT_in (zt6 (List.mem_of_getElem? (i := 233) rfl)) rfl
theorem ms_J2_checkIndex_2214a : Cond.static yJ2_checkIndex_2214a ∈ zT := zT_in (zt6 (List.mem_of_getElem? (i := 234) rfl)) rfl
theorem mc_J2_checkIndex_2214a : Cond.code yJ2_checkIndex_2214a cJ2_checkIndex_2214a 2 none ∈ zT := zT_in (zt6 (List.mem_of_getElem? (i := 235) rfl)) rfl
theorem ml_J2_414 : Cond.methodLink RJ2 414 yJ0_checkIndex_df160 ∈ zT := zT_in (zt6 (List.mem_of_getElem? (i := 236) rfl)) rfl
theorem ml_X11_243 : Cond.methodLink RX11 243 yX11_laysCode ∈ zT := zT_in (zt7 (List.mem_of_getElem? (i := 0) rfl)) rfl
theorem mi_X11_laysCode : Cond.instanceMethod yX11_laysCode ∈ zT := zT_in (zt7 (List.mem_of_getElem? (i := 2) rfl)) rfl
theorem mc_X11_laysCode : Cond.code yX11_laysCode cX11_laysCode 4 none ∈ zT := zT_in (zt7 (List.mem_of_getElem? (i := 3) rfl)) rfl
theorem ml_L_50 : Cond.methodLink RL 50 yX11_passage ∈ zT := zT_in (zt7 (List.mem_of_getElem? (i := 4) rfl)) rfl
theorem mi_X11_passage : Cond.instanceMethod yX11_passage ∈ zT := zT_in (zt7 (List.mem_of_getElem? (i := 5) rfl)) rfl
theorem mx_X11_passage : Cond.selects RX11 yX11_passage yX11_passage ∈ zT := zT_in (zt7 (List.mem_of_getElem? (i := 6) rfl)) rfl
theorem mc_X11_passage : Cond.code yX11_passage cX11_passage 3 (some .int) ∈ zT := zT_in (zt7 (List.mem_of_getElem? (i := 7) rfl)) rfl
theorem ml_X11_259 : Cond.methodLink RX11 259 yX11_isPassage ∈ zT := zT_in (zt7 (List.mem_of_getElem? (i := 8) rfl)) rfl
theorem mi_X11_isPassage : Cond.instanceMethod yX11_isPassage ∈ zT := zT_in (zt7 (List.mem_of_getElem? (i := 10) rfl)) rfl
theorem mc_X11_isPassage : Cond.code yX11_isPassage cX11_isPassage 2 (some .boolean) ∈ zT := zT_in (zt7 (List.mem_of_getElem? (i := 11) rfl)) rfl
theorem cl_X11_285 : Cond.constantLong RX11 285 (5) ∈ zT := zT_in (zt7 (List.mem_of_getElem? (i := 12) rfl)) rfl
theorem ml_X11_287 : Cond.methodLink RX11 287 yX11_refuse ∈ zT := zT_in (zt7 (List.mem_of_getElem? (i := 13) rfl)) rfl
theorem mi_X11_refuse : Cond.instanceMethod yX11_refuse ∈ zT := zT_in (zt7 (List.mem_of_getElem? (i := 15) rfl)) rfl
theorem mc_X11_refuse : Cond.code yX11_refuse cX11_refuse 1 (some .int) ∈ zT := zT_in (zt7 (List.mem_of_getElem? (i := 16) rfl)) rfl
theorem ml_X11_262 : Cond.methodLink RX11 262 yX11_has ∈ zT := zT_in (zt7 (List.mem_of_getElem? (i := 17) rfl)) rfl
theorem ms_X11_has : Cond.static yX11_has ∈ zT := zT_in (zt7 (List.mem_of_getElem? (i := 18) rfl)) rfl
theorem mc_X11_has : Cond.code yX11_has cX11_has 2 (some .boolean) ∈ zT := zT_in (zt7 (List.mem_of_getElem? (i := 19) rfl)) rfl
theorem ml_L_56 : Cond.methodLink RL 56 yX11_cavern ∈ zT := zT_in (zt7 (List.mem_of_getElem? (i := 20) rfl)) rfl
theorem mi_X11_cavern : Cond.instanceMethod yX11_cavern ∈ zT := zT_in (zt7 (List.mem_of_getElem? (i := 21) rfl)) rfl
theorem mx_X11_cavern : Cond.selects RX11 yX11_cavern yX11_cavern ∈ zT := zT_in (zt7 (List.mem_of_getElem? (i := 22) rfl)) rfl
theorem mc_X11_cavern : Cond.code yX11_cavern cX11_cavern 3 (some .int) ∈ zT := zT_in (zt7 (List.mem_of_getElem? (i := 23) rfl)) rfl
theorem ml_X11_256 : Cond.methodLink RX11 256 yX11_isCavern ∈ zT := zT_in (zt7 (List.mem_of_getElem? (i := 24) rfl)) rfl
theorem ms_X11_isCavern : Cond.static yX11_isCavern ∈ zT := zT_in (zt7 (List.mem_of_getElem? (i := 25) rfl)) rfl
theorem mc_X11_isCavern : Cond.code yX11_isCavern cX11_isCavern 1 (some .boolean) ∈ zT := zT_in (zt7 (List.mem_of_getElem? (i := 26) rfl)) rfl
theorem cl_X11_135 : Cond.constantLong RX11 135 (7) ∈ zT := zT_in (zt7 (List.mem_of_getElem? (i := 27) rfl)) rfl
theorem cl_X11_300 : Cond.constantLong RX11 300 (2) ∈ zT := zT_in (zt7 (List.mem_of_getElem? (i := 28) rfl)) rfl
theorem ml_X11_302 : Cond.methodLink RX11 302 yX11_laysFar ∈ zT := zT_in (zt7 (List.mem_of_getElem? (i := 29) rfl)) rfl
theorem mi_X11_laysFar : Cond.instanceMethod yX11_laysFar ∈ zT := zT_in (zt7 (List.mem_of_getElem? (i := 31) rfl)) rfl
theorem mc_X11_laysFar : Cond.code yX11_laysFar cX11_laysFar 7 none ∈ zT := zT_in (zt7 (List.mem_of_getElem? (i := 32) rfl)) rfl
theorem cn_X11_290 : Cond.constant RX11 290 (1000000) ∈ zT := zT_in (zt7 (List.mem_of_getElem? (i := 33) rfl)) rfl
theorem ml_X11_305 : Cond.methodLink RX11 305 yX11_openOf ∈ zT := zT_in (zt7 (List.mem_of_getElem? (i := 34) rfl)) rfl
theorem mi_X11_openOf : Cond.instanceMethod yX11_openOf ∈ zT := zT_in (zt7 (List.mem_of_getElem? (i := 36) rfl)) rfl
theorem mc_X11_openOf : Cond.code yX11_openOf cX11_openOf 4 (some .int) ∈ zT := zT_in (zt7 (List.mem_of_getElem? (i := 37) rfl)) rfl
theorem ml_X11_266 : Cond.methodLink RX11 266 yX11_isEnd ∈ zT := zT_in (zt7 (List.mem_of_getElem? (i := 38) rfl)) rfl
theorem mi_X11_isEnd : Cond.instanceMethod yX11_isEnd ∈ zT := zT_in (zt7 (List.mem_of_getElem? (i := 40) rfl)) rfl
theorem mc_X11_isEnd : Cond.code yX11_isEnd cX11_isEnd 3 (some .boolean) ∈ zT := zT_in (zt7 (List.mem_of_getElem? (i := 41) rfl)) rfl
theorem ml_X11_308 : Cond.methodLink RX11 308 yX11_joinedTo ∈ zT := zT_in (zt7 (List.mem_of_getElem? (i := 42) rfl)) rfl
theorem mi_X11_joinedTo : Cond.instanceMethod yX11_joinedTo ∈ zT := zT_in (zt7 (List.mem_of_getElem? (i := 44) rfl)) rfl
theorem mc_X11_joinedTo : Cond.code yX11_joinedTo cX11_joinedTo 4 (some .int) ∈ zT := zT_in (zt7 (List.mem_of_getElem? (i := 45) rfl)) rfl
theorem ml_X11_294 : Cond.methodLink RX11 294 yX11_areJoined ∈ zT := zT_in (zt7 (List.mem_of_getElem? (i := 46) rfl)) rfl
theorem mi_X11_areJoined : Cond.instanceMethod yX11_areJoined ∈ zT := zT_in (zt7 (List.mem_of_getElem? (i := 48) rfl)) rfl
theorem mc_X11_areJoined : Cond.code yX11_areJoined cX11_areJoined 3 (some .boolean) ∈ zT := zT_in (zt7 (List.mem_of_getElem? (i := 49) rfl)) rfl
theorem ml_X11_291 : Cond.methodLink RX11 291 yX11_farOf ∈ zT := zT_in (zt7 (List.mem_of_getElem? (i := 50) rfl)) rfl
theorem mi_X11_farOf : Cond.instanceMethod yX11_farOf ∈ zT := zT_in (zt7 (List.mem_of_getElem? (i := 52) rfl)) rfl
theorem mc_X11_farOf : Cond.code yX11_farOf cX11_farOf 3 (some .int) ∈ zT := zT_in (zt7 (List.mem_of_getElem? (i := 53) rfl)) rfl
theorem ml_X11_311 : Cond.methodLink RX11 311 yX11_farthest ∈ zT := zT_in (zt7 (List.mem_of_getElem? (i := 54) rfl)) rfl
theorem mi_X11_farthest : Cond.instanceMethod yX11_farthest ∈ zT := zT_in (zt7 (List.mem_of_getElem? (i := 56) rfl)) rfl
theorem mc_X11_farthest : Cond.code yX11_farthest cX11_farthest 4 (some .int) ∈ zT := zT_in (zt7 (List.mem_of_getElem? (i := 57) rfl)) rfl
theorem ml_X11_297 : Cond.methodLink RX11 297 yJ9_max_7cf53 ∈ zT := zT_in (zt7 (List.mem_of_getElem? (i := 58) rfl)) rfl
theorem ml_L_61 : Cond.methodLink RL 61 yX11_sheet ∈ zT := zT_in (zt7 (List.mem_of_getElem? (i := 59) rfl)) rfl
theorem mi_X11_sheet : Cond.instanceMethod yX11_sheet ∈ zT := zT_in (zt7 (List.mem_of_getElem? (i := 60) rfl)) rfl
theorem mx_X11_sheet : Cond.selects RX11 yX11_sheet yX11_sheet ∈ zT := zT_in (zt7 (List.mem_of_getElem? (i := 61) rfl)) rfl
theorem mc_X11_sheet : Cond.code yX11_sheet cX11_sheet 8 (some .int) ∈ zT := zT_in (zt7 (List.mem_of_getElem? (i := 62) rfl)) rfl
theorem cl_X11_314 : Cond.constantLong RX11 314 (3) ∈ zT := zT_in (zt7 (List.mem_of_getElem? (i := 63) rfl)) rfl
theorem ml_X11_316 : Cond.methodLink RX11 316 yX11_sumOf ∈ zT := zT_in (zt7 (List.mem_of_getElem? (i := 64) rfl)) rfl
theorem mi_X11_sumOf : Cond.instanceMethod yX11_sumOf ∈ zT := zT_in (zt7 (List.mem_of_getElem? (i := 66) rfl)) rfl
theorem mc_X11_sumOf : Cond.code yX11_sumOf cX11_sumOf 5 (some .int) ∈ zT := zT_in (zt7 (List.mem_of_getElem? (i := 67) rfl)) rfl
theorem ml_L_86 : Cond.methodLink RL 86 yX11_undo ∈ zT := zT_in (zt7 (List.mem_of_getElem? (i := 68) rfl)) rfl
theorem mi_X11_undo : Cond.instanceMethod yX11_undo ∈ zT := zT_in (zt7 (List.mem_of_getElem? (i := 69) rfl)) rfl
theorem mx_X11_undo : Cond.selects RX11 yX11_undo yX11_undo ∈ zT := zT_in (zt7 (List.mem_of_getElem? (i := 70) rfl)) rfl
theorem mc_X11_undo : Cond.code yX11_undo cX11_undo 2 (some .int) ∈ zT := zT_in (zt7 (List.mem_of_getElem? (i := 71) rfl)) rfl
theorem ml_L_65 : Cond.methodLink RL 65 yX11_calls ∈ zT := zT_in (zt7 (List.mem_of_getElem? (i := 72) rfl)) rfl
theorem mi_X11_calls : Cond.instanceMethod yX11_calls ∈ zT := zT_in (zt7 (List.mem_of_getElem? (i := 73) rfl)) rfl
theorem mx_X11_calls : Cond.selects RX11 yX11_calls yX11_calls ∈ zT := zT_in (zt7 (List.mem_of_getElem? (i := 74) rfl)) rfl
theorem mc_X11_calls : Cond.code yX11_calls cX11_calls 5 (some .int) ∈ zT := zT_in (zt7 (List.mem_of_getElem? (i := 75) rfl)) rfl
theorem ml_X11_333 : Cond.methodLink RX11 333 yX11_readsCall ∈ zT := zT_in (zt7 (List.mem_of_getElem? (i := 76) rfl)) rfl
theorem mi_X11_readsCall : Cond.instanceMethod yX11_readsCall ∈ zT := zT_in (zt7 (List.mem_of_getElem? (i := 78) rfl)) rfl
theorem mc_X11_readsCall : Cond.code yX11_readsCall cX11_readsCall 4 (some .int) ∈ zT := zT_in (zt7 (List.mem_of_getElem? (i := 79) rfl)) rfl
theorem ml_X11_326 : Cond.methodLink RX11 326 yX11_isEcho ∈ zT := zT_in (zt7 (List.mem_of_getElem? (i := 80) rfl)) rfl
theorem mi_X11_isEcho : Cond.instanceMethod yX11_isEcho ∈ zT := zT_in (zt7 (List.mem_of_getElem? (i := 82) rfl)) rfl
theorem mc_X11_isEcho : Cond.code yX11_isEcho cX11_isEcho 4 (some .boolean) ∈ zT := zT_in (zt7 (List.mem_of_getElem? (i := 83) rfl)) rfl
theorem ml_X11_330 : Cond.methodLink RX11 330 yX11_readsLetters ∈ zT := zT_in (zt7 (List.mem_of_getElem? (i := 84) rfl)) rfl
theorem mi_X11_readsLetters : Cond.instanceMethod yX11_readsLetters ∈ zT := zT_in (zt7 (List.mem_of_getElem? (i := 86) rfl)) rfl
theorem mc_X11_readsLetters : Cond.code yX11_readsLetters cX11_readsLetters 2 (some .int) ∈ zT := zT_in (zt7 (List.mem_of_getElem? (i := 87) rfl)) rfl
theorem ml_X11_323 : Cond.methodLink RX11 323 yX11_isLetter ∈ zT := zT_in (zt7 (List.mem_of_getElem? (i := 88) rfl)) rfl
theorem mi_X11_isLetter : Cond.instanceMethod yX11_isLetter ∈ zT := zT_in (zt7 (List.mem_of_getElem? (i := 90) rfl)) rfl
theorem mc_X11_isLetter : Cond.code yX11_isLetter cX11_isLetter 1 (some .boolean) ∈ zT := zT_in (zt7 (List.mem_of_getElem? (i := 91) rfl)) rfl
theorem cl_X11_163 : Cond.constantLong RX11 163 (97) ∈ zT := zT_in (zt7 (List.mem_of_getElem? (i := 92) rfl)) rfl
theorem cl_X11_165 : Cond.constantLong RX11 165 (104) ∈ zT := zT_in (zt7 (List.mem_of_getElem? (i := 93) rfl)) rfl
theorem ml_X11_336 : Cond.methodLink RX11 336 yX11_laysEcho ∈ zT := zT_in (zt7 (List.mem_of_getElem? (i := 94) rfl)) rfl
theorem mi_X11_laysEcho : Cond.instanceMethod yX11_laysEcho ∈ zT := zT_in (zt7 (List.mem_of_getElem? (i := 96) rfl)) rfl
theorem mc_X11_laysEcho : Cond.code yX11_laysEcho cX11_laysEcho 7 none ∈ zT := zT_in (zt7 (List.mem_of_getElem? (i := 97) rfl)) rfl
theorem ml_X11_278 : Cond.methodLink RX11 278 yX11_beyond ∈ zT := zT_in (zt7 (List.mem_of_getElem? (i := 98) rfl)) rfl
theorem mi_X11_beyond : Cond.instanceMethod yX11_beyond ∈ zT := zT_in (zt7 (List.mem_of_getElem? (i := 100) rfl)) rfl
theorem mc_X11_beyond : Cond.code yX11_beyond cX11_beyond 3 (some .int) ∈ zT := zT_in (zt7 (List.mem_of_getElem? (i := 101) rfl)) rfl
theorem ml_X11_340 : Cond.methodLink RX11 340 yX11_enters ∈ zT := zT_in (zt7 (List.mem_of_getElem? (i := 102) rfl)) rfl
theorem mi_X11_enters : Cond.instanceMethod yX11_enters ∈ zT := zT_in (zt7 (List.mem_of_getElem? (i := 104) rfl)) rfl
theorem mc_X11_enters : Cond.code yX11_enters cX11_enters 3 none ∈ zT := zT_in (zt7 (List.mem_of_getElem? (i := 105) rfl)) rfl
theorem ml_X11_344 : Cond.methodLink RX11 344 yX11_comesOut ∈ zT := zT_in (zt7 (List.mem_of_getElem? (i := 106) rfl)) rfl
theorem mi_X11_comesOut : Cond.instanceMethod yX11_comesOut ∈ zT := zT_in (zt7 (List.mem_of_getElem? (i := 108) rfl)) rfl
theorem mc_X11_comesOut : Cond.code yX11_comesOut cX11_comesOut 6 (some .int) ∈ zT := zT_in (zt7 (List.mem_of_getElem? (i := 109) rfl)) rfl
theorem ml_X11_281 : Cond.methodLink RX11 281 yX11_becomesBy ∈ zT := zT_in (zt7 (List.mem_of_getElem? (i := 110) rfl)) rfl
theorem mi_X11_becomesBy : Cond.instanceMethod yX11_becomesBy ∈ zT := zT_in (zt7 (List.mem_of_getElem? (i := 112) rfl)) rfl
theorem mc_X11_becomesBy : Cond.code yX11_becomesBy cX11_becomesBy 6 (some .int) ∈ zT := zT_in (zt7 (List.mem_of_getElem? (i := 113) rfl)) rfl
theorem ml_X11_250 : Cond.methodLink RX11 250 yX11_ruled ∈ zT := zT_in (zt7 (List.mem_of_getElem? (i := 114) rfl)) rfl
theorem mi_X11_ruled : Cond.instanceMethod yX11_ruled ∈ zT := zT_in (zt7 (List.mem_of_getElem? (i := 116) rfl)) rfl
theorem mc_X11_ruled : Cond.code yX11_ruled cX11_ruled 4 (some .int) ∈ zT := zT_in (zt7 (List.mem_of_getElem? (i := 117) rfl)) rfl
theorem ml_X11_247 : Cond.methodLink RX11 247 yX11_worked ∈ zT := zT_in (zt7 (List.mem_of_getElem? (i := 118) rfl)) rfl
theorem ms_X11_worked : Cond.static yX11_worked ∈ zT := zT_in (zt7 (List.mem_of_getElem? (i := 119) rfl)) rfl
theorem mc_X11_worked : Cond.code yX11_worked cX11_worked 3 (some .int) ∈ zT := zT_in (zt7 (List.mem_of_getElem? (i := 120) rfl)) rfl
theorem ml_X11_253 : Cond.methodLink RX11 253 yJ9_floorMod_7cf53 ∈ zT := zT_in (zt7 (List.mem_of_getElem? (i := 121) rfl)) rfl
theorem ms_J9_floorMod_7cf53 : Cond.static yJ9_floorMod_7cf53 ∈ zT := zT_in (zt7 (List.mem_of_getElem? (i := 122) rfl)) rfl
theorem mc_J9_floorMod_7cf53 : Cond.code yJ9_floorMod_7cf53 cJ9_floorMod_7cf53 3 (some .int) ∈ zT := zT_in (zt7 (List.mem_of_getElem? (i := 123) rfl)) rfl
theorem ml_X11_348 : Cond.methodLink RX11 348 yX11_putsBy ∈ zT := zT_in (zt7 (List.mem_of_getElem? (i := 124) rfl)) rfl
theorem mi_X11_putsBy : Cond.instanceMethod yX11_putsBy ∈ zT := zT_in (zt7 (List.mem_of_getElem? (i := 126) rfl)) rfl
theorem mc_X11_putsBy : Cond.code yX11_putsBy cX11_putsBy 2 none ∈ zT := zT_in (zt7 (List.mem_of_getElem? (i := 127) rfl)) rfl
theorem ml_X11_351 : Cond.methodLink RX11 351 yX11_wears ∈ zT := zT_in (zt7 (List.mem_of_getElem? (i := 128) rfl)) rfl
theorem mi_X11_wears : Cond.instanceMethod yX11_wears ∈ zT := zT_in (zt7 (List.mem_of_getElem? (i := 130) rfl)) rfl
theorem mc_X11_wears : Cond.code yX11_wears cX11_wears 3 none ∈ zT := zT_in (zt7 (List.mem_of_getElem? (i := 131) rfl)) rfl
theorem ml_X11_320 : Cond.methodLink RX11 320 yX11_adds ∈ zT := zT_in (zt7 (List.mem_of_getElem? (i := 132) rfl)) rfl
theorem mi_X11_adds : Cond.instanceMethod yX11_adds ∈ zT := zT_in (zt7 (List.mem_of_getElem? (i := 134) rfl)) rfl
theorem mc_X11_adds : Cond.code yX11_adds cX11_adds 3 (some .int) ∈ zT := zT_in (zt7 (List.mem_of_getElem? (i := 135) rfl)) rfl
theorem ml_L_69 : Cond.methodLink RL 69 yX11_hours ∈ zT := zT_in (zt7 (List.mem_of_getElem? (i := 136) rfl)) rfl
theorem mi_X11_hours : Cond.instanceMethod yX11_hours ∈ zT := zT_in (zt7 (List.mem_of_getElem? (i := 137) rfl)) rfl
theorem mx_X11_hours : Cond.selects RX11 yX11_hours yX11_hours ∈ zT := zT_in (zt7 (List.mem_of_getElem? (i := 138) rfl)) rfl
theorem mc_X11_hours : Cond.code yX11_hours cX11_hours 2 (some .int) ∈ zT := zT_in (zt7 (List.mem_of_getElem? (i := 139) rfl)) rfl
theorem cl_X11_362 : Cond.constantLong RX11 362 (60) ∈ zT := zT_in (zt7 (List.mem_of_getElem? (i := 140) rfl)) rfl
theorem ml_X11_364 : Cond.methodLink RX11 364 yX11_hoursGo ∈ zT := zT_in (zt7 (List.mem_of_getElem? (i := 141) rfl)) rfl
theorem mi_X11_hoursGo : Cond.instanceMethod yX11_hoursGo ∈ zT := zT_in (zt7 (List.mem_of_getElem? (i := 143) rfl)) rfl
theorem mc_X11_hoursGo : Cond.code yX11_hoursGo cX11_hoursGo 4 none ∈ zT := zT_in (zt7 (List.mem_of_getElem? (i := 144) rfl)) rfl
theorem ml_L_73 : Cond.methodLink RL 73 yX11_falls ∈ zT := zT_in (zt7 (List.mem_of_getElem? (i := 145) rfl)) rfl
theorem mi_X11_falls : Cond.instanceMethod yX11_falls ∈ zT := zT_in (zt7 (List.mem_of_getElem? (i := 146) rfl)) rfl
theorem mx_X11_falls : Cond.selects RX11 yX11_falls yX11_falls ∈ zT := zT_in (zt7 (List.mem_of_getElem? (i := 147) rfl)) rfl
theorem mc_X11_falls : Cond.code yX11_falls cX11_falls 2 (some .int) ∈ zT := zT_in (zt7 (List.mem_of_getElem? (i := 148) rfl)) rfl
theorem ml_X11_367 : Cond.methodLink RX11 367 yX11_fallsOne ∈ zT := zT_in (zt7 (List.mem_of_getElem? (i := 149) rfl)) rfl
theorem mi_X11_fallsOne : Cond.instanceMethod yX11_fallsOne ∈ zT := zT_in (zt7 (List.mem_of_getElem? (i := 151) rfl)) rfl
theorem mc_X11_fallsOne : Cond.code yX11_fallsOne cX11_fallsOne 3 (some .int) ∈ zT := zT_in (zt7 (List.mem_of_getElem? (i := 152) rfl)) rfl
theorem ml_X11_355 : Cond.methodLink RX11 355 yJ6_bitCount_0f7a4 ∈ zT := zT_in (zt7 (List.mem_of_getElem? (i := 153) rfl)) rfl
theorem ml_X11_370 : Cond.methodLink RX11 370 yX11_counted ∈ zT := zT_in (zt7 (List.mem_of_getElem? (i := 154) rfl)) rfl
theorem mi_X11_counted : Cond.instanceMethod yX11_counted ∈ zT := zT_in (zt7 (List.mem_of_getElem? (i := 156) rfl)) rfl
theorem mc_X11_counted : Cond.code yX11_counted cX11_counted 2 (some .int) ∈ zT := zT_in (zt7 (List.mem_of_getElem? (i := 157) rfl)) rfl
theorem ml_L_78 : Cond.methodLink RL 78 yX11_digs ∈ zT := zT_in (zt7 (List.mem_of_getElem? (i := 158) rfl)) rfl
theorem mi_X11_digs : Cond.instanceMethod yX11_digs ∈ zT := zT_in (zt7 (List.mem_of_getElem? (i := 159) rfl)) rfl
theorem mx_X11_digs : Cond.selects RX11 yX11_digs yX11_digs ∈ zT := zT_in (zt7 (List.mem_of_getElem? (i := 160) rfl)) rfl
theorem mc_X11_digs : Cond.code yX11_digs cX11_digs 4 (some .int) ∈ zT := zT_in (zt7 (List.mem_of_getElem? (i := 161) rfl)) rfl
theorem ml_X11_373 : Cond.methodLink RX11 373 yX11_digsOne ∈ zT := zT_in (zt7 (List.mem_of_getElem? (i := 162) rfl)) rfl
theorem mi_X11_digsOne : Cond.instanceMethod yX11_digsOne ∈ zT := zT_in (zt7 (List.mem_of_getElem? (i := 164) rfl)) rfl
theorem mc_X11_digsOne : Cond.code yX11_digsOne cX11_digsOne 5 (some .int) ∈ zT := zT_in (zt7 (List.mem_of_getElem? (i := 165) rfl)) rfl
theorem cl_X11_360 : Cond.constantLong RX11 360 (9) ∈ zT := zT_in (zt7 (List.mem_of_getElem? (i := 166) rfl)) rfl
theorem ml_L_82 : Cond.methodLink RL 82 yX11_season ∈ zT := zT_in (zt7 (List.mem_of_getElem? (i := 167) rfl)) rfl
theorem mi_X11_season : Cond.instanceMethod yX11_season ∈ zT := zT_in (zt7 (List.mem_of_getElem? (i := 168) rfl)) rfl
theorem mx_X11_season : Cond.selects RX11 yX11_season yX11_season ∈ zT := zT_in (zt7 (List.mem_of_getElem? (i := 169) rfl)) rfl
theorem mc_X11_season : Cond.code yX11_season cX11_season 5 (some .int) ∈ zT := zT_in (zt7 (List.mem_of_getElem? (i := 170) rfl)) rfl
theorem ml_X11_381 : Cond.methodLink RX11 381 yX11_readsAct ∈ zT := zT_in (zt7 (List.mem_of_getElem? (i := 171) rfl)) rfl
theorem mi_X11_readsAct : Cond.instanceMethod yX11_readsAct ∈ zT := zT_in (zt7 (List.mem_of_getElem? (i := 173) rfl)) rfl
theorem mc_X11_readsAct : Cond.code yX11_readsAct cX11_readsAct 2 (some .boolean) ∈ zT := zT_in (zt7 (List.mem_of_getElem? (i := 174) rfl)) rfl
theorem ml_X11_384 : Cond.methodLink RX11 384 yX11_does ∈ zT := zT_in (zt7 (List.mem_of_getElem? (i := 176) rfl)) rfl
theorem mi_X11_does : Cond.instanceMethod yX11_does ∈ zT := zT_in (zt7 (List.mem_of_getElem? (i := 178) rfl)) rfl
theorem mc_X11_does : Cond.code yX11_does cX11_does 3 (some .boolean) ∈ zT := zT_in (zt7 (List.mem_of_getElem? (i := 179) rfl)) rfl
theorem ml_L_90 : Cond.methodLink RL 90 yX11_route ∈ zT := zT_in (zt7 (List.mem_of_getElem? (i := 180) rfl)) rfl
theorem mi_X11_route : Cond.instanceMethod yX11_route ∈ zT := zT_in (zt7 (List.mem_of_getElem? (i := 181) rfl)) rfl
theorem mx_X11_route : Cond.selects RX11 yX11_route yX11_route ∈ zT := zT_in (zt7 (List.mem_of_getElem? (i := 182) rfl)) rfl
theorem mc_X11_route : Cond.code yX11_route cX11_route 4 (some .int) ∈ zT := zT_in (zt7 (List.mem_of_getElem? (i := 183) rfl)) rfl
theorem ml_L_94 : Cond.methodLink RL 94 yX11_hears ∈ zT := zT_in (zt7 (List.mem_of_getElem? (i := 184) rfl)) rfl
theorem mi_X11_hears : Cond.instanceMethod yX11_hears ∈ zT := zT_in (zt7 (List.mem_of_getElem? (i := 185) rfl)) rfl
theorem mx_X11_hears : Cond.selects RX11 yX11_hears yX11_hears ∈ zT := zT_in (zt7 (List.mem_of_getElem? (i := 186) rfl)) rfl
theorem mc_X11_hears : Cond.code yX11_hears cX11_hears 7 (some .int) ∈ zT := zT_in (zt7 (List.mem_of_getElem? (i := 187) rfl)) rfl
theorem ml_L_98 : Cond.methodLink RL 98 yX11_asks ∈ zT := zT_in (zt7 (List.mem_of_getElem? (i := 188) rfl)) rfl
theorem mi_X11_asks : Cond.instanceMethod yX11_asks ∈ zT := zT_in (zt7 (List.mem_of_getElem? (i := 189) rfl)) rfl
theorem mx_X11_asks : Cond.selects RX11 yX11_asks yX11_asks ∈ zT := zT_in (zt7 (List.mem_of_getElem? (i := 190) rfl)) rfl
theorem mc_X11_asks : Cond.code yX11_asks cX11_asks 10 (some .int) ∈ zT := zT_in (zt7 (List.mem_of_getElem? (i := 191) rfl)) rfl
theorem ml_L_102 : Cond.methodLink RL 102 yX11_becomes ∈ zT := zT_in (zt7 (List.mem_of_getElem? (i := 192) rfl)) rfl
theorem mi_X11_becomes : Cond.instanceMethod yX11_becomes ∈ zT := zT_in (zt7 (List.mem_of_getElem? (i := 193) rfl)) rfl
theorem mx_X11_becomes : Cond.selects RX11 yX11_becomes yX11_becomes ∈ zT := zT_in (zt7 (List.mem_of_getElem? (i := 194) rfl)) rfl
theorem mc_X11_becomes : Cond.code yX11_becomes cX11_becomes 8 (some .int) ∈ zT := zT_in (zt7 (List.mem_of_getElem? (i := 195) rfl)) rfl
theorem ml_L_106 : Cond.methodLink RL 106 yX11_keeps ∈ zT := zT_in (zt7 (List.mem_of_getElem? (i := 196) rfl)) rfl
theorem mi_X11_keeps : Cond.instanceMethod yX11_keeps ∈ zT := zT_in (zt7 (List.mem_of_getElem? (i := 197) rfl)) rfl
theorem mx_X11_keeps : Cond.selects RX11 yX11_keeps yX11_keeps ∈ zT := zT_in (zt7 (List.mem_of_getElem? (i := 198) rfl)) rfl
theorem mc_X11_keeps : Cond.code yX11_keeps cX11_keeps 5 (some .int) ∈ zT := zT_in (zt7 (List.mem_of_getElem? (i := 199) rfl)) rfl
theorem ml_X11_387 : Cond.methodLink RX11 387 yX11_kept ∈ zT := zT_in (zt7 (List.mem_of_getElem? (i := 200) rfl)) rfl
theorem mi_X11_kept : Cond.instanceMethod yX11_kept ∈ zT := zT_in (zt7 (List.mem_of_getElem? (i := 202) rfl)) rfl
theorem mc_X11_kept : Cond.code yX11_kept cX11_kept 4 (some .int) ∈ zT := zT_in (zt7 (List.mem_of_getElem? (i := 203) rfl)) rfl
theorem ml_L_110 : Cond.methodLink RL 110 yX11_apart ∈ zT := zT_in (zt7 (List.mem_of_getElem? (i := 204) rfl)) rfl
theorem mi_X11_apart : Cond.instanceMethod yX11_apart ∈ zT := zT_in (zt7 (List.mem_of_getElem? (i := 205) rfl)) rfl
theorem mx_X11_apart : Cond.selects RX11 yX11_apart yX11_apart ∈ zT := zT_in (zt7 (List.mem_of_getElem? (i := 206) rfl)) rfl
theorem mc_X11_apart : Cond.code yX11_apart cX11_apart 11 (some .int) ∈ zT := zT_in (zt7 (List.mem_of_getElem? (i := 207) rfl)) rfl
theorem cl_X11_390 : Cond.constantLong RX11 390 (6) ∈ zT := zT_in (zt7 (List.mem_of_getElem? (i := 208) rfl)) rfl
theorem ml_L_114 : Cond.methodLink RL 114 yX11_longest ∈ zT := zT_in (zt7 (List.mem_of_getElem? (i := 209) rfl)) rfl
theorem mi_X11_longest : Cond.instanceMethod yX11_longest ∈ zT := zT_in (zt7 (List.mem_of_getElem? (i := 210) rfl)) rfl
theorem mx_X11_longest : Cond.selects RX11 yX11_longest yX11_longest ∈ zT := zT_in (zt7 (List.mem_of_getElem? (i := 211) rfl)) rfl
theorem mc_X11_longest : Cond.code yX11_longest cX11_longest 5 (some .int) ∈ zT := zT_in (zt7 (List.mem_of_getElem? (i := 212) rfl)) rfl
theorem ml_L_118 : Cond.methodLink RL 118 yX11_rounds ∈ zT := zT_in (zt7 (List.mem_of_getElem? (i := 213) rfl)) rfl
theorem mi_X11_rounds : Cond.instanceMethod yX11_rounds ∈ zT := zT_in (zt7 (List.mem_of_getElem? (i := 214) rfl)) rfl
theorem mx_X11_rounds : Cond.selects RX11 yX11_rounds yX11_rounds ∈ zT := zT_in (zt7 (List.mem_of_getElem? (i := 215) rfl)) rfl
theorem mc_X11_rounds : Cond.code yX11_rounds cX11_rounds 6 (some .int) ∈ zT := zT_in (zt7 (List.mem_of_getElem? (i := 216) rfl)) rfl
theorem ml_L_122 : Cond.methodLink RL 122 yX11_way ∈ zT := zT_in (zt7 (List.mem_of_getElem? (i := 217) rfl)) rfl
theorem mi_X11_way : Cond.instanceMethod yX11_way ∈ zT := zT_in (zt7 (List.mem_of_getElem? (i := 218) rfl)) rfl
theorem mx_X11_way : Cond.selects RX11 yX11_way yX11_way ∈ zT := zT_in (zt7 (List.mem_of_getElem? (i := 219) rfl)) rfl
theorem mc_X11_way : Cond.code yX11_way cX11_way 7 (some .int) ∈ zT := zT_in (zt7 (List.mem_of_getElem? (i := 220) rfl)) rfl
theorem ml_L_126 : Cond.methodLink RL 126 yX11_meets ∈ zT := zT_in (zt7 (List.mem_of_getElem? (i := 221) rfl)) rfl
theorem mi_X11_meets : Cond.instanceMethod yX11_meets ∈ zT := zT_in (zt7 (List.mem_of_getElem? (i := 222) rfl)) rfl
theorem mx_X11_meets : Cond.selects RX11 yX11_meets yX11_meets ∈ zT := zT_in (zt7 (List.mem_of_getElem? (i := 223) rfl)) rfl
theorem mc_X11_meets : Cond.code yX11_meets cX11_meets 7 (some .int) ∈ zT := zT_in (zt7 (List.mem_of_getElem? (i := 224) rfl)) rfl
theorem ml_L_130 : Cond.methodLink RL 130 yX11_heart ∈ zT := zT_in (zt7 (List.mem_of_getElem? (i := 225) rfl)) rfl
theorem mi_X11_heart : Cond.instanceMethod yX11_heart ∈ zT := zT_in (zt7 (List.mem_of_getElem? (i := 226) rfl)) rfl
theorem mx_X11_heart : Cond.selects RX11 yX11_heart yX11_heart ∈ zT := zT_in (zt7 (List.mem_of_getElem? (i := 227) rfl)) rfl
theorem mc_X11_heart : Cond.code yX11_heart cX11_heart 4 (some .int) ∈ zT := zT_in (zt7 (List.mem_of_getElem? (i := 228) rfl)) rfl
theorem ml_L_134 : Cond.methodLink RL 134 yX11_ropes ∈ zT := zT_in (zt7 (List.mem_of_getElem? (i := 229) rfl)) rfl
theorem mi_X11_ropes : Cond.instanceMethod yX11_ropes ∈ zT := zT_in (zt7 (List.mem_of_getElem? (i := 230) rfl)) rfl
theorem mx_X11_ropes : Cond.selects RX11 yX11_ropes yX11_ropes ∈ zT := zT_in (zt7 (List.mem_of_getElem? (i := 231) rfl)) rfl
theorem mc_X11_ropes : Cond.code yX11_ropes cX11_ropes 6 (some .int) ∈ zT := zT_in (zt7 (List.mem_of_getElem? (i := 232) rfl)) rfl
theorem ml_L_138 : Cond.methodLink RL 138 yX11_needed ∈ zT := zT_in (zt7 (List.mem_of_getElem? (i := 233) rfl)) rfl
theorem mi_X11_needed : Cond.instanceMethod yX11_needed ∈ zT := zT_in (zt7 (List.mem_of_getElem? (i := 234) rfl)) rfl
theorem mx_X11_needed : Cond.selects RX11 yX11_needed yX11_needed ∈ zT := zT_in (zt7 (List.mem_of_getElem? (i := 235) rfl)) rfl
theorem mc_X11_needed : Cond.code yX11_needed cX11_needed 5 (some .int) ∈ zT := zT_in (zt7 (List.mem_of_getElem? (i := 236) rfl)) rfl
theorem ml_X11_392 : Cond.methodLink RX11 392 yX11_withPassages ∈ zT := zT_in (zt7 (List.mem_of_getElem? (i := 237) rfl)) rfl
theorem mi_X11_withPassages : Cond.instanceMethod yX11_withPassages ∈ zT := zT_in (zt7 (List.mem_of_getElem? (i := 239) rfl)) rfl
theorem mc_X11_withPassages : Cond.code yX11_withPassages cX11_withPassages 3 (some .int) ∈ zT := zT_in (zt8 (List.mem_of_getElem? (i := 0) rfl)) rfl
theorem ml_X11_395 : Cond.methodLink RX11 395 yJ6_numberOfTrailingZeros_0f7a4 ∈ zT := zT_in (zt8 (List.mem_of_getElem? (i := 1) rfl)) rfl
theorem ml_L_142 : Cond.methodLink RL 142 yX11_tour ∈ zT := zT_in (zt8 (List.mem_of_getElem? (i := 2) rfl)) rfl
theorem mi_X11_tour : Cond.instanceMethod yX11_tour ∈ zT := zT_in (zt8 (List.mem_of_getElem? (i := 3) rfl)) rfl
theorem mx_X11_tour : Cond.selects RX11 yX11_tour yX11_tour ∈ zT := zT_in (zt8 (List.mem_of_getElem? (i := 4) rfl)) rfl
theorem mc_X11_tour : Cond.code yX11_tour cX11_tour 8 (some .int) ∈ zT := zT_in (zt8 (List.mem_of_getElem? (i := 5) rfl)) rfl
theorem cl_X11_398 : Cond.constantLong RX11 398 (255) ∈ zT := zT_in (zt8 (List.mem_of_getElem? (i := 6) rfl)) rfl
theorem ml_X11_400 : Cond.methodLink RX11 400 yX11_place ∈ zT := zT_in (zt8 (List.mem_of_getElem? (i := 7) rfl)) rfl
theorem ms_X11_place : Cond.static yX11_place ∈ zT := zT_in (zt8 (List.mem_of_getElem? (i := 8) rfl)) rfl
theorem mc_X11_place : Cond.code yX11_place cX11_place 2 (some .int) ∈ zT := zT_in (zt8 (List.mem_of_getElem? (i := 9) rfl)) rfl
theorem ml_L_146 : Cond.methodLink RL 146 yX11_halves ∈ zT := zT_in (zt8 (List.mem_of_getElem? (i := 10) rfl)) rfl
theorem mi_X11_halves : Cond.instanceMethod yX11_halves ∈ zT := zT_in (zt8 (List.mem_of_getElem? (i := 11) rfl)) rfl
theorem mx_X11_halves : Cond.selects RX11 yX11_halves yX11_halves ∈ zT := zT_in (zt8 (List.mem_of_getElem? (i := 12) rfl)) rfl
theorem mc_X11_halves : Cond.code yX11_halves cX11_halves 8 (some .int) ∈ zT := zT_in (zt8 (List.mem_of_getElem? (i := 13) rfl)) rfl
theorem ml_L_150 : Cond.methodLink RL 150 yX11_guides ∈ zT := zT_in (zt8 (List.mem_of_getElem? (i := 14) rfl)) rfl
theorem mi_X11_guides : Cond.instanceMethod yX11_guides ∈ zT := zT_in (zt8 (List.mem_of_getElem? (i := 15) rfl)) rfl
theorem mx_X11_guides : Cond.selects RX11 yX11_guides yX11_guides ∈ zT := zT_in (zt8 (List.mem_of_getElem? (i := 16) rfl)) rfl
theorem mc_X11_guides : Cond.code yX11_guides cX11_guides 5 (some .int) ∈ zT := zT_in (zt8 (List.mem_of_getElem? (i := 17) rfl)) rfl
theorem ml_X11_403 : Cond.methodLink RX11 403 yX11_isFewer ∈ zT := zT_in (zt8 (List.mem_of_getElem? (i := 18) rfl)) rfl
theorem ms_X11_isFewer : Cond.static yX11_isFewer ∈ zT := zT_in (zt8 (List.mem_of_getElem? (i := 19) rfl)) rfl
theorem mc_X11_isFewer : Cond.code yX11_isFewer cX11_isFewer 2 (some .boolean) ∈ zT := zT_in (zt8 (List.mem_of_getElem? (i := 20) rfl)) rfl
theorem ml_L_154 : Cond.methodLink RL 154 yX11_most ∈ zT := zT_in (zt8 (List.mem_of_getElem? (i := 21) rfl)) rfl
theorem mi_X11_most : Cond.instanceMethod yX11_most ∈ zT := zT_in (zt8 (List.mem_of_getElem? (i := 22) rfl)) rfl
theorem mx_X11_most : Cond.selects RX11 yX11_most yX11_most ∈ zT := zT_in (zt8 (List.mem_of_getElem? (i := 23) rfl)) rfl
theorem mc_X11_most : Cond.code yX11_most cX11_most 7 (some .int) ∈ zT := zT_in (zt8 (List.mem_of_getElem? (i := 24) rfl)) rfl
theorem ml_L_158 : Cond.methodLink RL 158 yX11_told ∈ zT := zT_in (zt8 (List.mem_of_getElem? (i := 25) rfl)) rfl
theorem mi_X11_told : Cond.instanceMethod yX11_told ∈ zT := zT_in (zt8 (List.mem_of_getElem? (i := 26) rfl)) rfl
theorem mx_X11_told : Cond.selects RX11 yX11_told yX11_told ∈ zT := zT_in (zt8 (List.mem_of_getElem? (i := 27) rfl)) rfl
theorem mc_X11_told : Cond.code yX11_told cX11_told 5 (some .int) ∈ zT := zT_in (zt8 (List.mem_of_getElem? (i := 28) rfl)) rfl
theorem cl_X11_406 : Cond.constantLong RX11 406 (4) ∈ zT := zT_in (zt8 (List.mem_of_getElem? (i := 29) rfl)) rfl
theorem ml_L_162 : Cond.methodLink RL 162 yX11_forget ∈ zT := zT_in (zt8 (List.mem_of_getElem? (i := 30) rfl)) rfl
theorem mi_X11_forget : Cond.instanceMethod yX11_forget ∈ zT := zT_in (zt8 (List.mem_of_getElem? (i := 31) rfl)) rfl
theorem mx_X11_forget : Cond.selects RX11 yX11_forget yX11_forget ∈ zT := zT_in (zt8 (List.mem_of_getElem? (i := 32) rfl)) rfl
theorem mc_X11_forget : Cond.code yX11_forget cX11_forget 2 (some .int) ∈ zT := zT_in (zt8 (List.mem_of_getElem? (i := 33) rfl)) rfl
theorem ml_L_166 : Cond.methodLink RL 166 yX11_fits ∈ zT := zT_in (zt8 (List.mem_of_getElem? (i := 34) rfl)) rfl
theorem mi_X11_fits : Cond.instanceMethod yX11_fits ∈ zT := zT_in (zt8 (List.mem_of_getElem? (i := 35) rfl)) rfl
theorem mx_X11_fits : Cond.selects RX11 yX11_fits yX11_fits ∈ zT := zT_in (zt8 (List.mem_of_getElem? (i := 36) rfl)) rfl
theorem mc_X11_fits : Cond.code yX11_fits cX11_fits 2 (some .int) ∈ zT := zT_in (zt8 (List.mem_of_getElem? (i := 37) rfl)) rfl
theorem ml_X11_415 : Cond.methodLink RX11 415 yX11_fitting ∈ zT := zT_in (zt8 (List.mem_of_getElem? (i := 38) rfl)) rfl
theorem mi_X11_fitting : Cond.instanceMethod yX11_fitting ∈ zT := zT_in (zt8 (List.mem_of_getElem? (i := 40) rfl)) rfl
theorem mc_X11_fitting : Cond.code yX11_fitting cX11_fitting 5 (some .int) ∈ zT := zT_in (zt8 (List.mem_of_getElem? (i := 41) rfl)) rfl
theorem ml_X11_411 : Cond.methodLink RX11 411 yX11_isSo ∈ zT := zT_in (zt8 (List.mem_of_getElem? (i := 42) rfl)) rfl
theorem mi_X11_isSo : Cond.instanceMethod yX11_isSo ∈ zT := zT_in (zt8 (List.mem_of_getElem? (i := 44) rfl)) rfl
theorem mc_X11_isSo : Cond.code yX11_isSo cX11_isSo 4 (some .boolean) ∈ zT := zT_in (zt8 (List.mem_of_getElem? (i := 45) rfl)) rfl
theorem ml_L_170 : Cond.methodLink RL 170 yX11_next ∈ zT := zT_in (zt8 (List.mem_of_getElem? (i := 46) rfl)) rfl
theorem mi_X11_next : Cond.instanceMethod yX11_next ∈ zT := zT_in (zt8 (List.mem_of_getElem? (i := 47) rfl)) rfl
theorem mx_X11_next : Cond.selects RX11 yX11_next yX11_next ∈ zT := zT_in (zt8 (List.mem_of_getElem? (i := 48) rfl)) rfl
theorem mc_X11_next : Cond.code yX11_next cX11_next 7 (some .int) ∈ zT := zT_in (zt8 (List.mem_of_getElem? (i := 49) rfl)) rfl
theorem ml_L_174 : Cond.methodLink RL 174 yX11_heard ∈ zT := zT_in (zt8 (List.mem_of_getElem? (i := 50) rfl)) rfl
theorem mi_X11_heard : Cond.instanceMethod yX11_heard ∈ zT := zT_in (zt8 (List.mem_of_getElem? (i := 51) rfl)) rfl
theorem mx_X11_heard : Cond.selects RX11 yX11_heard yX11_heard ∈ zT := zT_in (zt8 (List.mem_of_getElem? (i := 52) rfl)) rfl
theorem mc_X11_heard : Cond.code yX11_heard cX11_heard 4 (some .int) ∈ zT := zT_in (zt8 (List.mem_of_getElem? (i := 53) rfl)) rfl
theorem ml_L_178 : Cond.methodLink RL 178 yX11_denied ∈ zT := zT_in (zt8 (List.mem_of_getElem? (i := 54) rfl)) rfl
theorem mi_X11_denied : Cond.instanceMethod yX11_denied ∈ zT := zT_in (zt8 (List.mem_of_getElem? (i := 55) rfl)) rfl
theorem mx_X11_denied : Cond.selects RX11 yX11_denied yX11_denied ∈ zT := zT_in (zt8 (List.mem_of_getElem? (i := 56) rfl)) rfl
theorem mc_X11_denied : Cond.code yX11_denied cX11_denied 2 (some .int) ∈ zT := zT_in (zt8 (List.mem_of_getElem? (i := 57) rfl)) rfl
theorem ml_L_182 : Cond.methodLink RL 182 yX11_laws ∈ zT := zT_in (zt8 (List.mem_of_getElem? (i := 58) rfl)) rfl
theorem mi_X11_laws : Cond.instanceMethod yX11_laws ∈ zT := zT_in (zt8 (List.mem_of_getElem? (i := 59) rfl)) rfl
theorem mx_X11_laws : Cond.selects RX11 yX11_laws yX11_laws ∈ zT := zT_in (zt8 (List.mem_of_getElem? (i := 60) rfl)) rfl
theorem mc_X11_laws : Cond.code yX11_laws cX11_laws 4 (some .int) ∈ zT := zT_in (zt8 (List.mem_of_getElem? (i := 61) rfl)) rfl
theorem ml_X11_424 : Cond.methodLink RX11 424 yX11_isLaw ∈ zT := zT_in (zt8 (List.mem_of_getElem? (i := 62) rfl)) rfl
theorem mi_X11_isLaw : Cond.instanceMethod yX11_isLaw ∈ zT := zT_in (zt8 (List.mem_of_getElem? (i := 64) rfl)) rfl
theorem mc_X11_isLaw : Cond.code yX11_isLaw cX11_isLaw 4 (some .boolean) ∈ zT := zT_in (zt8 (List.mem_of_getElem? (i := 65) rfl)) rfl
theorem ml_X11_421 : Cond.methodLink RX11 421 yX11_lawOf ∈ zT := zT_in (zt8 (List.mem_of_getElem? (i := 66) rfl)) rfl
theorem ms_X11_lawOf : Cond.static yX11_lawOf ∈ zT := zT_in (zt8 (List.mem_of_getElem? (i := 67) rfl)) rfl
theorem mc_X11_lawOf : Cond.code yX11_lawOf cX11_lawOf 3 (some .int) ∈ zT := zT_in (zt8 (List.mem_of_getElem? (i := 68) rfl)) rfl
theorem ml_L_186 : Cond.methodLink RL 186 yX11_listens ∈ zT := zT_in (zt8 (List.mem_of_getElem? (i := 69) rfl)) rfl
theorem mi_X11_listens : Cond.instanceMethod yX11_listens ∈ zT := zT_in (zt8 (List.mem_of_getElem? (i := 70) rfl)) rfl
theorem mx_X11_listens : Cond.selects RX11 yX11_listens yX11_listens ∈ zT := zT_in (zt8 (List.mem_of_getElem? (i := 71) rfl)) rfl
theorem mc_X11_listens : Cond.code yX11_listens cX11_listens 7 (some .int) ∈ zT := zT_in (zt8 (List.mem_of_getElem? (i := 72) rfl)) rfl
theorem ml_L_191 : Cond.methodLink RL 191 yX11_hints ∈ zT := zT_in (zt8 (List.mem_of_getElem? (i := 73) rfl)) rfl
theorem mi_X11_hints : Cond.instanceMethod yX11_hints ∈ zT := zT_in (zt8 (List.mem_of_getElem? (i := 74) rfl)) rfl
theorem mx_X11_hints : Cond.selects RX11 yX11_hints yX11_hints ∈ zT := zT_in (zt8 (List.mem_of_getElem? (i := 75) rfl)) rfl
theorem mc_X11_hints : Cond.code yX11_hints cX11_hints 10 (some .int) ∈ zT := zT_in (zt8 (List.mem_of_getElem? (i := 76) rfl)) rfl
theorem cl_X11_427 : Cond.constantLong RX11 427 (10) ∈ zT := zT_in (zt8 (List.mem_of_getElem? (i := 77) rfl)) rfl
theorem ml_X11_7 : Cond.methodLink RX11 7 yX11_common ∈ zT := zT_in (zt8 (List.mem_of_getElem? (i := 78) rfl)) rfl
theorem ms_X11_common : Cond.static yX11_common ∈ zT := zT_in (zt8 (List.mem_of_getElem? (i := 79) rfl)) rfl
theorem mc_X11_common : Cond.code yX11_common cX11_common 4 (some .long) ∈ zT := zT_in (zt8 (List.mem_of_getElem? (i := 80) rfl)) rfl
theorem ml_L_195 : Cond.methodLink RL 195 yX11_game ∈ zT := zT_in (zt8 (List.mem_of_getElem? (i := 81) rfl)) rfl
theorem mi_X11_game : Cond.instanceMethod yX11_game ∈ zT := zT_in (zt8 (List.mem_of_getElem? (i := 82) rfl)) rfl
theorem mx_X11_game : Cond.selects RX11 yX11_game yX11_game ∈ zT := zT_in (zt8 (List.mem_of_getElem? (i := 83) rfl)) rfl
theorem mc_X11_game : Cond.code yX11_game cX11_game 8 (some .int) ∈ zT := zT_in (zt8 (List.mem_of_getElem? (i := 84) rfl)) rfl
theorem ml_L_199 : Cond.methodLink RL 199 yX11_law ∈ zT := zT_in (zt8 (List.mem_of_getElem? (i := 85) rfl)) rfl
theorem mi_X11_law : Cond.instanceMethod yX11_law ∈ zT := zT_in (zt8 (List.mem_of_getElem? (i := 86) rfl)) rfl
theorem mx_X11_law : Cond.selects RX11 yX11_law yX11_law ∈ zT := zT_in (zt8 (List.mem_of_getElem? (i := 87) rfl)) rfl
theorem mc_X11_law : Cond.code yX11_law cX11_law 5 (some .int) ∈ zT := zT_in (zt8 (List.mem_of_getElem? (i := 88) rfl)) rfl
theorem ml_X11_429 : Cond.methodLink RX11 429 yX11_keptByAll ∈ zT := zT_in (zt8 (List.mem_of_getElem? (i := 89) rfl)) rfl
theorem mi_X11_keptByAll : Cond.instanceMethod yX11_keptByAll ∈ zT := zT_in (zt8 (List.mem_of_getElem? (i := 91) rfl)) rfl
theorem mc_X11_keptByAll : Cond.code yX11_keptByAll cX11_keptByAll 4 (some .int) ∈ zT := zT_in (zt8 (List.mem_of_getElem? (i := 92) rfl)) rfl
theorem ml_L_203 : Cond.methodLink RL 203 yX11_rests ∈ zT := zT_in (zt8 (List.mem_of_getElem? (i := 93) rfl)) rfl
theorem mi_X11_rests : Cond.instanceMethod yX11_rests ∈ zT := zT_in (zt8 (List.mem_of_getElem? (i := 94) rfl)) rfl
theorem mx_X11_rests : Cond.selects RX11 yX11_rests yX11_rests ∈ zT := zT_in (zt8 (List.mem_of_getElem? (i := 95) rfl)) rfl
theorem mc_X11_rests : Cond.code yX11_rests cX11_rests 5 (some .int) ∈ zT := zT_in (zt8 (List.mem_of_getElem? (i := 96) rfl)) rfl
theorem cl_X11_435 : Cond.constantLong RX11 435 (20) ∈ zT := zT_in (zt8 (List.mem_of_getElem? (i := 97) rfl)) rfl
theorem ml_X11_437 : Cond.methodLink RX11 437 yX11_isRest ∈ zT := zT_in (zt8 (List.mem_of_getElem? (i := 98) rfl)) rfl
theorem ms_X11_isRest : Cond.static yX11_isRest ∈ zT := zT_in (zt8 (List.mem_of_getElem? (i := 99) rfl)) rfl
theorem mc_X11_isRest : Cond.code yX11_isRest cX11_isRest 5 (some .boolean) ∈ zT := zT_in (zt8 (List.mem_of_getElem? (i := 100) rfl)) rfl
theorem ml_X11_432 : Cond.methodLink RX11 432 yX11_gets ∈ zT := zT_in (zt8 (List.mem_of_getElem? (i := 101) rfl)) rfl
theorem ms_X11_gets : Cond.static yX11_gets ∈ zT := zT_in (zt8 (List.mem_of_getElem? (i := 102) rfl)) rfl
theorem mc_X11_gets : Cond.code yX11_gets cX11_gets 3 (some .int) ∈ zT := zT_in (zt8 (List.mem_of_getElem? (i := 103) rfl)) rfl
theorem ml_L_207 : Cond.methodLink RL 207 yX11_years ∈ zT := zT_in (zt8 (List.mem_of_getElem? (i := 104) rfl)) rfl
theorem mi_X11_years : Cond.instanceMethod yX11_years ∈ zT := zT_in (zt8 (List.mem_of_getElem? (i := 105) rfl)) rfl
theorem mx_X11_years : Cond.selects RX11 yX11_years yX11_years ∈ zT := zT_in (zt8 (List.mem_of_getElem? (i := 106) rfl)) rfl
theorem mc_X11_years : Cond.code yX11_years cX11_years 8 (some .int) ∈ zT := zT_in (zt8 (List.mem_of_getElem? (i := 107) rfl)) rfl
theorem ml_X11_444 : Cond.methodLink RX11 444 yX11_copies ∈ zT := zT_in (zt8 (List.mem_of_getElem? (i := 108) rfl)) rfl
theorem mi_X11_copies : Cond.instanceMethod yX11_copies ∈ zT := zT_in (zt8 (List.mem_of_getElem? (i := 110) rfl)) rfl
theorem mc_X11_copies : Cond.code yX11_copies cX11_copies 2 none ∈ zT := zT_in (zt8 (List.mem_of_getElem? (i := 111) rfl)) rfl
theorem ml_X11_447 : Cond.methodLink RX11 447 yX11_draws ∈ zT := zT_in (zt8 (List.mem_of_getElem? (i := 112) rfl)) rfl
theorem mi_X11_draws : Cond.instanceMethod yX11_draws ∈ zT := zT_in (zt8 (List.mem_of_getElem? (i := 114) rfl)) rfl
theorem mc_X11_draws : Cond.code yX11_draws cX11_draws 2 (some .int) ∈ zT := zT_in (zt8 (List.mem_of_getElem? (i := 115) rfl)) rfl
theorem cn_X11_443 : Cond.constant RX11 443 (1103515245) ∈ zT := zT_in (zt8 (List.mem_of_getElem? (i := 116) rfl)) rfl
theorem ml_L_211 : Cond.methodLink RL 211 yX11_keep ∈ zT := zT_in (zt8 (List.mem_of_getElem? (i := 117) rfl)) rfl
theorem mi_X11_keep : Cond.instanceMethod yX11_keep ∈ zT := zT_in (zt8 (List.mem_of_getElem? (i := 118) rfl)) rfl
theorem mx_X11_keep : Cond.selects RX11 yX11_keep yX11_keep ∈ zT := zT_in (zt8 (List.mem_of_getElem? (i := 119) rfl)) rfl
theorem mc_X11_keep : Cond.code yX11_keep cX11_keep 3 (some .boolean) ∈ zT := zT_in (zt8 (List.mem_of_getElem? (i := 120) rfl)) rfl
theorem ml_L_215 : Cond.methodLink RL 215 yX11_again ∈ zT := zT_in (zt8 (List.mem_of_getElem? (i := 121) rfl)) rfl
theorem mi_X11_again : Cond.instanceMethod yX11_again ∈ zT := zT_in (zt8 (List.mem_of_getElem? (i := 122) rfl)) rfl
theorem mx_X11_again : Cond.selects RX11 yX11_again yX11_again ∈ zT := zT_in (zt8 (List.mem_of_getElem? (i := 123) rfl)) rfl
theorem mc_X11_again : Cond.code yX11_again cX11_again 3 (some .boolean) ∈ zT := zT_in (zt8 (List.mem_of_getElem? (i := 124) rfl)) rfl
theorem ml_L_219 : Cond.methodLink RL 219 yX11_count ∈ zT := zT_in (zt8 (List.mem_of_getElem? (i := 125) rfl)) rfl
theorem mi_X11_count : Cond.instanceMethod yX11_count ∈ zT := zT_in (zt8 (List.mem_of_getElem? (i := 126) rfl)) rfl
theorem mx_X11_count : Cond.selects RX11 yX11_count yX11_count ∈ zT := zT_in (zt8 (List.mem_of_getElem? (i := 127) rfl)) rfl
theorem mc_X11_count : Cond.code yX11_count cX11_count 2 (some .int) ∈ zT := zT_in (zt8 (List.mem_of_getElem? (i := 128) rfl)) rfl
theorem ml_L_223 : Cond.methodLink RL 223 yX11_row ∈ zT := zT_in (zt8 (List.mem_of_getElem? (i := 129) rfl)) rfl
theorem mi_X11_row : Cond.instanceMethod yX11_row ∈ zT := zT_in (zt8 (List.mem_of_getElem? (i := 130) rfl)) rfl
theorem mx_X11_row : Cond.selects RX11 yX11_row yX11_row ∈ zT := zT_in (zt8 (List.mem_of_getElem? (i := 131) rfl)) rfl
theorem mc_X11_row : Cond.code yX11_row cX11_row 2 (some .long) ∈ zT := zT_in (zt8 (List.mem_of_getElem? (i := 132) rfl)) rfl
theorem mx_X8_standsInLine : Cond.selects RX8 yX8_standsInLine yX8_standsInLine ∈ zT := zT_in (zs1 (q := (yX8_standsInLine, 2)) (zp1 (List.mem_of_getElem? (i := 0) rfl))) rfl
theorem mx_X6_takesThing : Cond.selects RX6 yX6_takesThing yX6_takesThing ∈ zT := zT_in (zs1 (q := (yX6_takesThing, 10)) (zp1 (List.mem_of_getElem? (i := 1) rfl))) rfl
theorem mx_X6_hold : Cond.selects RX6 yX6_hold yX6_hold ∈ zT := zT_in (zs1 (q := (yX6_hold, 10)) (zp1 (List.mem_of_getElem? (i := 2) rfl))) rfl
theorem mx_X6_emit : Cond.selects RX6 yX6_emit yX6_emit ∈ zT := zT_in (zs1 (q := (yX6_emit, 10)) (zp1 (List.mem_of_getElem? (i := 3) rfl))) rfl
theorem mx_X6_takesBehindThing : Cond.selects RX6 yX6_takesBehindThing yX6_takesBehindThing ∈ zT := zT_in (zs1 (q := (yX6_takesBehindThing, 10)) (zp1 (List.mem_of_getElem? (i := 4) rfl))) rfl
theorem mx_X6_takesDigit : Cond.selects RX6 yX6_takesDigit yX6_takesDigit ∈ zT := zT_in (zs1 (q := (yX6_takesDigit, 10)) (zp1 (List.mem_of_getElem? (i := 5) rfl))) rfl
theorem mx_X6_closes : Cond.selects RX6 yX6_closes yX6_closes ∈ zT := zT_in (zs1 (q := (yX6_closes, 10)) (zp1 (List.mem_of_getElem? (i := 6) rfl))) rfl
theorem mx_X6_release : Cond.selects RX6 yX6_release yX6_release ∈ zT := zT_in (zs1 (q := (yX6_release, 10)) (zp1 (List.mem_of_getElem? (i := 7) rfl))) rfl
theorem mx_X10_refusalOfCall : Cond.selects RX10 yX10_refusalOfCall yX10_refusalOfCall ∈ zT := zT_in (zs1 (q := (yX10_refusalOfCall, 13)) (zp1 (List.mem_of_getElem? (i := 8) rfl))) rfl
theorem mx_X2_leastOf : Cond.selects RX2 yX2_leastOf yX2_leastOf ∈ zT := zT_in (zs1 (q := (yX2_leastOf, 9)) (zp1 (List.mem_of_getElem? (i := 9) rfl))) rfl
theorem mx_X10_putLetters : Cond.selects RX10 yX10_putLetters yX10_putLetters ∈ zT := zT_in (zs1 (q := (yX10_putLetters, 13)) (zp1 (List.mem_of_getElem? (i := 10) rfl))) rfl
theorem mx_X6_valueOfThings : Cond.selects RX6 yX6_valueOfThings yX6_valueOfThings ∈ zT := zT_in (zs1 (q := (yX6_valueOfThings, 10)) (zp1 (List.mem_of_getElem? (i := 11) rfl))) rfl
theorem mx_X10_wearByEcho : Cond.selects RX10 yX10_wearByEcho yX10_wearByEcho ∈ zT := zT_in (zs1 (q := (yX10_wearByEcho, 13)) (zp1 (List.mem_of_getElem? (i := 12) rfl))) rfl
theorem mx_X10_passHours : Cond.selects RX10 yX10_passHours yX10_passHours ∈ zT := zT_in (zs1 (q := (yX10_passHours, 13)) (zp1 (List.mem_of_getElem? (i := 13) rfl))) rfl
theorem mx_X10_turnPassage : Cond.selects RX10 yX10_turnPassage yX10_turnPassage ∈ zT := zT_in (zs1 (q := (yX10_turnPassage, 13)) (zp1 (List.mem_of_getElem? (i := 14) rfl))) rfl
theorem mx_X10_digPassage : Cond.selects RX10 yX10_digPassage yX10_digPassage ∈ zT := zT_in (zs1 (q := (yX10_digPassage, 13)) (zp1 (List.mem_of_getElem? (i := 15) rfl))) rfl
theorem mx_X8_digitsOfAct : Cond.selects RX8 yX8_digitsOfAct yX8_digitsOfAct ∈ zT := zT_in (zs1 (q := (yX8_digitsOfAct, 2)) (zp2 (List.mem_of_getElem? (i := 0) rfl))) rfl
theorem mx_X10_doAct : Cond.selects RX10 yX10_doAct yX10_doAct ∈ zT := zT_in (zs1 (q := (yX10_doAct, 13)) (zp2 (List.mem_of_getElem? (i := 1) rfl))) rfl
theorem mx_X10_timesAmongImages : Cond.selects RX10 yX10_timesAmongImages yX10_timesAmongImages ∈ zT := zT_in (zs1 (q := (yX10_timesAmongImages, 13)) (zp2 (List.mem_of_getElem? (i := 2) rfl))) rfl
theorem mx_X10_firstImage : Cond.selects RX10 yX10_firstImage yX10_firstImage ∈ zT := zT_in (zs1 (q := (yX10_firstImage, 13)) (zp2 (List.mem_of_getElem? (i := 3) rfl))) rfl
theorem mx_X10_turnsIntoOther : Cond.selects RX10 yX10_turnsIntoOther yX10_turnsIntoOther ∈ zT := zT_in (zs1 (q := (yX10_turnsIntoOther, 13)) (zp2 (List.mem_of_getElem? (i := 4) rfl))) rfl
theorem mx_X10_putIfFirst : Cond.selects RX10 yX10_putIfFirst yX10_putIfFirst ∈ zT := zT_in (zs1 (q := (yX10_putIfFirst, 13)) (zp2 (List.mem_of_getElem? (i := 5) rfl))) rfl
theorem mx_X9_shorten : Cond.selects RX9 yX9_shorten yX9_shorten ∈ zT := zT_in (zs1 (q := (yX9_shorten, 3)) (zp2 (List.mem_of_getElem? (i := 6) rfl))) rfl
theorem mx_X10_joinedCount : Cond.selects RX10 yX10_joinedCount yX10_joinedCount ∈ zT := zT_in (zs1 (q := (yX10_joinedCount, 13)) (zp2 (List.mem_of_getElem? (i := 7) rfl))) rfl
theorem mx_X9_reached : Cond.selects RX9 yX9_reached yX9_reached ∈ zT := zT_in (zs1 (q := (yX9_reached, 3)) (zp2 (List.mem_of_getElem? (i := 8) rfl))) rfl
theorem mx_X9_minutesBy : Cond.selects RX9 yX9_minutesBy yX9_minutesBy ∈ zT := zT_in (zs1 (q := (yX9_minutesBy, 3)) (zp2 (List.mem_of_getElem? (i := 9) rfl))) rfl
theorem mx_X9_acrossOf : Cond.selects RX9 yX9_acrossOf yX9_acrossOf ∈ zT := zT_in (zs1 (q := (yX9_acrossOf, 3)) (zp2 (List.mem_of_getElem? (i := 10) rfl))) rfl
theorem mx_X1_fitsAll : Cond.selects RX1 yX1_fitsAll yX1_fitsAll ∈ zT := zT_in (zs1 (q := (yX1_fitsAll, 4)) (zp2 (List.mem_of_getElem? (i := 11) rfl))) rfl
theorem mx_X1_agrees : Cond.selects RX1 yX1_agrees yX1_agrees ∈ zT := zT_in (zs1 (q := (yX1_agrees, 4)) (zp2 (List.mem_of_getElem? (i := 12) rfl))) rfl
theorem mx_X3_fitsHeard : Cond.selects RX3 yX3_fitsHeard yX3_fitsHeard ∈ zT := zT_in (zs1 (q := (yX3_fitsHeard, 7)) (zp2 (List.mem_of_getElem? (i := 13) rfl))) rfl
theorem mx_X10_goodMoves : Cond.selects RX10 yX10_goodMoves yX10_goodMoves ∈ zT := zT_in (zs1 (q := (yX10_goodMoves, 13)) (zp2 (List.mem_of_getElem? (i := 14) rfl))) rfl
theorem mx_X10_keptBy : Cond.selects RX10 yX10_keptBy yX10_keptBy ∈ zT := zT_in (zs1 (q := (yX10_keptBy, 13)) (zp2 (List.mem_of_getElem? (i := 15) rfl))) rfl
theorem mx_X10_liveYear : Cond.selects RX10 yX10_liveYear yX10_liveYear ∈ zT := zT_in (zs1 (q := (yX10_liveYear, 13)) (zp3 (List.mem_of_getElem? (i := 0) rfl))) rfl
theorem mx_X10_draw : Cond.selects RX10 yX10_draw yX10_draw ∈ zT := zT_in (zs1 (q := (yX10_draw, 13)) (zp3 (List.mem_of_getElem? (i := 1) rfl))) rfl
theorem mx_X11_begins : Cond.selects RX11 yX11_begins yX11_begins ∈ zT := zT_in (zs1 (q := (yX11_begins, 54)) (zp3 (List.mem_of_getElem? (i := 3) rfl))) rfl
theorem mx_X11_readsPassage : Cond.selects RX11 yX11_readsPassage yX11_readsPassage ∈ zT := zT_in (zs1 (q := (yX11_readsPassage, 54)) (zp3 (List.mem_of_getElem? (i := 4) rfl))) rfl
theorem mx_X11_digitIn : Cond.selects RX11 yX11_digitIn yX11_digitIn ∈ zT := zT_in (zs1 (q := (yX11_digitIn, 54)) (zp3 (List.mem_of_getElem? (i := 5) rfl))) rfl
theorem mx_X11_number : Cond.selects RX11 yX11_number yX11_number ∈ zT := zT_in (zs1 (q := (yX11_number, 54)) (zp3 (List.mem_of_getElem? (i := 6) rfl))) rfl
theorem mx_X11_isDigit : Cond.selects RX11 yX11_isDigit yX11_isDigit ∈ zT := zT_in (zs1 (q := (yX11_isDigit, 54)) (zp3 (List.mem_of_getElem? (i := 7) rfl))) rfl
theorem mx_X11_takes : Cond.selects RX11 yX11_takes yX11_takes ∈ zT := zT_in (zs1 (q := (yX11_takes, 54)) (zp3 (List.mem_of_getElem? (i := 8) rfl))) rfl
theorem mx_X11_faultOf : Cond.selects RX11 yX11_faultOf yX11_faultOf ∈ zT := zT_in (zs1 (q := (yX11_faultOf, 54)) (zp3 (List.mem_of_getElem? (i := 9) rfl))) rfl
theorem mx_X11_readsRule : Cond.selects RX11 yX11_readsRule yX11_readsRule ∈ zT := zT_in (zs1 (q := (yX11_readsRule, 54)) (zp3 (List.mem_of_getElem? (i := 10) rfl))) rfl
theorem mx_X11_readsRank : Cond.selects RX11 yX11_readsRank yX11_readsRank ∈ zT := zT_in (zs1 (q := (yX11_readsRank, 54)) (zp3 (List.mem_of_getElem? (i := 11) rfl))) rfl
theorem mx_X11_readsThing : Cond.selects RX11 yX11_readsThing yX11_readsThing ∈ zT := zT_in (zs1 (q := (yX11_readsThing, 54)) (zp3 (List.mem_of_getElem? (i := 12) rfl))) rfl
theorem mx_X11_codes : Cond.selects RX11 yX11_codes yX11_codes ∈ zT := zT_in (zs1 (q := (yX11_codes, 54)) (zp3 (List.mem_of_getElem? (i := 13) rfl))) rfl
theorem mx_X11_takesOf : Cond.selects RX11 yX11_takesOf yX11_takesOf ∈ zT := zT_in (zs1 (q := (yX11_takesOf, 54)) (zp3 (List.mem_of_getElem? (i := 14) rfl))) rfl
theorem mx_X11_laysCode : Cond.selects RX11 yX11_laysCode yX11_laysCode ∈ zT := zT_in (zs1 (q := (yX11_laysCode, 54)) (zp3 (List.mem_of_getElem? (i := 15) rfl))) rfl
theorem mx_X11_isPassage : Cond.selects RX11 yX11_isPassage yX11_isPassage ∈ zT := zT_in (zs1 (q := (yX11_isPassage, 54)) (zp4 (List.mem_of_getElem? (i := 0) rfl))) rfl
theorem mx_X11_refuse : Cond.selects RX11 yX11_refuse yX11_refuse ∈ zT := zT_in (zs1 (q := (yX11_refuse, 54)) (zp4 (List.mem_of_getElem? (i := 1) rfl))) rfl
theorem mx_X11_laysFar : Cond.selects RX11 yX11_laysFar yX11_laysFar ∈ zT := zT_in (zs1 (q := (yX11_laysFar, 54)) (zp4 (List.mem_of_getElem? (i := 2) rfl))) rfl
theorem mx_X11_openOf : Cond.selects RX11 yX11_openOf yX11_openOf ∈ zT := zT_in (zs1 (q := (yX11_openOf, 54)) (zp4 (List.mem_of_getElem? (i := 3) rfl))) rfl
theorem mx_X11_isEnd : Cond.selects RX11 yX11_isEnd yX11_isEnd ∈ zT := zT_in (zs1 (q := (yX11_isEnd, 54)) (zp4 (List.mem_of_getElem? (i := 4) rfl))) rfl
theorem mx_X11_joinedTo : Cond.selects RX11 yX11_joinedTo yX11_joinedTo ∈ zT := zT_in (zs1 (q := (yX11_joinedTo, 54)) (zp4 (List.mem_of_getElem? (i := 5) rfl))) rfl
theorem mx_X11_areJoined : Cond.selects RX11 yX11_areJoined yX11_areJoined ∈ zT := zT_in (zs1 (q := (yX11_areJoined, 54)) (zp4 (List.mem_of_getElem? (i := 6) rfl))) rfl
theorem mx_X11_farOf : Cond.selects RX11 yX11_farOf yX11_farOf ∈ zT := zT_in (zs1 (q := (yX11_farOf, 54)) (zp4 (List.mem_of_getElem? (i := 7) rfl))) rfl
theorem mx_X11_farthest : Cond.selects RX11 yX11_farthest yX11_farthest ∈ zT := zT_in (zs1 (q := (yX11_farthest, 54)) (zp4 (List.mem_of_getElem? (i := 8) rfl))) rfl
theorem mx_X11_sumOf : Cond.selects RX11 yX11_sumOf yX11_sumOf ∈ zT := zT_in (zs1 (q := (yX11_sumOf, 54)) (zp4 (List.mem_of_getElem? (i := 9) rfl))) rfl
theorem mx_X11_readsCall : Cond.selects RX11 yX11_readsCall yX11_readsCall ∈ zT := zT_in (zs1 (q := (yX11_readsCall, 54)) (zp4 (List.mem_of_getElem? (i := 10) rfl))) rfl
theorem mx_X11_isEcho : Cond.selects RX11 yX11_isEcho yX11_isEcho ∈ zT := zT_in (zs1 (q := (yX11_isEcho, 54)) (zp4 (List.mem_of_getElem? (i := 11) rfl))) rfl
theorem mx_X11_readsLetters : Cond.selects RX11 yX11_readsLetters yX11_readsLetters ∈ zT := zT_in (zs1 (q := (yX11_readsLetters, 54)) (zp4 (List.mem_of_getElem? (i := 12) rfl))) rfl
theorem mx_X11_isLetter : Cond.selects RX11 yX11_isLetter yX11_isLetter ∈ zT := zT_in (zs1 (q := (yX11_isLetter, 54)) (zp4 (List.mem_of_getElem? (i := 13) rfl))) rfl
theorem mx_X11_laysEcho : Cond.selects RX11 yX11_laysEcho yX11_laysEcho ∈ zT := zT_in (zs1 (q := (yX11_laysEcho, 54)) (zp4 (List.mem_of_getElem? (i := 14) rfl))) rfl
theorem mx_X11_beyond : Cond.selects RX11 yX11_beyond yX11_beyond ∈ zT := zT_in (zs1 (q := (yX11_beyond, 54)) (zp4 (List.mem_of_getElem? (i := 15) rfl))) rfl
theorem mx_X11_enters : Cond.selects RX11 yX11_enters yX11_enters ∈ zT := zT_in (zs1 (q := (yX11_enters, 54)) (zp5 (List.mem_of_getElem? (i := 0) rfl))) rfl
theorem mx_X11_comesOut : Cond.selects RX11 yX11_comesOut yX11_comesOut ∈ zT := zT_in (zs1 (q := (yX11_comesOut, 54)) (zp5 (List.mem_of_getElem? (i := 1) rfl))) rfl
theorem mx_X11_becomesBy : Cond.selects RX11 yX11_becomesBy yX11_becomesBy ∈ zT := zT_in (zs1 (q := (yX11_becomesBy, 54)) (zp5 (List.mem_of_getElem? (i := 2) rfl))) rfl
theorem mx_X11_ruled : Cond.selects RX11 yX11_ruled yX11_ruled ∈ zT := zT_in (zs1 (q := (yX11_ruled, 54)) (zp5 (List.mem_of_getElem? (i := 3) rfl))) rfl
theorem mx_X11_putsBy : Cond.selects RX11 yX11_putsBy yX11_putsBy ∈ zT := zT_in (zs1 (q := (yX11_putsBy, 54)) (zp5 (List.mem_of_getElem? (i := 4) rfl))) rfl
theorem mx_X11_wears : Cond.selects RX11 yX11_wears yX11_wears ∈ zT := zT_in (zs1 (q := (yX11_wears, 54)) (zp5 (List.mem_of_getElem? (i := 5) rfl))) rfl
theorem mx_X11_adds : Cond.selects RX11 yX11_adds yX11_adds ∈ zT := zT_in (zs1 (q := (yX11_adds, 54)) (zp5 (List.mem_of_getElem? (i := 6) rfl))) rfl
theorem mx_X11_hoursGo : Cond.selects RX11 yX11_hoursGo yX11_hoursGo ∈ zT := zT_in (zs1 (q := (yX11_hoursGo, 54)) (zp5 (List.mem_of_getElem? (i := 7) rfl))) rfl
theorem mx_X11_fallsOne : Cond.selects RX11 yX11_fallsOne yX11_fallsOne ∈ zT := zT_in (zs1 (q := (yX11_fallsOne, 54)) (zp5 (List.mem_of_getElem? (i := 8) rfl))) rfl
theorem mx_X11_counted : Cond.selects RX11 yX11_counted yX11_counted ∈ zT := zT_in (zs1 (q := (yX11_counted, 54)) (zp5 (List.mem_of_getElem? (i := 9) rfl))) rfl
theorem mx_X11_digsOne : Cond.selects RX11 yX11_digsOne yX11_digsOne ∈ zT := zT_in (zs1 (q := (yX11_digsOne, 54)) (zp5 (List.mem_of_getElem? (i := 10) rfl))) rfl
theorem mx_X11_readsAct : Cond.selects RX11 yX11_readsAct yX11_readsAct ∈ zT := zT_in (zs1 (q := (yX11_readsAct, 54)) (zp5 (List.mem_of_getElem? (i := 11) rfl))) rfl
theorem mx_X11_does : Cond.selects RX11 yX11_does yX11_does ∈ zT := zT_in (zs1 (q := (yX11_does, 54)) (zp5 (List.mem_of_getElem? (i := 12) rfl))) rfl
theorem mx_X11_kept : Cond.selects RX11 yX11_kept yX11_kept ∈ zT := zT_in (zs1 (q := (yX11_kept, 54)) (zp5 (List.mem_of_getElem? (i := 13) rfl))) rfl
theorem mx_X11_withPassages : Cond.selects RX11 yX11_withPassages yX11_withPassages ∈ zT := zT_in (zs1 (q := (yX11_withPassages, 54)) (zp5 (List.mem_of_getElem? (i := 14) rfl))) rfl
theorem mx_X11_fitting : Cond.selects RX11 yX11_fitting yX11_fitting ∈ zT := zT_in (zs1 (q := (yX11_fitting, 54)) (zp5 (List.mem_of_getElem? (i := 15) rfl))) rfl
theorem mx_X11_isSo : Cond.selects RX11 yX11_isSo yX11_isSo ∈ zT := zT_in (zs1 (q := (yX11_isSo, 54)) (zp6 (List.mem_of_getElem? (i := 0) rfl))) rfl
theorem mx_X11_isLaw : Cond.selects RX11 yX11_isLaw yX11_isLaw ∈ zT := zT_in (zs1 (q := (yX11_isLaw, 54)) (zp6 (List.mem_of_getElem? (i := 1) rfl))) rfl
theorem mx_X11_keptByAll : Cond.selects RX11 yX11_keptByAll yX11_keptByAll ∈ zT := zT_in (zs1 (q := (yX11_keptByAll, 54)) (zp6 (List.mem_of_getElem? (i := 2) rfl))) rfl
theorem mx_X11_copies : Cond.selects RX11 yX11_copies yX11_copies ∈ zT := zT_in (zs1 (q := (yX11_copies, 54)) (zp6 (List.mem_of_getElem? (i := 3) rfl))) rfl
theorem mx_X11_draws : Cond.selects RX11 yX11_draws yX11_draws ∈ zT := zT_in (zs1 (q := (yX11_draws, 54)) (zp6 (List.mem_of_getElem? (i := 4) rfl))) rfl
theorem fj_38 : Cond.fieldLink RJ0 38 "java/lang/String" "COMPACT_STRINGS" "Z" ∈ zT := zT_in (zt2 (List.mem_of_getElem? (i := 190) rfl)) rfl
theorem fj_1053 : Cond.fieldLink RJ0 1053 "jdk/internal/util/Preconditions" "SIOOBE_FORMATTER" "Ljava/util/function/BiFunction;" ∈ zT := zT_in (zt2 (List.mem_of_getElem? (i := 231) rfl)) rfl
theorem fj_9 : Cond.fieldLink RJ0 9 "java/lang/String" "value" "[B" ∈ zT := zT_in (zt8 (List.mem_of_getElem? (i := 150) rfl)) rfl
theorem fj_15 : Cond.fieldLink RJ0 15 "java/lang/String" "coder" "B" ∈ zT := zT_in (zt8 (List.mem_of_getElem? (i := 149) rfl)) rfl
theorem zmin_s : Cond.static Lib.Math.min.name ∈ zT := zT_in (zt2 (List.mem_of_getElem? (i := 137) rfl)) rfl
theorem zmax_s : Cond.static Lib.Math.max.name ∈ zT := zT_in (zt2 (List.mem_of_getElem? (i := 207) rfl)) rfl
theorem zmin_c : Cond.code Lib.Math.min.name Lib.Math.min.code 2 (some .int) ∈ zT := zT_in (zt2 (List.mem_of_getElem? (i := 138) rfl)) rfl
theorem zmax_c : Cond.code Lib.Math.max.name Lib.Math.max.code 2 (some .int) ∈ zT := zT_in (zt2 (List.mem_of_getElem? (i := 208) rfl)) rfl
theorem zcpy_n : Cond.native arraycopyName ∈ zT := zT_in (zt3 (List.mem_of_getElem? (i := 130) rfl)) rfl
theorem zcpy_s : Cond.static arraycopyName ∈ zT := zT_in (zt3 (List.mem_of_getElem? (i := 129) rfl)) rfl
theorem zcpy_i : Cond.initialized "java/lang/System" ∈ zT := zT_in (zt1 (List.mem_of_getElem? (i := 24) rfl)) rfl
theorem ml_X7_31 : Cond.methodLink RX7 31 arraycopyName ∈ zT := zT_in (zt3 (List.mem_of_getElem? (i := 128) rfl)) rfl
theorem ml_X2_103 : Cond.methodLink RX2 103 arraycopyName ∈ zT := zT_in (zt5 (List.mem_of_getElem? (i := 42) rfl)) rfl
theorem zo_0 : zO 10 0 := ⟨by decide +kernel, by decide⟩
theorem zr_0_0 : zr 0 0 = 1 := by decide +kernel
theorem zr_0_1 : zr 0 1 = 3 := by decide +kernel
theorem zr_0_2 : zr 0 2 = 10 := by decide +kernel
theorem zr_0_3 : zr 0 3 = 12 := by decide +kernel
theorem zr_0_4 : zr 0 4 = 92 := by decide +kernel
theorem zr_0_5 : zr 0 5 = 98 := by decide +kernel
theorem zr_0_6 : zr 0 6 = 101 := by decide +kernel
theorem zr_0_7 : zr 0 7 = 104 := by decide +kernel
theorem zr_0_10 : zr 0 10 = 120 := by decide +kernel
theorem zr_0_11 : zr 0 11 = 121 := by decide +kernel
theorem zo_1 : zO 8 1 := ⟨by decide +kernel, by decide⟩
theorem zr_1_0 : zr 1 0 = 2 := by decide +kernel
theorem zb_2 : zB 13 80 2 := ⟨by decide +kernel, by decide, by decide +kernel⟩
theorem zo_3 : zO 0 3 := ⟨by decide +kernel, by decide⟩
theorem zr_3_0 : zr 3 0 = 4 := by decide +kernel
theorem zr_3_1 : zr 3 1 = 5 := by decide +kernel
theorem zr_3_3 : zr 3 3 = 6 := by decide +kernel
theorem zb_4 : zB 12 12 4 := ⟨by decide +kernel, by decide, by decide +kernel⟩
theorem zb_5 : zB 12 12 5 := ⟨by decide +kernel, by decide, by decide +kernel⟩
theorem zo_6 : zO 7 6 := ⟨by decide +kernel, by decide⟩
theorem zr_6_0 : zr 6 0 = 7 := by decide +kernel
theorem zr_6_1 : zr 6 1 = 8 := by decide +kernel
theorem zr_6_2 : zr 6 2 = 9 := by decide +kernel
theorem zb_7 : zB 12 12 7 := ⟨by decide +kernel, by decide, by decide +kernel⟩
theorem zb_8 : zB 12 12 8 := ⟨by decide +kernel, by decide, by decide +kernel⟩
theorem zb_9 : zB 12 12 9 := ⟨by decide +kernel, by decide, by decide +kernel⟩
theorem zo_10 : zO 5 10 := ⟨by decide +kernel, by decide⟩
theorem zr_10_0 : zr 10 0 = 11 := by decide +kernel
theorem zb_11 : zB 14 16 11 := ⟨by decide +kernel, by decide, by decide +kernel⟩
theorem zo_12 : zO 4 12 := ⟨by decide +kernel, by decide⟩
theorem zr_12_0 : zr 12 0 = 13 := by decide +kernel
theorem zr_12_3 : zr 12 3 = 78 := by decide +kernel
theorem zr_12_4 : zr 12 4 = 91 := by decide +kernel
theorem zb_13 : zB 16 16 13 := ⟨by decide +kernel, by decide, by decide +kernel⟩
theorem zo_14 : zO 7 14 := ⟨by decide +kernel, by decide⟩
theorem zr_14_0 : zr 14 0 = 15 := by decide +kernel
theorem zr_14_1 : zr 14 1 = 16 := by decide +kernel
theorem zr_14_2 : zr 14 2 = 17 := by decide +kernel
theorem zb_15 : zB 12 12 15 := ⟨by decide +kernel, by decide, by decide +kernel⟩
theorem zb_16 : zB 12 12 16 := ⟨by decide +kernel, by decide, by decide +kernel⟩
theorem zb_17 : zB 12 12 17 := ⟨by decide +kernel, by decide, by decide +kernel⟩
theorem zo_18 : zO 7 18 := ⟨by decide +kernel, by decide⟩
theorem zr_18_0 : zr 18 0 = 19 := by decide +kernel
theorem zr_18_1 : zr 18 1 = 20 := by decide +kernel
theorem zr_18_2 : zr 18 2 = 21 := by decide +kernel
theorem zb_19 : zB 12 12 19 := ⟨by decide +kernel, by decide, by decide +kernel⟩
theorem zb_20 : zB 12 12 20 := ⟨by decide +kernel, by decide, by decide +kernel⟩
theorem zb_21 : zB 12 12 21 := ⟨by decide +kernel, by decide, by decide +kernel⟩
theorem zo_22 : zO 7 22 := ⟨by decide +kernel, by decide⟩
theorem zr_22_0 : zr 22 0 = 23 := by decide +kernel
theorem zr_22_1 : zr 22 1 = 24 := by decide +kernel
theorem zr_22_2 : zr 22 2 = 25 := by decide +kernel
theorem zb_23 : zB 12 12 23 := ⟨by decide +kernel, by decide, by decide +kernel⟩
theorem zb_24 : zB 12 12 24 := ⟨by decide +kernel, by decide, by decide +kernel⟩
theorem zb_25 : zB 12 12 25 := ⟨by decide +kernel, by decide, by decide +kernel⟩
theorem zo_26 : zO 7 26 := ⟨by decide +kernel, by decide⟩
theorem zr_26_0 : zr 26 0 = 27 := by decide +kernel
theorem zr_26_1 : zr 26 1 = 28 := by decide +kernel
theorem zr_26_2 : zr 26 2 = 29 := by decide +kernel
theorem zb_27 : zB 12 12 27 := ⟨by decide +kernel, by decide, by decide +kernel⟩
theorem zb_28 : zB 12 12 28 := ⟨by decide +kernel, by decide, by decide +kernel⟩
theorem zb_29 : zB 12 12 29 := ⟨by decide +kernel, by decide, by decide +kernel⟩
theorem zo_30 : zO 7 30 := ⟨by decide +kernel, by decide⟩
theorem zr_30_0 : zr 30 0 = 31 := by decide +kernel
theorem zr_30_1 : zr 30 1 = 32 := by decide +kernel
theorem zr_30_2 : zr 30 2 = 33 := by decide +kernel
theorem zb_31 : zB 12 12 31 := ⟨by decide +kernel, by decide, by decide +kernel⟩
theorem zb_32 : zB 12 12 32 := ⟨by decide +kernel, by decide, by decide +kernel⟩
theorem zb_33 : zB 12 12 33 := ⟨by decide +kernel, by decide, by decide +kernel⟩
theorem zo_34 : zO 7 34 := ⟨by decide +kernel, by decide⟩
theorem zr_34_0 : zr 34 0 = 35 := by decide +kernel
theorem zr_34_1 : zr 34 1 = 36 := by decide +kernel
theorem zr_34_2 : zr 34 2 = 37 := by decide +kernel
theorem zb_35 : zB 12 12 35 := ⟨by decide +kernel, by decide, by decide +kernel⟩
theorem zb_36 : zB 12 12 36 := ⟨by decide +kernel, by decide, by decide +kernel⟩
theorem zb_37 : zB 12 12 37 := ⟨by decide +kernel, by decide, by decide +kernel⟩
theorem zo_38 : zO 7 38 := ⟨by decide +kernel, by decide⟩
theorem zr_38_0 : zr 38 0 = 39 := by decide +kernel
theorem zr_38_1 : zr 38 1 = 40 := by decide +kernel
theorem zr_38_2 : zr 38 2 = 41 := by decide +kernel
theorem zb_39 : zB 12 12 39 := ⟨by decide +kernel, by decide, by decide +kernel⟩
theorem zb_40 : zB 12 12 40 := ⟨by decide +kernel, by decide, by decide +kernel⟩
theorem zb_41 : zB 12 12 41 := ⟨by decide +kernel, by decide, by decide +kernel⟩
theorem zo_42 : zO 7 42 := ⟨by decide +kernel, by decide⟩
theorem zr_42_0 : zr 42 0 = 43 := by decide +kernel
theorem zr_42_1 : zr 42 1 = 44 := by decide +kernel
theorem zr_42_2 : zr 42 2 = 45 := by decide +kernel
theorem zb_43 : zB 12 12 43 := ⟨by decide +kernel, by decide, by decide +kernel⟩
theorem zb_44 : zB 12 12 44 := ⟨by decide +kernel, by decide, by decide +kernel⟩
theorem zb_45 : zB 12 12 45 := ⟨by decide +kernel, by decide, by decide +kernel⟩
theorem zo_46 : zO 7 46 := ⟨by decide +kernel, by decide⟩
theorem zr_46_0 : zr 46 0 = 47 := by decide +kernel
theorem zr_46_1 : zr 46 1 = 48 := by decide +kernel
theorem zr_46_2 : zr 46 2 = 49 := by decide +kernel
theorem zb_47 : zB 12 12 47 := ⟨by decide +kernel, by decide, by decide +kernel⟩
theorem zb_48 : zB 12 12 48 := ⟨by decide +kernel, by decide, by decide +kernel⟩
theorem zb_49 : zB 12 12 49 := ⟨by decide +kernel, by decide, by decide +kernel⟩
theorem zo_50 : zO 7 50 := ⟨by decide +kernel, by decide⟩
theorem zr_50_0 : zr 50 0 = 51 := by decide +kernel
theorem zr_50_1 : zr 50 1 = 52 := by decide +kernel
theorem zr_50_2 : zr 50 2 = 53 := by decide +kernel
theorem zb_51 : zB 12 12 51 := ⟨by decide +kernel, by decide, by decide +kernel⟩
theorem zb_52 : zB 12 12 52 := ⟨by decide +kernel, by decide, by decide +kernel⟩
theorem zb_53 : zB 12 12 53 := ⟨by decide +kernel, by decide, by decide +kernel⟩
theorem zo_54 : zO 7 54 := ⟨by decide +kernel, by decide⟩
theorem zr_54_0 : zr 54 0 = 55 := by decide +kernel
theorem zr_54_1 : zr 54 1 = 56 := by decide +kernel
theorem zr_54_2 : zr 54 2 = 57 := by decide +kernel
theorem zb_55 : zB 12 12 55 := ⟨by decide +kernel, by decide, by decide +kernel⟩
theorem zb_56 : zB 12 12 56 := ⟨by decide +kernel, by decide, by decide +kernel⟩
theorem zb_57 : zB 12 12 57 := ⟨by decide +kernel, by decide, by decide +kernel⟩
theorem zo_58 : zO 7 58 := ⟨by decide +kernel, by decide⟩
theorem zr_58_0 : zr 58 0 = 59 := by decide +kernel
theorem zr_58_1 : zr 58 1 = 60 := by decide +kernel
theorem zr_58_2 : zr 58 2 = 61 := by decide +kernel
theorem zb_59 : zB 12 12 59 := ⟨by decide +kernel, by decide, by decide +kernel⟩
theorem zb_60 : zB 12 12 60 := ⟨by decide +kernel, by decide, by decide +kernel⟩
theorem zb_61 : zB 12 12 61 := ⟨by decide +kernel, by decide, by decide +kernel⟩
theorem zo_62 : zO 7 62 := ⟨by decide +kernel, by decide⟩
theorem zr_62_0 : zr 62 0 = 63 := by decide +kernel
theorem zr_62_1 : zr 62 1 = 64 := by decide +kernel
theorem zr_62_2 : zr 62 2 = 65 := by decide +kernel
theorem zb_63 : zB 12 12 63 := ⟨by decide +kernel, by decide, by decide +kernel⟩
theorem zb_64 : zB 12 12 64 := ⟨by decide +kernel, by decide, by decide +kernel⟩
theorem zb_65 : zB 12 12 65 := ⟨by decide +kernel, by decide, by decide +kernel⟩
theorem zo_66 : zO 7 66 := ⟨by decide +kernel, by decide⟩
theorem zr_66_0 : zr 66 0 = 67 := by decide +kernel
theorem zr_66_1 : zr 66 1 = 68 := by decide +kernel
theorem zr_66_2 : zr 66 2 = 69 := by decide +kernel
theorem zb_67 : zB 12 12 67 := ⟨by decide +kernel, by decide, by decide +kernel⟩
theorem zb_68 : zB 12 12 68 := ⟨by decide +kernel, by decide, by decide +kernel⟩
theorem zb_69 : zB 12 12 69 := ⟨by decide +kernel, by decide, by decide +kernel⟩
theorem zo_70 : zO 7 70 := ⟨by decide +kernel, by decide⟩
theorem zr_70_0 : zr 70 0 = 71 := by decide +kernel
theorem zr_70_1 : zr 70 1 = 72 := by decide +kernel
theorem zr_70_2 : zr 70 2 = 73 := by decide +kernel
theorem zb_71 : zB 12 12 71 := ⟨by decide +kernel, by decide, by decide +kernel⟩
theorem zb_72 : zB 12 12 72 := ⟨by decide +kernel, by decide, by decide +kernel⟩
theorem zb_73 : zB 12 12 73 := ⟨by decide +kernel, by decide, by decide +kernel⟩
theorem zo_74 : zO 7 74 := ⟨by decide +kernel, by decide⟩
theorem zr_74_0 : zr 74 0 = 75 := by decide +kernel
theorem zr_74_1 : zr 74 1 = 76 := by decide +kernel
theorem zr_74_2 : zr 74 2 = 77 := by decide +kernel
theorem zb_75 : zB 12 12 75 := ⟨by decide +kernel, by decide, by decide +kernel⟩
theorem zb_76 : zB 12 12 76 := ⟨by decide +kernel, by decide, by decide +kernel⟩
theorem zb_77 : zB 12 12 77 := ⟨by decide +kernel, by decide, by decide +kernel⟩
theorem zb_78 : zB 16 3 78 := ⟨by decide +kernel, by decide, by decide +kernel⟩
theorem zo_79 : zO 7 79 := ⟨by decide +kernel, by decide⟩
theorem zr_79_0 : zr 79 0 = 80 := by decide +kernel
theorem zr_79_1 : zr 79 1 = 81 := by decide +kernel
theorem zr_79_2 : zr 79 2 = 82 := by decide +kernel
theorem zb_80 : zB 12 12 80 := ⟨by decide +kernel, by decide, by decide +kernel⟩
theorem zb_81 : zB 12 12 81 := ⟨by decide +kernel, by decide, by decide +kernel⟩
theorem zb_82 : zB 12 12 82 := ⟨by decide +kernel, by decide, by decide +kernel⟩
theorem zo_83 : zO 7 83 := ⟨by decide +kernel, by decide⟩
theorem zr_83_0 : zr 83 0 = 84 := by decide +kernel
theorem zr_83_1 : zr 83 1 = 85 := by decide +kernel
theorem zr_83_2 : zr 83 2 = 86 := by decide +kernel
theorem zb_84 : zB 12 12 84 := ⟨by decide +kernel, by decide, by decide +kernel⟩
theorem zb_85 : zB 12 12 85 := ⟨by decide +kernel, by decide, by decide +kernel⟩
theorem zb_86 : zB 12 12 86 := ⟨by decide +kernel, by decide, by decide +kernel⟩
theorem zo_87 : zO 7 87 := ⟨by decide +kernel, by decide⟩
theorem zr_87_0 : zr 87 0 = 88 := by decide +kernel
theorem zr_87_1 : zr 87 1 = 89 := by decide +kernel
theorem zr_87_2 : zr 87 2 = 90 := by decide +kernel
theorem zb_88 : zB 12 12 88 := ⟨by decide +kernel, by decide, by decide +kernel⟩
theorem zb_89 : zB 12 12 89 := ⟨by decide +kernel, by decide, by decide +kernel⟩
theorem zb_90 : zB 12 12 90 := ⟨by decide +kernel, by decide, by decide +kernel⟩
theorem zb_91 : zB 15 3 91 := ⟨by decide +kernel, by decide, by decide +kernel⟩
theorem zo_92 : zO 2 92 := ⟨by decide +kernel, by decide⟩
theorem zr_92_0 : zr 92 0 = 3 := by decide +kernel
theorem zr_92_1 : zr 92 1 = 93 := by decide +kernel
theorem zr_92_2 : zr 92 2 = 94 := by decide +kernel
theorem zr_92_6 : zr 92 6 = 95 := by decide +kernel
theorem zr_92_7 : zr 92 7 = 96 := by decide +kernel
theorem zr_92_8 : zr 92 8 = 97 := by decide +kernel
theorem zb_93 : zB 12 12 93 := ⟨by decide +kernel, by decide, by decide +kernel⟩
theorem zb_94 : zB 12 12 94 := ⟨by decide +kernel, by decide, by decide +kernel⟩
theorem zb_95 : zB 12 192 95 := ⟨by decide +kernel, by decide, by decide +kernel⟩
theorem zb_96 : zB 14 8 96 := ⟨by decide +kernel, by decide, by decide +kernel⟩
theorem zb_97 : zB 14 8 97 := ⟨by decide +kernel, by decide, by decide +kernel⟩
theorem zo_98 : zO 9 98 := ⟨by decide +kernel, by decide⟩
theorem zr_98_0 : zr 98 0 = 3 := by decide +kernel
theorem zr_98_1 : zr 98 1 = 99 := by decide +kernel
theorem zr_98_2 : zr 98 2 = 100 := by decide +kernel
theorem zb_99 : zB 12 64 99 := ⟨by decide +kernel, by decide, by decide +kernel⟩
theorem zb_100 : zB 12 2048 100 := ⟨by decide +kernel, by decide, by decide +kernel⟩
theorem zo_101 : zO 1 101 := ⟨by decide +kernel, by decide⟩
theorem zr_101_0 : zr 101 0 = 3 := by decide +kernel
theorem zr_101_1 : zr 101 1 = 102 := by decide +kernel
theorem zr_101_2 : zr 101 2 = 103 := by decide +kernel
theorem zb_102 : zB 12 12 102 := ⟨by decide +kernel, by decide, by decide +kernel⟩
theorem zb_103 : zB 12 12 103 := ⟨by decide +kernel, by decide, by decide +kernel⟩
theorem zo_104 : zO 3 104 := ⟨by decide +kernel, by decide⟩
theorem zr_104_0 : zr 104 0 = 105 := by decide +kernel
theorem zr_104_1 : zr 104 1 = 106 := by decide +kernel
theorem zr_104_2 : zr 104 2 = 107 := by decide +kernel
theorem zr_104_4 : zr 104 4 = 108 := by decide +kernel
theorem zr_104_6 : zr 104 6 = 109 := by decide +kernel
theorem zb_105 : zB 12 10 105 := ⟨by decide +kernel, by decide, by decide +kernel⟩
theorem zb_106 : zB 12 10 106 := ⟨by decide +kernel, by decide, by decide +kernel⟩
theorem zb_107 : zB 12 10 107 := ⟨by decide +kernel, by decide, by decide +kernel⟩
theorem zb_108 : zB 12 64 108 := ⟨by decide +kernel, by decide, by decide +kernel⟩
theorem zb_109 : zB 12 8 109 := ⟨by decide +kernel, by decide, by decide +kernel⟩
theorem zo_110 : zO 6 110 := ⟨by decide +kernel, by decide⟩
theorem zr_110_0 : zr 110 0 = 111 := by decide +kernel
theorem zr_110_2 : zr 110 2 = 112 := by decide +kernel
theorem zr_110_8 : zr 110 8 = 113 := by decide +kernel
theorem zr_110_9 : zr 110 9 = 114 := by decide +kernel
theorem zb_111 : zB 12 40 111 := ⟨by decide +kernel, by decide, by decide +kernel⟩
theorem zb_112 : zB 13 40 112 := ⟨by decide +kernel, by decide, by decide +kernel⟩
theorem zb_113 : zB 12 7 113 := ⟨by decide +kernel, by decide, by decide +kernel⟩
theorem zb_114 : zB 12 40 114 := ⟨by decide +kernel, by decide, by decide +kernel⟩
theorem zo_115 : zO 6 115 := ⟨by decide +kernel, by decide⟩
theorem zr_115_0 : zr 115 0 = 116 := by decide +kernel
theorem zr_115_2 : zr 115 2 = 117 := by decide +kernel
theorem zr_115_8 : zr 115 8 = 118 := by decide +kernel
theorem zr_115_9 : zr 115 9 = 119 := by decide +kernel
theorem zb_116 : zB 12 40 116 := ⟨by decide +kernel, by decide, by decide +kernel⟩
theorem zb_117 : zB 13 40 117 := ⟨by decide +kernel, by decide, by decide +kernel⟩
theorem zb_118 : zB 12 7 118 := ⟨by decide +kernel, by decide, by decide +kernel⟩
theorem zb_119 : zB 12 40 119 := ⟨by decide +kernel, by decide, by decide +kernel⟩
theorem zb_120 : zB 12 8 120 := ⟨by decide +kernel, by decide, by decide +kernel⟩
theorem zb_121 : zB 12 61 121 := ⟨by decide +kernel, by decide, by decide +kernel⟩
theorem zo_122 : zO 11 122 := ⟨by decide +kernel, by decide⟩
theorem zr_122_2 : zr 122 2 = 123 := by decide +kernel
theorem zr_122_5 : zr 122 5 = 124 := by decide +kernel
theorem zr_122_6 : zr 122 6 = 125 := by decide +kernel
theorem zr_122_7 : zr 122 7 = 126 := by decide +kernel
theorem zr_122_8 : zr 122 8 = 127 := by decide +kernel
theorem zr_122_9 : zr 122 9 = 128 := by decide +kernel
theorem zr_122_14 : zr 122 14 = 129 := by decide +kernel
theorem zr_122_16 : zr 122 16 = 130 := by decide +kernel
theorem zr_122_17 : zr 122 17 = 131 := by decide +kernel
theorem zr_122_20 : zr 122 20 = 132 := by decide +kernel
theorem zr_122_21 : zr 122 21 = 133 := by decide +kernel
theorem zr_122_22 : zr 122 22 = 134 := by decide +kernel
theorem zr_122_23 : zr 122 23 = 135 := by decide +kernel
theorem zr_122_27 : zr 122 27 = 136 := by decide +kernel
theorem zr_122_29 : zr 122 29 = 137 := by decide +kernel
theorem zr_122_30 : zr 122 30 = 138 := by decide +kernel
theorem zr_122_31 : zr 122 31 = 139 := by decide +kernel
theorem zr_122_32 : zr 122 32 = 140 := by decide +kernel
theorem zr_122_33 : zr 122 33 = 141 := by decide +kernel
theorem zr_122_34 : zr 122 34 = 142 := by decide +kernel
theorem zr_122_36 : zr 122 36 = 143 := by decide +kernel
theorem zr_122_37 : zr 122 37 = 144 := by decide +kernel
theorem zr_122_38 : zr 122 38 = 145 := by decide +kernel
theorem zr_122_40 : zr 122 40 = 146 := by decide +kernel
theorem zr_122_41 : zr 122 41 = 147 := by decide +kernel
theorem zr_122_43 : zr 122 43 = 148 := by decide +kernel
theorem zr_122_44 : zr 122 44 = 149 := by decide +kernel
theorem zr_122_45 : zr 122 45 = 150 := by decide +kernel
theorem zr_122_46 : zr 122 46 = 151 := by decide +kernel
theorem zr_122_47 : zr 122 47 = 152 := by decide +kernel
theorem zr_122_48 : zr 122 48 = 153 := by decide +kernel
theorem zr_122_49 : zr 122 49 = 154 := by decide +kernel
theorem zr_122_51 : zr 122 51 = 155 := by decide +kernel
theorem zr_122_52 : zr 122 52 = 156 := by decide +kernel
theorem zr_122_53 : zr 122 53 = 157 := by decide +kernel
theorem zb_123 : zB 14 24 123 := ⟨by decide +kernel, by decide, by decide +kernel⟩
theorem zb_124 : zB 12 12 124 := ⟨by decide +kernel, by decide, by decide +kernel⟩
theorem zb_125 : zB 12 12 125 := ⟨by decide +kernel, by decide, by decide +kernel⟩
theorem zb_126 : zB 12 39 126 := ⟨by decide +kernel, by decide, by decide +kernel⟩
theorem zb_127 : zB 12 39 127 := ⟨by decide +kernel, by decide, by decide +kernel⟩
theorem zb_128 : zB 12 80 128 := ⟨by decide +kernel, by decide, by decide +kernel⟩
theorem zb_129 : zB 12 48 129 := ⟨by decide +kernel, by decide, by decide +kernel⟩
theorem zb_130 : zB 12 80 130 := ⟨by decide +kernel, by decide, by decide +kernel⟩
theorem zb_131 : zB 12 80 131 := ⟨by decide +kernel, by decide, by decide +kernel⟩
theorem zb_132 : zB 12 80 132 := ⟨by decide +kernel, by decide, by decide +kernel⟩
theorem zb_133 : zB 12 7 133 := ⟨by decide +kernel, by decide, by decide +kernel⟩
theorem zb_134 : zB 12 12 134 := ⟨by decide +kernel, by decide, by decide +kernel⟩
theorem zb_135 : zB 15 12 135 := ⟨by decide +kernel, by decide, by decide +kernel⟩
theorem zb_136 : zB 12 64 136 := ⟨by decide +kernel, by decide, by decide +kernel⟩
theorem zb_137 : zB 12 624 137 := ⟨by decide +kernel, by decide, by decide +kernel⟩
theorem zb_138 : zB 12 6 138 := ⟨by decide +kernel, by decide, by decide +kernel⟩
theorem zb_139 : zB 12 60 139 := ⟨by decide +kernel, by decide, by decide +kernel⟩
theorem zb_140 : zB 12 60 140 := ⟨by decide +kernel, by decide, by decide +kernel⟩
theorem zb_141 : zB 12 60 141 := ⟨by decide +kernel, by decide, by decide +kernel⟩
theorem zb_142 : zB 12 60 142 := ⟨by decide +kernel, by decide, by decide +kernel⟩
theorem zb_143 : zB 12 6 143 := ⟨by decide +kernel, by decide, by decide +kernel⟩
theorem zb_144 : zB 12 8 144 := ⟨by decide +kernel, by decide, by decide +kernel⟩
theorem zb_145 : zB 12 2048 145 := ⟨by decide +kernel, by decide, by decide +kernel⟩
theorem zb_146 : zB 12 12 146 := ⟨by decide +kernel, by decide, by decide +kernel⟩
theorem zb_147 : zB 12 12 147 := ⟨by decide +kernel, by decide, by decide +kernel⟩
theorem zb_148 : zB 12 10 148 := ⟨by decide +kernel, by decide, by decide +kernel⟩
theorem zb_149 : zB 12 10 149 := ⟨by decide +kernel, by decide, by decide +kernel⟩
theorem zb_150 : zB 12 10 150 := ⟨by decide +kernel, by decide, by decide +kernel⟩
theorem zb_151 : zB 14 8 151 := ⟨by decide +kernel, by decide, by decide +kernel⟩
theorem zb_152 : zB 14 8 152 := ⟨by decide +kernel, by decide, by decide +kernel⟩
theorem zb_153 : zB 12 610 153 := ⟨by decide +kernel, by decide, by decide +kernel⟩
theorem zb_154 : zB 12 80 154 := ⟨by decide +kernel, by decide, by decide +kernel⟩
theorem zb_155 : zB 15 3 155 := ⟨by decide +kernel, by decide, by decide +kernel⟩
theorem zb_156 : zB 12 3 156 := ⟨by decide +kernel, by decide, by decide +kernel⟩
theorem zb_157 : zB 12 117 157 := ⟨by decide +kernel, by decide, by decide +kernel⟩
theorem zb_158 : zB 14 1 158 := ⟨by decide +kernel, by decide, by decide +kernel⟩
