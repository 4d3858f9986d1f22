/-! ===== the words: each by its place; the pools: fields, methods, classes, constants by class and entry ===== -/
def TB : List Cond := lw_tbl.filter goodWord
theorem tb_of {w : Cond} (h : w ∈ lw_tbl) (g : goodWord w = true) : w ∈ TB := List.mem_filter.mpr ⟨h, g⟩
theorem tb_good : ∀ w ∈ TB, w ∈ TB ∧ ((w.onTables && w.keeps) = true ∨ ∃ ty, w = .arrayClass ty) := fun w h => ⟨h, good_of_word (List.mem_filter.mp h).2⟩
theorem tb0 {w : Cond} (i : Nat) (h : (k2_sels lw_privs)[i]? = some w) (g : goodWord w = true) : w ∈ TB := tb_of (List.mem_append_left _ (List.mem_of_getElem? h)) g
theorem tb1 {w : Cond} (i : Nat) (h : tables_1_1[i]? = some w) (g : goodWord w = true) : w ∈ TB := tb_of (List.mem_append_right _ (List.mem_append_left _ (List.mem_of_getElem? h))) g
theorem tb2 {w : Cond} (i : Nat) (h : tables_1_2[i]? = some w) (g : goodWord w = true) : w ∈ TB := tb_of (List.mem_append_right _ (List.mem_append_right _ (List.mem_append_left _ (List.mem_of_getElem? h)))) g
theorem tb3 {w : Cond} (i : Nat) (h : tables_1_3[i]? = some w) (g : goodWord w = true) : w ∈ TB := tb_of (List.mem_append_right _ (List.mem_append_right _ (List.mem_append_right _ (List.mem_append_left _ (List.mem_of_getElem? h))))) g
theorem tb4 {w : Cond} (i : Nat) (h : tables_1_4[i]? = some w) (g : goodWord w = true) : w ∈ TB := tb_of (List.mem_append_right _ (List.mem_append_right _ (List.mem_append_right _ (List.mem_append_right _ (List.mem_append_left _ (List.mem_of_getElem? h)))))) g
theorem tb5 {w : Cond} (i : Nat) (h : tables_1_5[i]? = some w) (g : goodWord w = true) : w ∈ TB := tb_of (List.mem_append_right _ (List.mem_append_right _ (List.mem_append_right _ (List.mem_append_right _ (List.mem_append_right _ (List.mem_append_left _ (List.mem_of_getElem? h))))))) g
theorem tb6 {w : Cond} (i : Nat) (h : tables_1_6[i]? = some w) (g : goodWord w = true) : w ∈ TB := tb_of (List.mem_append_right _ (List.mem_append_right _ (List.mem_append_right _ (List.mem_append_right _ (List.mem_append_right _ (List.mem_append_right _ (List.mem_append_left _ (List.mem_of_getElem? h)))))))) g
theorem tb7 {w : Cond} (i : Nat) (h : tables_1_7[i]? = some w) (g : goodWord w = true) : w ∈ TB := tb_of (List.mem_append_right _ (List.mem_append_right _ (List.mem_append_right _ (List.mem_append_right _ (List.mem_append_right _ (List.mem_append_right _ (List.mem_append_right _ (List.mem_of_getElem? h)))))))) g
def cname : Nat → String := fun k => match k with
  | 0 => RX0
  | 1 => RX1
  | 2 => RX2
  | 3 => RX3
  | 4 => RX4
  | 5 => RX5
  | 6 => RX6
  | 7 => RX7
  | 8 => RX8
  | 9 => RX9
  | 10 => RX10
  | 11 => RX11
  | 12 => RX12
  | 13 => RL
  | 14 => RJ6
  | 15 => RJ13
  | 16 => RJ7
  | _ => ""
def TXs : Nat → u_T := fun k => match k with
  | 0 => TX0
  | 1 => TX1
  | 2 => TX2
  | 3 => TX3
  | 4 => TX4
  | 5 => TX5
  | 6 => TX6
  | 7 => TX7
  | 8 => TX8
  | 9 => TX9
  | 10 => TX10
  | 11 => TX11
  | _ => TX12
def tyXs : Nat → Nat → FieldType := fun k => match k with
  | 0 => tyX0
  | 1 => tyX1
  | 2 => tyX2
  | 3 => tyX3
  | 4 => tyX4
  | 5 => tyX5
  | 6 => tyX6
  | 7 => tyX7
  | 8 => tyX8
  | 9 => tyX9
  | 10 => tyX10
  | 11 => tyX11
  | _ => tyX12
def nF : Nat → Nat := fun k => match k with
  | 0 => 6
  | 1 => 7
  | 2 => 4
  | 3 => 5
  | 4 => 3
  | 5 => 5
  | 6 => 6
  | 7 => 2
  | 8 => 14
  | 9 => 8
  | 10 => 2
  | 11 => 9
  | 12 => 41
  | _ => 0
def ftyp : Nat → Nat → Nat := fun k j => match k with
  | 0 => [2, 1, 1, 0, 0, 0].getD j 0
  | 1 => [1, 1, 1, 1, 1, 0, 0].getD j 0
  | 2 => [0, 1, 1, 1].getD j 0
  | 3 => [1, 1, 1, 0, 0].getD j 0
  | 4 => [0, 0, 1].getD j 0
  | 5 => [0, 0, 1, 1, 0].getD j 0
  | 6 => [1, 0, 0, 0, 0, 0].getD j 0
  | 7 => [1, 1].getD j 0
  | 8 => [1, 1, 1, 1, 1, 1, 1, 1, 1, 1, 0, 0, 0, 0].getD j 0
  | 9 => [1, 1, 1, 1, 1, 1, 1, 0].getD j 0
  | 10 => [0, 1].getD j 0
  | 11 => [1, 1, 1, 1, 1, 1, 1, 1, 1].getD j 0
  | 12 => [0, 1, 0, 1, 1, 1, 1, 0, 1, 1, 0, 0, 2, 0, 0, 0, 1, 1, 1, 1, 1, 0, 0, 0, 0, 1, 1, 0, 0, 0, 1, 1, 1, 1, 1, 1, 1, 1, 1, 1, 1].getD j 0
  | _ => 0
theorem ux0 : ∀ w ∈ u_ws RX0 TX0 6, w ∈ TB := by
  show ∀ w ∈ [u_lay RX0 TX0 0, u_lay RX0 TX0 1, u_lay RX0 TX0 2, u_lay RX0 TX0 3, u_lay RX0 TX0 4, u_lay RX0 TX0 5], w ∈ TB
  exact (List.forall_mem_cons.mpr ⟨(tb2 113 rfl rfl), (List.forall_mem_cons.mpr ⟨(tb2 115 rfl rfl), (List.forall_mem_cons.mpr ⟨(tb2 117 rfl rfl), (List.forall_mem_cons.mpr ⟨(tb2 119 rfl rfl), (List.forall_mem_cons.mpr ⟨(tb2 121 rfl rfl), (List.forall_mem_cons.mpr ⟨(tb2 123 rfl rfl), (fun _ h => absurd h List.not_mem_nil)⟩)⟩)⟩)⟩)⟩)⟩)
theorem ux1 : ∀ w ∈ u_ws RX1 TX1 7, w ∈ TB := by
  show ∀ w ∈ [u_lay RX1 TX1 0, u_lay RX1 TX1 1, u_lay RX1 TX1 2, u_lay RX1 TX1 3, u_lay RX1 TX1 4, u_lay RX1 TX1 5, u_lay RX1 TX1 6], w ∈ TB
  exact (List.forall_mem_cons.mpr ⟨(tb1 183 rfl rfl), (List.forall_mem_cons.mpr ⟨(tb1 185 rfl rfl), (List.forall_mem_cons.mpr ⟨(tb1 187 rfl rfl), (List.forall_mem_cons.mpr ⟨(tb1 189 rfl rfl), (List.forall_mem_cons.mpr ⟨(tb1 191 rfl rfl), (List.forall_mem_cons.mpr ⟨(tb1 193 rfl rfl), (List.forall_mem_cons.mpr ⟨(tb1 195 rfl rfl), (fun _ h => absurd h List.not_mem_nil)⟩)⟩)⟩)⟩)⟩)⟩)⟩)
theorem ux2 : ∀ w ∈ u_ws RX2 TX2 4, w ∈ TB := by
  show ∀ w ∈ [u_lay RX2 TX2 0, u_lay RX2 TX2 1, u_lay RX2 TX2 2, u_lay RX2 TX2 3], w ∈ TB
  exact (List.forall_mem_cons.mpr ⟨(tb1 75 rfl rfl), (List.forall_mem_cons.mpr ⟨(tb1 77 rfl rfl), (List.forall_mem_cons.mpr ⟨(tb1 79 rfl rfl), (List.forall_mem_cons.mpr ⟨(tb1 81 rfl rfl), (fun _ h => absurd h List.not_mem_nil)⟩)⟩)⟩)⟩)
theorem ux3 : ∀ w ∈ u_ws RX3 TX3 5, w ∈ TB := by
  show ∀ w ∈ [u_lay RX3 TX3 0, u_lay RX3 TX3 1, u_lay RX3 TX3 2, u_lay RX3 TX3 3, u_lay RX3 TX3 4], w ∈ TB
  exact (List.forall_mem_cons.mpr ⟨(tb1 125 rfl rfl), (List.forall_mem_cons.mpr ⟨(tb1 127 rfl rfl), (List.forall_mem_cons.mpr ⟨(tb1 129 rfl rfl), (List.forall_mem_cons.mpr ⟨(tb1 131 rfl rfl), (List.forall_mem_cons.mpr ⟨(tb1 133 rfl rfl), (fun _ h => absurd h List.not_mem_nil)⟩)⟩)⟩)⟩)⟩)
theorem ux4 : ∀ w ∈ u_ws RX4 TX4 3, w ∈ TB := by
  show ∀ w ∈ [u_lay RX4 TX4 0, u_lay RX4 TX4 1, u_lay RX4 TX4 2], w ∈ TB
  exact (List.forall_mem_cons.mpr ⟨(tb2 93 rfl rfl), (List.forall_mem_cons.mpr ⟨(tb2 95 rfl rfl), (List.forall_mem_cons.mpr ⟨(tb2 97 rfl rfl), (fun _ h => absurd h List.not_mem_nil)⟩)⟩)⟩)
theorem ux5 : ∀ w ∈ u_ws RX5 TX5 5, w ∈ TB := by
  show ∀ w ∈ [u_lay RX5 TX5 0, u_lay RX5 TX5 1, u_lay RX5 TX5 2, u_lay RX5 TX5 3, u_lay RX5 TX5 4], w ∈ TB
  exact (List.forall_mem_cons.mpr ⟨(tb2 25 rfl rfl), (List.forall_mem_cons.mpr ⟨(tb2 27 rfl rfl), (List.forall_mem_cons.mpr ⟨(tb2 29 rfl rfl), (List.forall_mem_cons.mpr ⟨(tb2 31 rfl rfl), (List.forall_mem_cons.mpr ⟨(tb2 33 rfl rfl), (fun _ h => absurd h List.not_mem_nil)⟩)⟩)⟩)⟩)⟩)
theorem ux6 : ∀ w ∈ u_ws RX6 TX6 6, w ∈ TB := by
  show ∀ w ∈ [u_lay RX6 TX6 0, u_lay RX6 TX6 1, u_lay RX6 TX6 2, u_lay RX6 TX6 3, u_lay RX6 TX6 4, u_lay RX6 TX6 5], w ∈ TB
  exact (List.forall_mem_cons.mpr ⟨(tb1 100 rfl rfl), (List.forall_mem_cons.mpr ⟨(tb1 102 rfl rfl), (List.forall_mem_cons.mpr ⟨(tb1 104 rfl rfl), (List.forall_mem_cons.mpr ⟨(tb1 106 rfl rfl), (List.forall_mem_cons.mpr ⟨(tb1 108 rfl rfl), (List.forall_mem_cons.mpr ⟨(tb1 110 rfl rfl), (fun _ h => absurd h List.not_mem_nil)⟩)⟩)⟩)⟩)⟩)⟩)
theorem ux7 : ∀ w ∈ u_ws RX7 TX7 2, w ∈ TB := by
  show ∀ w ∈ [u_lay RX7 TX7 0, u_lay RX7 TX7 1], w ∈ TB
  exact (List.forall_mem_cons.mpr ⟨(tb1 167 rfl rfl), (List.forall_mem_cons.mpr ⟨(tb1 169 rfl rfl), (fun _ h => absurd h List.not_mem_nil)⟩)⟩)
theorem ux8 : ∀ w ∈ u_ws RX8 TX8 14, w ∈ TB := by
  show ∀ w ∈ [u_lay RX8 TX8 0, u_lay RX8 TX8 1, u_lay RX8 TX8 2, u_lay RX8 TX8 3, u_lay RX8 TX8 4, u_lay RX8 TX8 5, u_lay RX8 TX8 6, u_lay RX8 TX8 7, u_lay RX8 TX8 8, u_lay RX8 TX8 9, u_lay RX8 TX8 10, u_lay RX8 TX8 11, u_lay RX8 TX8 12, u_lay RX8 TX8 13], w ∈ TB
  exact (List.forall_mem_cons.mpr ⟨(tb2 51 rfl rfl), (List.forall_mem_cons.mpr ⟨(tb2 53 rfl rfl), (List.forall_mem_cons.mpr ⟨(tb2 55 rfl rfl), (List.forall_mem_cons.mpr ⟨(tb2 57 rfl rfl), (List.forall_mem_cons.mpr ⟨(tb2 59 rfl rfl), (List.forall_mem_cons.mpr ⟨(tb2 61 rfl rfl), (List.forall_mem_cons.mpr ⟨(tb2 63 rfl rfl), (List.forall_mem_cons.mpr ⟨(tb2 65 rfl rfl), (List.forall_mem_cons.mpr ⟨(tb2 67 rfl rfl), (List.forall_mem_cons.mpr ⟨(tb2 69 rfl rfl), (List.forall_mem_cons.mpr ⟨(tb2 71 rfl rfl), (List.forall_mem_cons.mpr ⟨(tb2 73 rfl rfl), (List.forall_mem_cons.mpr ⟨(tb2 75 rfl rfl), (List.forall_mem_cons.mpr ⟨(tb2 77 rfl rfl), (fun _ h => absurd h List.not_mem_nil)⟩)⟩)⟩)⟩)⟩)⟩)⟩)⟩)⟩)⟩)⟩)⟩)⟩)⟩)
theorem ux9 : ∀ w ∈ u_ws RX9 TX9 8, w ∈ TB := by
  show ∀ w ∈ [u_lay RX9 TX9 0, u_lay RX9 TX9 1, u_lay RX9 TX9 2, u_lay RX9 TX9 3, u_lay RX9 TX9 4, u_lay RX9 TX9 5, u_lay RX9 TX9 6, u_lay RX9 TX9 7], w ∈ TB
  exact (List.forall_mem_cons.mpr ⟨(tb1 214 rfl rfl), (List.forall_mem_cons.mpr ⟨(tb1 216 rfl rfl), (List.forall_mem_cons.mpr ⟨(tb1 218 rfl rfl), (List.forall_mem_cons.mpr ⟨(tb1 220 rfl rfl), (List.forall_mem_cons.mpr ⟨(tb1 222 rfl rfl), (List.forall_mem_cons.mpr ⟨(tb1 224 rfl rfl), (List.forall_mem_cons.mpr ⟨(tb1 226 rfl rfl), (List.forall_mem_cons.mpr ⟨(tb1 228 rfl rfl), (fun _ h => absurd h List.not_mem_nil)⟩)⟩)⟩)⟩)⟩)⟩)⟩)⟩)
theorem ux10 : ∀ w ∈ u_ws RX10 TX10 2, w ∈ TB := by
  show ∀ w ∈ [u_lay RX10 TX10 0, u_lay RX10 TX10 1], w ∈ TB
  exact (List.forall_mem_cons.mpr ⟨(tb1 46 rfl rfl), (List.forall_mem_cons.mpr ⟨(tb1 48 rfl rfl), (fun _ h => absurd h List.not_mem_nil)⟩)⟩)
theorem ux11 : ∀ w ∈ u_ws RX11 TX11 9, w ∈ TB := by
  show ∀ w ∈ [u_lay RX11 TX11 0, u_lay RX11 TX11 1, u_lay RX11 TX11 2, u_lay RX11 TX11 3, u_lay RX11 TX11 4, u_lay RX11 TX11 5, u_lay RX11 TX11 6, u_lay RX11 TX11 7, u_lay RX11 TX11 8], w ∈ TB
  exact (List.forall_mem_cons.mpr ⟨(tb2 135 rfl rfl), (List.forall_mem_cons.mpr ⟨(tb2 137 rfl rfl), (List.forall_mem_cons.mpr ⟨(tb2 139 rfl rfl), (List.forall_mem_cons.mpr ⟨(tb2 141 rfl rfl), (List.forall_mem_cons.mpr ⟨(tb2 143 rfl rfl), (List.forall_mem_cons.mpr ⟨(tb2 145 rfl rfl), (List.forall_mem_cons.mpr ⟨(tb2 147 rfl rfl), (List.forall_mem_cons.mpr ⟨(tb2 149 rfl rfl), (List.forall_mem_cons.mpr ⟨(tb2 151 rfl rfl), (fun _ h => absurd h List.not_mem_nil)⟩)⟩)⟩)⟩)⟩)⟩)⟩)⟩)⟩)
theorem ux12 : ∀ w ∈ u_ws RX12 TX12 41, w ∈ TB := by
  show ∀ w ∈ [u_lay RX12 TX12 0, u_lay RX12 TX12 1, u_lay RX12 TX12 2, u_lay RX12 TX12 3, u_lay RX12 TX12 4, u_lay RX12 TX12 5, u_lay RX12 TX12 6, u_lay RX12 TX12 7, u_lay RX12 TX12 8, u_lay RX12 TX12 9, u_lay RX12 TX12 10, u_lay RX12 TX12 11, u_lay RX12 TX12 12, u_lay RX12 TX12 13, u_lay RX12 TX12 14, u_lay RX12 TX12 15, u_lay RX12 TX12 16, u_lay RX12 TX12 17, u_lay RX12 TX12 18, u_lay RX12 TX12 19, u_lay RX12 TX12 20, u_lay RX12 TX12 21, u_lay RX12 TX12 22, u_lay RX12 TX12 23, u_lay RX12 TX12 24, u_lay RX12 TX12 25, u_lay RX12 TX12 26, u_lay RX12 TX12 27, u_lay RX12 TX12 28, u_lay RX12 TX12 29, u_lay RX12 TX12 30, u_lay RX12 TX12 31, u_lay RX12 TX12 32, u_lay RX12 TX12 33, u_lay RX12 TX12 34, u_lay RX12 TX12 35, u_lay RX12 TX12 36, u_lay RX12 TX12 37, u_lay RX12 TX12 38, u_lay RX12 TX12 39, u_lay RX12 TX12 40], w ∈ TB
  exact (List.forall_mem_cons.mpr ⟨(tb5 196 rfl rfl), (List.forall_mem_cons.mpr ⟨(tb5 198 rfl rfl), (List.forall_mem_cons.mpr ⟨(tb5 200 rfl rfl), (List.forall_mem_cons.mpr ⟨(tb5 202 rfl rfl), (List.forall_mem_cons.mpr ⟨(tb5 204 rfl rfl), (List.forall_mem_cons.mpr ⟨(tb5 206 rfl rfl), (List.forall_mem_cons.mpr ⟨(tb5 208 rfl rfl), (List.forall_mem_cons.mpr ⟨(tb5 210 rfl rfl), (List.forall_mem_cons.mpr ⟨(tb5 212 rfl rfl), (List.forall_mem_cons.mpr ⟨(tb5 214 rfl rfl), (List.forall_mem_cons.mpr ⟨(tb5 216 rfl rfl), (List.forall_mem_cons.mpr ⟨(tb5 218 rfl rfl), (List.forall_mem_cons.mpr ⟨(tb5 220 rfl rfl), (List.forall_mem_cons.mpr ⟨(tb5 222 rfl rfl), (List.forall_mem_cons.mpr ⟨(tb5 224 rfl rfl), (List.forall_mem_cons.mpr ⟨(tb5 226 rfl rfl), (List.forall_mem_cons.mpr ⟨(tb5 228 rfl rfl), (List.forall_mem_cons.mpr ⟨(tb5 230 rfl rfl), (List.forall_mem_cons.mpr ⟨(tb5 232 rfl rfl), (List.forall_mem_cons.mpr ⟨(tb5 234 rfl rfl), (List.forall_mem_cons.mpr ⟨(tb5 236 rfl rfl), (List.forall_mem_cons.mpr ⟨(tb5 238 rfl rfl), (List.forall_mem_cons.mpr ⟨(tb6 0 rfl rfl), (List.forall_mem_cons.mpr ⟨(tb6 2 rfl rfl), (List.forall_mem_cons.mpr ⟨(tb6 4 rfl rfl), (List.forall_mem_cons.mpr ⟨(tb6 6 rfl rfl), (List.forall_mem_cons.mpr ⟨(tb6 8 rfl rfl), (List.forall_mem_cons.mpr ⟨(tb6 10 rfl rfl), (List.forall_mem_cons.mpr ⟨(tb6 12 rfl rfl), (List.forall_mem_cons.mpr ⟨(tb6 14 rfl rfl), (List.forall_mem_cons.mpr ⟨(tb6 16 rfl rfl), (List.forall_mem_cons.mpr ⟨(tb6 18 rfl rfl), (List.forall_mem_cons.mpr ⟨(tb6 20 rfl rfl), (List.forall_mem_cons.mpr ⟨(tb6 22 rfl rfl), (List.forall_mem_cons.mpr ⟨(tb6 24 rfl rfl), (List.forall_mem_cons.mpr ⟨(tb6 26 rfl rfl), (List.forall_mem_cons.mpr ⟨(tb6 28 rfl rfl), (List.forall_mem_cons.mpr ⟨(tb6 30 rfl rfl), (List.forall_mem_cons.mpr ⟨(tb6 32 rfl rfl), (List.forall_mem_cons.mpr ⟨(tb6 34 rfl rfl), (List.forall_mem_cons.mpr ⟨(tb6 36 rfl rfl), (fun _ h => absurd h List.not_mem_nil)⟩)⟩)⟩)⟩)⟩)⟩)⟩)⟩)⟩)⟩)⟩)⟩)⟩)⟩)⟩)⟩)⟩)⟩)⟩)⟩)⟩)⟩)⟩)⟩)⟩)⟩)⟩)⟩)⟩)⟩)⟩)⟩)⟩)⟩)⟩)⟩)⟩)⟩)⟩)⟩)⟩)
def mtab : List (MethodName × ByteArray × Nat × Nat × Option FieldType × Nat) := [
  (yX0_init, cX0_init, 0, 1, none, 0),
  (yX0_keep, cX0_keep, 0, 4, none, 3),
  (yX0_bringBack, cX0_bringBack, 0, 4, none, 3),
  (yX1_init, cX1_init, 1, 5, none, 2),
  (yX1_has, cX1_has, 1, 2, some .boolean, 1),
  (yX1_add, cX1_add, 1, 3, some .int, 1),
  (yX1_says, cX1_says, 1, 7, some .int, 5),
  (yX1_saysOfSet, cX1_saysOfSet, 1, 5, some .int, 2),
  (yX2_init, cX2_init, 2, 1, none, 0),
  (yX2_has, cX2_has, 2, 2, some .boolean, 1),
  (yX2_add, cX2_add, 2, 5, some .int, 3),
  (yX2_latestTold, cX2_latestTold, 2, 3, some .int, 0),
  (yX2_firstOnes, cX2_firstOnes, 2, 1, some .int, 1),
  (yX2_everyone, cX2_everyone, 2, 1, some .int, 0),
  (yX2_hasSet, cX2_hasSet, 2, 2, some .boolean, 1),
  (yX2_isKind, cX2_isKind, 2, 1, some .boolean, 1),
  (yX2_kindAbove, cX2_kindAbove, 2, 1, some .int, 1),
  (yX2_isA, cX2_isA, 2, 4, some .boolean, 2),
  (yX2_doubts, cX2_doubts, 2, 2, some .int, 1),
  (yX2_comesAlong, cX2_comesAlong, 2, 3, some .boolean, 2),
  (yX2_allCome, cX2_allCome, 2, 4, some .boolean, 1),
  (yX3_init, cX3_init, 3, 2, none, 1),
  (yX3_readAll, cX3_readAll, 3, 2, some (.object "TwoOnOneDay$Text"), 0),
  (yX3_fail, cX3_fail, 3, 1, none, 0),
  (yX3_take, cX3_take, 3, 2, none, 1),
  (yX3_put, cX3_put, 3, 2, none, 1),
  (yX3_any, cX3_any, 3, 3, none, 1),
  (yX3_all, cX3_all, 3, 3, none, 1),
  (yX3_oneSided, cX3_oneSided, 3, 2, none, 1),
  (yX3_compared, cX3_compared, 3, 3, none, 1),
  (yX3_sum, cX3_sum, 3, 4, none, 1),
  (yX3_term, cX3_term, 3, 3, none, 1),
  (yX3_one, cX3_one, 3, 3, none, 1),
  (yX4_init, cX4_init, 4, 1, none, 0),
  (yX4_isMissing, cX4_isMissing, 4, 1, some .boolean, 0),
  (yX4_become, cX4_become, 4, 4, none, 2),
  (yX4_put, cX4_put, 4, 3, none, 2),
  (yX4_hasRun, cX4_hasRun, 4, 3, some .boolean, 2),
  (yX5_init, cX5_init, 5, 3, none, 2),
  (yX5_worth, cX5_worth, 5, 2, some .int, 1),
  (yX5_most, cX5_most, 5, 2, some .int, 1),
  (yX5_allow, cX5_allow, 5, 4, none, 1),
  (yX5_takeOffSmaller, cX5_takeOffSmaller, 5, 7, none, 1),
  (yX5_fill, cX5_fill, 5, 8, none, 2),
  (yX5_addPiece, cX5_addPiece, 5, 12, none, 3),
  (yX5_ways, cX5_ways, 5, 3, some .long, 2),
  (yX6_init, cX6_init, 6, 1, none, 0),
  (yX6_add, cX6_add, 6, 2, none, 1),
  (yX6_rewind, cX6_rewind, 6, 1, none, 0),
  (yX6_next, cX6_next, 6, 1, none, 0),
  (yX6_readWord, cX6_readWord, 6, 2, none, 0),
  (yX6_isWord, cX6_isWord, 6, 5, some .boolean, 1),
  (yX6_readNumber, cX6_readNumber, 6, 1, none, 0),
  (yX6_isBlank, cX6_isBlank, 6, 1, some .boolean, 1),
  (yX6_isLetter, cX6_isLetter, 6, 1, some .boolean, 1),
  (yX6_isDigit, cX6_isDigit, 6, 1, some .boolean, 1),
  (yX6_isSign, cX6_isSign, 6, 1, some .boolean, 1),
  (yX7_init, cX7_init, 7, 3, none, 2),
  (yX7_value, cX7_value, 7, 7, some .int, 3),
  (yX7_joined, cX7_joined, 7, 3, some .int, 3),
  (yX8_init, cX8_init, 8, 2, none, 1),
  (yX8_prepare, cX8_prepare, 8, 2, none, 0),
  (yX8_addDay, cX8_addDay, 8, 6, none, 1),
  (yX8_multiplyTotals, cX8_multiplyTotals, 8, 4, none, 0),
  (yX8_of, cX8_of, 8, 2, some .long, 1),
  (yX8_ofAll, cX8_ofAll, 8, 1, some .long, 0),
  (yX8_apart, cX8_apart, 8, 2, some .long, 1),
  (yX8_meeting, cX8_meeting, 8, 2, some .long, 1),
  (yX8_together, cX8_together, 8, 2, some .long, 1),
  (yX8_numbering, cX8_numbering, 8, 3, some .long, 2),
  (yX8_taking, cX8_taking, 8, 5, some .long, 1),
  (yX8_covering, cX8_covering, 8, 7, some .long, 1),
  (yX8_sumParts, cX8_sumParts, 8, 6, none, 2),
  (yX8_scattered, cX8_scattered, 8, 9, some .long, 1),
  (yX8_goThrough, cX8_goThrough, 8, 6, some .int, 3),
  (yX8_addRow, cX8_addRow, 8, 9, none, 3),
  (yX8_firstMeeting, cX8_firstMeeting, 8, 2, some .long, 1),
  (yX9_init, cX9_init, 9, 4, none, 3),
  (yX9_forget, cX9_forget, 9, 2, none, 0),
  (yX9_forgetOne, cX9_forgetOne, 9, 2, none, 1),
  (yX9_prepare, cX9_prepare, 9, 4, none, 0),
  (yX9_of, cX9_of, 9, 3, some .int, 2),
  (yX9_total, cX9_total, 9, 2, some .int, 1),
  (yX9_number, cX9_number, 9, 1, some .int, 0),
  (yX9_days, cX9_days, 9, 1, some .int, 0),
  (yX9_under, cX9_under, 9, 9, some .int, 5),
  (yX9_draw, cX9_draw, 9, 5, none, 1),
  (yX9_dayBy, cX9_dayBy, 9, 7, some .int, 2),
  (yX9_anyMeet, cX9_anyMeet, 9, 4, some .boolean, 0),
  (yX10_init, cX10_init, 10, 1, none, 0),
  (yX10_has, cX10_has, 10, 2, some .boolean, 1),
  (yX11_init, cX11_init, 11, 2, none, 0),
  (yX11_set, cX11_set, 11, 4, some .int, 3),
  (yX11_lengthen, cX11_lengthen, 11, 3, some .int, 1),
  (yX11_bear, cX11_bear, 11, 4, some .int, 2),
  (yX11_count, cX11_count, 11, 2, some .int, 1),
  (yX11_bornOn, cX11_bornOn, 11, 2, some .int, 1),
  (yX11_feed, cX11_feed, 11, 8, some .int, 6),
  (yX11_isByte, cX11_isByte, 11, 1, some .boolean, 1),
  (yX11_text, cX11_text, 11, 2, some .int, 0),
  (yX11_force, cX11_force, 11, 3, some .int, 1),
  (yX11_asks, cX11_asks, 11, 4, some .int, 3),
  (yX11_person, cX11_person, 11, 4, some .int, 3),
  (yX11_join, cX11_join, 11, 5, some .int, 3),
  (yX11_move, cX11_move, 11, 4, some .int, 2),
  (yX11_told, cX11_told, 11, 3, some .int, 2),
  (yX11_totalOf, cX11_totalOf, 11, 2, some .int, 1),
  (yX11_weight, cX11_weight, 11, 3, some .int, 2),
  (yX11_meets, cX11_meets, 11, 3, some .long, 2),
  (yX11_among, cX11_among, 11, 3, some .long, 2),
  (yX11_mine, cX11_mine, 11, 3, some .long, 2),
  (yX11_likeliest, cX11_likeliest, 11, 7, some .int, 0),
  (yX11_many, cX11_many, 11, 4, some .long, 3),
  (yX11_isCounted, cX11_isCounted, 11, 1, some .boolean, 1),
  (yX11_likely, cX11_likely, 11, 8, some .int, 1),
  (yX11_mean, cX11_mean, 11, 6, some .long, 2),
  (yX11_covers, cX11_covers, 11, 3, some .long, 2),
  (yX11_near, cX11_near, 11, 3, some .long, 2),
  (yX11_needs, cX11_needs, 11, 3, some .int, 1),
  (yX11_isHundredth, cX11_isHundredth, 11, 1, some .boolean, 1),
  (yX11_isAsLikely, cX11_isAsLikely, 11, 3, some .boolean, 2),
  (yX11_first, cX11_first, 11, 3, some .long, 2),
  (yX11_place, cX11_place, 11, 11, some .int, 0),
  (yX11_asked, cX11_asked, 11, 6, some .long, 1),
  (yX11_host, cX11_host, 11, 4, some .long, 2),
  (yX11_likeliestGuests, cX11_likeliestGuests, 11, 4, some .int, 1),
  (yX11_canBeGuests, cX11_canBeGuests, 11, 2, some .boolean, 1),
  (yX11_cheap, cX11_cheap, 11, 7, some .int, 2),
  (yX11_wager, cX11_wager, 11, 7, some .long, 2),
  (yX11_refusalOfList, cX11_refusalOfList, 11, 4, some .int, 1),
  (yX11_judge, cX11_judge, 11, 3, some .int, 1),
  (yX11_firstWrong, cX11_firstWrong, 11, 4, some .int, 2),
  (yX11_list, cX11_list, 11, 5, some .int, 2),
  (yX11_firstSecond, cX11_firstSecond, 11, 4, some .int, 1),
  (yX11_pairsOf, cX11_pairsOf, 11, 5, some .int, 1),
  (yX11_daysOf, cX11_daysOf, 11, 4, some .int, 1),
  (yX11_doubtsOf, cX11_doubtsOf, 11, 4, some .int, 1),
  (yX11_comes, cX11_comes, 11, 6, some .long, 2),
  (yX11_luck, cX11_luck, 11, 7, some .long, 2),
  (yX11_laws, cX11_laws, 11, 5, some .int, 1),
  (yX11_can, cX11_can, 11, 6, some .int, 3),
  (yX11_toldDaysFor, cX11_toldDaysFor, 11, 5, some .int, 2),
  (yX11_kindsFor, cX11_kindsFor, 11, 5, some .int, 2),
  (yX11_isSeed, cX11_isSeed, 11, 1, some .boolean, 1),
  (yX11_drawn, cX11_drawn, 11, 3, some .int, 2),
  (yX11_film, cX11_film, 11, 4, some .int, 2),
  (yX11_odds, cX11_odds, 11, 6, some .long, 3),
  (yX11_image, cX11_image, 11, 1, some .int, 0),
  (yX11_back, cX11_back, 11, 1, some .int, 0),
  (yX11_isSheet, cX11_isSheet, 11, 1, some .boolean, 1),
  (yX11_refusalOfSheet, cX11_refusalOfSheet, 11, 2, some .int, 1),
  (yX11_sheet, cX11_sheet, 11, 4, some .int, 3),
  (yX11_cell, cX11_cell, 11, 5, some .int, 3),
  (yX11_copy, cX11_copy, 11, 8, some .int, 5),
  (yX11_peopleBy, cX11_peopleBy, 11, 9, some .int, 4),
  (yX11_taken, cX11_taken, 11, 3, some .int, 2),
  (yX11_takenDay, cX11_takenDay, 11, 3, some .int, 2),
  (yX11_takenPerson, cX11_takenPerson, 11, 3, some .int, 2),
  (yX11_fraction, cX11_fraction, 11, 7, some .long, 3),
  (yX11_commonDivisor, cX11_commonDivisor, 11, 7, some .long, 2),
  (yX11_compareFractions, cX11_compareFractions, 11, 14, some .int, 4),
  (yX12_init, cX12_init, 12, 2, none, 0),
  (yX12_in, cX12_in, 12, 3, some .boolean, 3),
  (yX12_within, cX12_within, 12, 3, some .int, 3),
  (yX12_isDay, cX12_isDay, 12, 2, some .boolean, 1),
  (yX12_isOne, cX12_isOne, 12, 2, some .boolean, 1),
  (yX12_everybody, cX12_everybody, 12, 1, some .int, 0),
  (yX12_ones, cX12_ones, 12, 3, some .int, 1),
  (yX12_isAnyToldFrom, cX12_isAnyToldFrom, 12, 3, some .boolean, 1),
  (yX12_set, cX12_set, 12, 5, some .int, 3),
  (yX12_count, cX12_count, 12, 2, some .int, 1),
  (yX12_bornOn, cX12_bornOn, 12, 2, some .int, 1),
  (yX12_isByte, cX12_isByte, 12, 1, some .boolean, 1),
  (yX12_feed, cX12_feed, 12, 8, some .int, 6),
  (yX12_wordFrom, cX12_wordFrom, 12, 6, some .int, 2),
  (yX12_next, cX12_next, 12, 3, none, 0),
  (yX12_rank, cX12_rank, 12, 1, some .int, 1),
  (yX12_puts, cX12_puts, 12, 2, none, 1),
  (yX12_unwinds, cX12_unwinds, 12, 3, none, 1),
  (yX12_holds, cX12_holds, 12, 2, none, 1),
  (yX12_opensOne, cX12_opensOne, 12, 2, some .boolean, 1),
  (yX12_between, cX12_between, 12, 2, some .boolean, 1),
  (yX12_signOf, cX12_signOf, 12, 1, some .int, 0),
  (yX12_eRead, cX12_eRead, 12, 4, some .boolean, 0),
  (yX12_text, cX12_text, 12, 3, some .int, 0),
  (yX12_two, cX12_two, 12, 3, some .int, 3),
  (yX12_says, cX12_says, 12, 5, some .int, 1),
  (yX12_force, cX12_force, 12, 3, some .int, 1),
  (yX12_asksOf, cX12_asksOf, 12, 4, some .int, 3),
  (yX12_asks, cX12_asks, 12, 4, some .int, 3),
  (yX12_person, cX12_person, 12, 4, some .int, 3),
  (yX12_move, cX12_move, 12, 4, some .int, 2),
  (yX12_weightOf, cX12_weightOf, 12, 8, some .int, 2),
  (yX12_doubtsOf, cX12_doubtsOf, 12, 2, some .int, 1),
  (yX12_comesWith, cX12_comesWith, 12, 3, some .boolean, 2),
  (yX12_allWeight, cX12_allWeight, 12, 4, some .int, 1),
  (yX12_told, cX12_told, 12, 3, some .int, 2),
  (yX12_weight, cX12_weight, 12, 3, some .int, 2),
  (yX12_reads, cX12_reads, 12, 3, none, 0),
  (yX12_readsUnlike, cX12_readsUnlike, 12, 4, none, 0),
  (yX12_readsProduct, cX12_readsProduct, 12, 4, none, 1),
  (yX12_greatest, cX12_greatest, 12, 10, some .long, 2),
  (yX12_fraction, cX12_fraction, 12, 7, some .long, 3),
  (yX12_isPart, cX12_isPart, 12, 1, some .boolean, 1),
  (yX12_waysWithin, cX12_waysWithin, 12, 5, some .long, 1),
  (yX12_meets, cX12_meets, 12, 5, some .long, 2),
  (yX12_areSome, cX12_areSome, 12, 2, some .boolean, 1),
  (yX12_among, cX12_among, 12, 3, some .long, 2),
  (yX12_waysBut, cX12_waysBut, 12, 5, some .long, 1),
  (yX12_mine, cX12_mine, 12, 5, some .long, 2),
  (yX12_likeliest, cX12_likeliest, 12, 3, some .int, 0),
  (yX12_countsMany, cX12_countsMany, 12, 7, none, 1),
  (yX12_many, cX12_many, 12, 4, some .long, 3),
  (yX12_likely, cX12_likely, 12, 4, some .int, 1),
  (yX12_mean, cX12_mean, 12, 6, some .long, 2),
  (yX12_covers, cX12_covers, 12, 9, some .long, 2),
  (yX12_waysApartFrom, cX12_waysApartFrom, 12, 10, some .long, 2),
  (yX12_near, cX12_near, 12, 8, some .long, 2),
  (yX12_firsts, cX12_firsts, 12, 1, some .int, 1),
  (yX12_needs, cX12_needs, 12, 5, some .int, 1),
  (yX12_firstWith, cX12_firstWith, 12, 2, some .long, 1),
  (yX12_first, cX12_first, 12, 3, some .long, 2),
  (yX12_isLess, cX12_isLess, 12, 20, some .boolean, 4),
  (yX12_place, cX12_place, 12, 6, some .int, 0),
  (yX12_asked, cX12_asked, 12, 5, some .long, 1),
  (yX12_allCome, cX12_allCome, 12, 3, some .boolean, 1),
  (yX12_host, cX12_host, 12, 6, some .long, 2),
  (yX12_asksAll, cX12_asksAll, 12, 5, some .int, 2),
  (yX12_cheap, cX12_cheap, 12, 9, some .int, 2),
  (yX12_wager, cX12_wager, 12, 3, some .long, 2),
  (yX12_sheetWrong, cX12_sheetWrong, 12, 4, some .int, 1),
  (yX12_judged, cX12_judged, 12, 3, some .int, 1),
  (yX12_judge, cX12_judge, 12, 3, some .int, 1),
  (yX12_pairsIn, cX12_pairsIn, 12, 5, some .int, 1),
  (yX12_firstIn, cX12_firstIn, 12, 4, some .int, 1),
  (yX12_takenIn, cX12_takenIn, 12, 4, some .int, 1),
  (yX12_doubtsIn, cX12_doubtsIn, 12, 4, some .int, 1),
  (yX12_list, cX12_list, 12, 4, some .int, 2),
  (yX12_comes, cX12_comes, 12, 6, some .long, 2),
  (yX12_luck, cX12_luck, 12, 6, some .long, 2),
  (yX12_laws, cX12_laws, 12, 6, some .int, 1),
  (yX12_can, cX12_can, 12, 10, some .int, 3),
  (yX12_dayBy, cX12_dayBy, 12, 9, some .int, 2),
  (yX12_draws, cX12_draws, 12, 5, none, 1),
  (yX12_isSeed, cX12_isSeed, 12, 1, some .boolean, 1),
  (yX12_drawn, cX12_drawn, 12, 3, some .int, 2),
  (yX12_film, cX12_film, 12, 4, some .int, 2),
  (yX12_lotsMeet, cX12_lotsMeet, 12, 3, some .boolean, 0),
  (yX12_odds, cX12_odds, 12, 7, some .long, 3),
  (yX12_image, cX12_image, 12, 2, some .int, 0),
  (yX12_back, cX12_back, 12, 2, some .int, 0),
  (yX12_sheet, cX12_sheet, 12, 5, some .int, 3),
  (yX12_cell, cX12_cell, 12, 4, some .int, 3),
  (yX12_copy, cX12_copy, 12, 10, some .int, 5),
  (yX12_peopleBy, cX12_peopleBy, 12, 9, some .int, 4),
  (yX12_isUnder, cX12_isUnder, 12, 2, some .boolean, 2),
  (yX12_taken, cX12_taken, 12, 3, some .int, 2),
  (yJ6_compare_7cf53, cJ6_compare_7cf53, 14, 2, some .int, 2),
  (yJ6_bitCount_0f7a4, cJ6_bitCount_0f7a4, 14, 1, some .int, 1),
  (yJ13_compare_74951, cJ13_compare_74951, 15, 4, some .int, 2),
  (yJ7_copyOf_59c91, cJ7_copyOf_59c91, 16, 3, some (.array .int), 2),
  (yL_law, cL_law, 13, 4, some .boolean, 1)]
def mrow (mi : Nat) : MethodName × ByteArray × Nat × Nat × Option FieldType × Nat := mtab.getD mi (yL_law, code, 13, 4, some .boolean, 1)
def nmOf (mi : Nat) : MethodName := (mrow mi).1
def codeOf (mi : Nat) : ByteArray := (mrow mi).2.1
def clsOf (mi : Nat) : Nat := (mrow mi).2.2.1
def maxLOf (mi : Nat) : Nat := (mrow mi).2.2.2.1
def retOf (mi : Nat) : Option FieldType := (mrow mi).2.2.2.2.1
def narOf (mi : Nat) : Nat := (mrow mi).2.2.2.2.2
def lk {α : Type} (L : List (Nat × Nat × α)) (ci idx : Nat) : Option α := (L.find? (fun e => e.1 == ci && e.2.1 == idx)).map (fun e => e.2.2)
theorem lk_mem {α : Type} {L : List (Nat × Nat × α)} {ci idx : Nat} {a : α} (h : lk L ci idx = some a) : (ci, idx, a) ∈ L := by
  simp only [lk, Option.map_eq_some_iff] at h
  obtain ⟨e, he, rfl⟩ := h
  have h1 := List.mem_of_find?_eq_some he
  have h2 := List.find?_some he
  simp only [Bool.and_eq_true, beq_iff_eq] at h2
  obtain ⟨rfl, rfl⟩ := h2
  exact h1
def fldL : List (Nat × Nat × Nat × Nat) := [(0, 9, 0, 1), (0, 15, 0, 2), (0, 18, 0, 0), (0, 22, 10, 0), (0, 28, 0, 3), (0, 29, 10, 1), (0, 36, 2, 3), (0, 39, 2, 0), (0, 42, 0, 4), (0, 43, 1, 6), (0, 48, 0, 5), (1, 9, 1, 0), (1, 15, 1, 1), (1, 21, 1, 2), (1, 25, 1, 3), (1, 29, 1, 4), (1, 35, 1, 5), (1, 49, 10, 1), (1, 52, 10, 0), (1, 55, 2, 2), (1, 71, 2, 0), (1, 72, 1, 6), (1, 75, 2, 3), (2, 9, 2, 1), (2, 15, 2, 2), (2, 18, 2, 3), (2, 21, 2, 0), (3, 9, 3, 0), (3, 15, 3, 1), (3, 21, 3, 2), (3, 24, 3, 3), (3, 28, 3, 4), (3, 43, 6, 2), (3, 52, 6, 4), (3, 79, 6, 3), (4, 11, 4, 0), (4, 15, 4, 2), (4, 19, 4, 1), (5, 9, 5, 0), (5, 19, 5, 1), (5, 22, 5, 2), (5, 26, 5, 3), (5, 33, 5, 4), (6, 11, 6, 0), (6, 15, 6, 1), (6, 19, 6, 5), (6, 29, 6, 4), (6, 32, 6, 2), (6, 61, 6, 3), (7, 15, 7, 1), (7, 19, 7, 0), (8, 9, 8, 0), (8, 15, 8, 1), (8, 19, 8, 2), (8, 22, 8, 3), (8, 25, 8, 4), (8, 34, 8, 5), (8, 38, 8, 6), (8, 41, 8, 7), (8, 44, 8, 8), (8, 47, 8, 9), (8, 55, 8, 10), (8, 59, 9, 7), (8, 70, 8, 13), (8, 110, 8, 11), (8, 113, 8, 12), (9, 9, 9, 0), (9, 15, 9, 1), (9, 19, 9, 2), (9, 23, 9, 3), (9, 27, 9, 4), (9, 30, 9, 5), (9, 34, 9, 6), (9, 37, 9, 7), (9, 41, 2, 0), (9, 46, 10, 0), (9, 51, 1, 6), (9, 56, 2, 1), (9, 59, 2, 3), (9, 71, 2, 2), (10, 9, 10, 0), (10, 15, 10, 1), (11, 10, 11, 0), (11, 19, 11, 1), (11, 26, 11, 2), (11, 35, 11, 3), (11, 44, 11, 4), (11, 53, 11, 5), (11, 62, 11, 6), (11, 68, 11, 7), (11, 76, 11, 8), (11, 92, 10, 0), (11, 103, 10, 1), (11, 107, 2, 0), (11, 110, 1, 5), (11, 111, 1, 6), (11, 114, 6, 1), (11, 128, 3, 4), (11, 136, 2, 3), (11, 155, 2, 1), (11, 158, 2, 2), (11, 262, 4, 1), (11, 263, 4, 2), (11, 302, 9, 6), (11, 322, 0, 0), (11, 332, 4, 0), (12, 7, 12, 0), (12, 13, 12, 1), (12, 17, 12, 3), (12, 20, 12, 4), (12, 23, 12, 5), (12, 26, 12, 6), (12, 29, 12, 8), (12, 32, 12, 9), (12, 35, 12, 16), (12, 38, 12, 17), (12, 41, 12, 18), (12, 44, 12, 19), (12, 47, 12, 20), (12, 50, 12, 25), (12, 53, 12, 26), (12, 56, 12, 30), (12, 59, 12, 31), (12, 62, 12, 32), (12, 65, 12, 33), (12, 69, 12, 34), (12, 72, 12, 35), (12, 75, 12, 36), (12, 78, 12, 37), (12, 81, 12, 38), (12, 84, 12, 39), (12, 87, 12, 40), (12, 90, 12, 7), (12, 101, 12, 2), (12, 111, 12, 10), (12, 114, 12, 11), (12, 120, 12, 21), (12, 123, 12, 22), (12, 126, 12, 23), (12, 129, 12, 24), (12, 136, 12, 29), (12, 139, 12, 27), (12, 146, 12, 28), (12, 306, 12, 12), (12, 310, 12, 13), (12, 313, 12, 14), (12, 316, 12, 15)]
def mthL : List (Nat × Nat × Nat × Nat) := [(1, 32, 3, 57), (1, 39, 2, 4), (1, 43, 2, 9), (1, 46, 2, 90), (1, 58, 2, 58), (1, 78, 2, 6), (2, 31, 1, 12), (2, 35, 2, 13), (2, 39, 1, 16), (2, 42, 1, 258), (2, 47, 2, 19), (3, 31, 2, 48), (3, 36, 2, 24), (3, 40, 2, 26), (3, 46, 2, 23), (3, 49, 3, 57), (3, 55, 2, 49), (3, 58, 2, 27), (3, 61, 2, 25), (3, 64, 2, 28), (3, 67, 2, 29), (3, 70, 2, 30), (3, 73, 2, 31), (3, 76, 2, 32), (5, 15, 2, 40), (5, 29, 2, 41), (5, 36, 2, 39), (5, 39, 2, 42), (5, 42, 2, 44), (5, 46, 1, 258), (6, 22, 2, 49), (6, 25, 1, 53), (6, 35, 1, 54), (6, 38, 2, 50), (6, 41, 1, 55), (6, 44, 2, 52), (6, 47, 1, 56), (6, 58, 2, 51), (7, 9, 1, 260), (7, 22, 1, 59), (8, 31, 3, 38), (8, 50, 2, 80), (8, 60, 2, 83), (8, 64, 1, 12), (8, 73, 2, 84), (8, 76, 2, 62), (8, 80, 2, 63), (8, 83, 2, 43), (8, 87, 2, 81), (8, 91, 2, 82), (8, 94, 2, 45), (8, 98, 2, 64), (8, 101, 2, 66), (8, 103, 2, 41), (8, 106, 2, 65), (8, 116, 1, 258), (8, 123, 2, 72), (8, 126, 2, 74), (8, 135, 2, 75), (9, 62, 2, 85), (9, 66, 2, 9), (9, 70, 2, 90), (9, 74, 1, 17), (9, 84, 2, 6), (9, 91, 2, 87), (11, 9, 3, 89), (11, 18, 3, 8), (11, 25, 3, 46), (11, 32, 3, 21), (11, 41, 3, 3), (11, 50, 3, 77), (11, 59, 3, 60), (11, 72, 3, 33), (11, 75, 3, 0), (11, 80, 2, 93), (11, 84, 2, 94), (11, 88, 2, 11), (11, 96, 2, 78), (11, 99, 2, 90), (11, 117, 1, 98), (11, 120, 2, 47), (11, 124, 2, 22), (11, 131, 2, 5), (11, 134, 2, 4), (11, 135, 2, 9), (11, 139, 2, 6), (11, 143, 2, 103), (11, 147, 1, 15), (11, 150, 2, 10), (11, 152, 2, 79), (11, 161, 2, 18), (11, 164, 2, 106), (11, 167, 2, 80), (11, 170, 2, 82), (11, 173, 2, 81), (11, 178, 2, 61), (11, 179, 2, 68), (11, 183, 2, 65), (11, 187, 1, 158), (11, 191, 2, 14), (11, 194, 2, 67), (11, 197, 2, 64), (11, 199, 2, 70), (11, 202, 1, 113), (11, 205, 2, 69), (11, 211, 2, 71), (11, 214, 2, 73), (11, 217, 1, 119), (11, 220, 1, 12), (11, 223, 2, 120), (11, 229, 2, 76), (11, 232, 1, 160), (11, 236, 2, 66), (11, 239, 2, 13), (11, 242, 2, 125), (11, 245, 1, 258), (11, 250, 2, 126), (11, 253, 2, 20), (11, 256, 2, 7), (11, 259, 2, 150), (11, 266, 2, 129), (11, 269, 2, 131), (11, 273, 2, 85), (11, 276, 2, 133), (11, 280, 2, 134), (11, 283, 2, 135), (11, 286, 2, 136), (11, 289, 2, 141), (11, 292, 2, 142), (11, 296, 1, 143), (11, 299, 2, 86), (11, 305, 1, 149), (11, 308, 2, 35), (11, 312, 2, 36), (11, 315, 2, 88), (11, 319, 2, 1), (11, 326, 2, 2), (11, 329, 2, 34), (11, 335, 2, 37), (11, 344, 2, 156), (11, 347, 2, 157), (11, 350, 1, 17), (11, 359, 1, 159), (11, 363, 1, 259), (11, 369, 1, 257), (12, 93, 2, 184), (12, 97, 1, 162), (12, 104, 2, 164), (12, 108, 2, 168), (12, 117, 1, 172), (12, 132, 2, 174), (12, 142, 1, 176), (12, 149, 2, 177), (12, 153, 2, 179), (12, 156, 2, 178), (12, 159, 2, 175), (12, 163, 2, 180), (12, 166, 2, 182), (12, 169, 2, 181), (12, 172, 2, 183), (12, 176, 1, 185), (12, 180, 2, 186), (12, 183, 1, 163), (12, 186, 2, 165), (12, 189, 2, 188), (12, 192, 2, 192), (12, 195, 2, 193), (12, 198, 2, 195), (12, 201, 2, 166), (12, 204, 2, 198), (12, 209, 1, 201), (12, 213, 2, 200), (12, 216, 1, 167), (12, 219, 1, 203), (12, 222, 2, 204), (12, 226, 1, 202), (12, 230, 2, 206), (12, 233, 2, 199), (12, 236, 2, 208), (12, 239, 2, 211), (12, 242, 2, 216), (12, 246, 1, 218), (12, 251, 2, 220), (12, 254, 1, 222), (12, 258, 2, 194), (12, 262, 2, 225), (12, 267, 2, 227), (12, 270, 2, 230), (12, 273, 2, 231), (12, 276, 2, 234), (12, 279, 2, 233), (12, 282, 2, 235), (12, 285, 2, 236), (12, 292, 2, 242), (12, 297, 1, 244), (12, 300, 2, 243), (12, 303, 2, 247), (12, 319, 2, 190), (12, 322, 1, 255), (13, 9, 3, 91), (13, 12, 3, 161), (13, 13, 2, 92), (13, 17, 2, 169), (13, 18, 2, 95), (13, 22, 2, 170), (13, 23, 2, 96), (13, 26, 2, 171), (13, 27, 2, 97), (13, 31, 2, 173), (13, 32, 2, 99), (13, 36, 2, 184), (13, 37, 2, 100), (13, 40, 2, 187), (13, 41, 2, 101), (13, 44, 2, 189), (13, 45, 2, 102), (13, 48, 2, 190), (13, 49, 2, 104), (13, 53, 2, 191), (13, 54, 2, 105), (13, 57, 2, 196), (13, 58, 2, 107), (13, 61, 2, 197), (13, 62, 2, 108), (13, 66, 2, 205), (13, 67, 2, 109), (13, 70, 2, 207), (13, 71, 2, 110), (13, 74, 2, 209), (13, 75, 2, 111), (13, 78, 2, 210), (13, 79, 2, 112), (13, 83, 2, 212), (13, 84, 2, 114), (13, 87, 2, 213), (13, 88, 2, 115), (13, 91, 2, 214), (13, 92, 2, 116), (13, 95, 2, 215), (13, 96, 2, 117), (13, 99, 2, 217), (13, 100, 2, 118), (13, 103, 2, 219), (13, 104, 2, 121), (13, 107, 2, 221), (13, 108, 2, 122), (13, 111, 2, 223), (13, 112, 2, 123), (13, 116, 2, 224), (13, 117, 2, 124), (13, 120, 2, 226), (13, 121, 2, 127), (13, 124, 2, 228), (13, 125, 2, 128), (13, 128, 2, 229), (13, 129, 2, 130), (13, 132, 2, 232), (13, 133, 2, 132), (13, 136, 2, 237), (13, 137, 2, 137), (13, 140, 2, 238), (13, 141, 2, 138), (13, 144, 2, 239), (13, 145, 2, 139), (13, 148, 2, 240), (13, 149, 2, 140), (13, 152, 2, 241), (13, 153, 2, 144), (13, 156, 2, 245), (13, 157, 2, 145), (13, 160, 2, 246), (13, 161, 2, 146), (13, 164, 2, 248), (13, 165, 2, 147), (13, 168, 2, 249), (13, 169, 2, 148), (13, 172, 2, 250), (13, 173, 2, 151), (13, 176, 2, 251), (13, 177, 2, 152), (13, 180, 2, 252), (13, 181, 2, 153), (13, 185, 2, 253), (13, 186, 2, 154), (13, 190, 2, 254), (13, 191, 2, 155), (13, 194, 2, 256)]
def bltL : List (Nat × Nat × Nat) := [(0, 3, 1), (0, 30, 2), (1, 3, 1), (1, 62, 5), (1, 68, 4), (2, 3, 1), (2, 25, 4), (3, 3, 1), (4, 3, 1), (5, 3, 1), (6, 5, 1), (6, 52, 7), (6, 64, 8), (7, 3, 1), (8, 3, 1), (8, 130, 4), (9, 3, 1), (9, 78, 5), (10, 3, 1), (11, 1, 1), (11, 338, 2), (11, 353, 6), (12, 1, 1), (16, 150, 2), (16, 304, 5), (16, 316, 3)]
def newL : List (Nat × Nat × Nat) := [(1, 19, 7), (3, 19, 7), (8, 29, 5), (11, 7, 10), (11, 16, 2), (11, 23, 6), (11, 30, 3), (11, 39, 1), (11, 48, 9), (11, 57, 8), (11, 66, 4), (11, 73, 0), (13, 7, 11), (13, 10, 12)]
def anwL : List (Nat × Nat × Nat) := [(1, 19, 17), (11, 66, 16)]
def cstL : List (Nat × Nat × Int) := [(11, 295, 99999), (12, 162, 100000), (12, 296, 99999), (14, 265, 1431655765), (14, 266, 858993459), (14, 267, 252645135)]
def ct2L : List (Nat × Nat × Int) := [(8, 121, -1), (9, 87, 48271), (9, 89, 2147483647), (11, 176, -4611686018427387904), (11, 227, 100), (12, 207, -4611686018427387904), (12, 249, 100), (12, 265, -1), (12, 288, 48271), (12, 290, 2147483647)]
def FOK (e : Nat × Nat × Nat × Nat) : Prop := Cond.fieldLink (cname e.1) e.2.1 (TXs e.2.2.1 e.2.2.2).1 (TXs e.2.2.1 e.2.2.2).2.1 (TXs e.2.2.1 e.2.2.2).2.2.1 ∈ TB ∧ e.2.2.2 < nF e.2.2.1 ∧ e.2.2.1 < 13
set_option maxRecDepth 20000 in
theorem fok_0 : FOK (0, 9, 0, 1) := ⟨(tb2 108 rfl rfl), by decide, by decide⟩
set_option maxRecDepth 20000 in
theorem fok_1 : FOK (0, 15, 0, 2) := ⟨(tb2 109 rfl rfl), by decide, by decide⟩
set_option maxRecDepth 20000 in
theorem fok_2 : FOK (0, 18, 0, 0) := ⟨(tb2 106 rfl rfl), by decide, by decide⟩
set_option maxRecDepth 20000 in
theorem fok_3 : FOK (0, 22, 10, 0) := ⟨(tb1 38 rfl rfl), by decide, by decide⟩
set_option maxRecDepth 20000 in
theorem fok_4 : FOK (0, 28, 0, 3) := ⟨(tb2 110 rfl rfl), by decide, by decide⟩
set_option maxRecDepth 20000 in
theorem fok_5 : FOK (0, 29, 10, 1) := ⟨(tb1 43 rfl rfl), by decide, by decide⟩
set_option maxRecDepth 20000 in
theorem fok_6 : FOK (0, 36, 2, 3) := ⟨(tb1 71 rfl rfl), by decide, by decide⟩
set_option maxRecDepth 20000 in
theorem fok_7 : FOK (0, 39, 2, 0) := ⟨(tb1 59 rfl rfl), by decide, by decide⟩
set_option maxRecDepth 20000 in
theorem fok_8 : FOK (0, 42, 0, 4) := ⟨(tb2 111 rfl rfl), by decide, by decide⟩
set_option maxRecDepth 20000 in
theorem fok_9 : FOK (0, 43, 1, 6) := ⟨(tb1 179 rfl rfl), by decide, by decide⟩
set_option maxRecDepth 20000 in
theorem fok_10 : FOK (0, 48, 0, 5) := ⟨(tb2 112 rfl rfl), by decide, by decide⟩
set_option maxRecDepth 20000 in
theorem fok_11 : FOK (1, 9, 1, 0) := ⟨(tb1 172 rfl rfl), by decide, by decide⟩
set_option maxRecDepth 20000 in
theorem fok_12 : FOK (1, 15, 1, 1) := ⟨(tb1 173 rfl rfl), by decide, by decide⟩
set_option maxRecDepth 20000 in
theorem fok_13 : FOK (1, 21, 1, 2) := ⟨(tb1 174 rfl rfl), by decide, by decide⟩
set_option maxRecDepth 20000 in
theorem fok_14 : FOK (1, 25, 1, 3) := ⟨(tb1 175 rfl rfl), by decide, by decide⟩
set_option maxRecDepth 20000 in
theorem fok_15 : FOK (1, 29, 1, 4) := ⟨(tb1 176 rfl rfl), by decide, by decide⟩
set_option maxRecDepth 20000 in
theorem fok_16 : FOK (1, 35, 1, 5) := ⟨(tb1 177 rfl rfl), by decide, by decide⟩
set_option maxRecDepth 20000 in
theorem fok_17 : FOK (1, 49, 10, 1) := ⟨(tb1 45 rfl rfl), by decide, by decide⟩
set_option maxRecDepth 20000 in
theorem fok_18 : FOK (1, 52, 10, 0) := ⟨(tb1 41 rfl rfl), by decide, by decide⟩
set_option maxRecDepth 20000 in
theorem fok_19 : FOK (1, 55, 2, 2) := ⟨(tb1 67 rfl rfl), by decide, by decide⟩
set_option maxRecDepth 20000 in
theorem fok_20 : FOK (1, 71, 2, 0) := ⟨(tb1 61 rfl rfl), by decide, by decide⟩
set_option maxRecDepth 20000 in
theorem fok_21 : FOK (1, 72, 1, 6) := ⟨(tb1 181 rfl rfl), by decide, by decide⟩
set_option maxRecDepth 20000 in
theorem fok_22 : FOK (1, 75, 2, 3) := ⟨(tb1 73 rfl rfl), by decide, by decide⟩
set_option maxRecDepth 20000 in
theorem fok_23 : FOK (2, 9, 2, 1) := ⟨(tb1 63 rfl rfl), by decide, by decide⟩
set_option maxRecDepth 20000 in
theorem fok_24 : FOK (2, 15, 2, 2) := ⟨(tb1 66 rfl rfl), by decide, by decide⟩
set_option maxRecDepth 20000 in
theorem fok_25 : FOK (2, 18, 2, 3) := ⟨(tb1 70 rfl rfl), by decide, by decide⟩
set_option maxRecDepth 20000 in
theorem fok_26 : FOK (2, 21, 2, 0) := ⟨(tb1 58 rfl rfl), by decide, by decide⟩
set_option maxRecDepth 20000 in
theorem fok_27 : FOK (3, 9, 3, 0) := ⟨(tb1 119 rfl rfl), by decide, by decide⟩
set_option maxRecDepth 20000 in
theorem fok_28 : FOK (3, 15, 3, 1) := ⟨(tb1 120 rfl rfl), by decide, by decide⟩
set_option maxRecDepth 20000 in
theorem fok_29 : FOK (3, 21, 3, 2) := ⟨(tb1 121 rfl rfl), by decide, by decide⟩
set_option maxRecDepth 20000 in
theorem fok_30 : FOK (3, 24, 3, 3) := ⟨(tb1 122 rfl rfl), by decide, by decide⟩
set_option maxRecDepth 20000 in
theorem fok_31 : FOK (3, 28, 3, 4) := ⟨(tb1 123 rfl rfl), by decide, by decide⟩
set_option maxRecDepth 20000 in
theorem fok_32 : FOK (3, 43, 6, 2) := ⟨(tb1 93 rfl rfl), by decide, by decide⟩
set_option maxRecDepth 20000 in
theorem fok_33 : FOK (3, 52, 6, 4) := ⟨(tb1 97 rfl rfl), by decide, by decide⟩
set_option maxRecDepth 20000 in
theorem fok_34 : FOK (3, 79, 6, 3) := ⟨(tb1 96 rfl rfl), by decide, by decide⟩
set_option maxRecDepth 20000 in
theorem fok_35 : FOK (4, 11, 4, 0) := ⟨(tb2 87 rfl rfl), by decide, by decide⟩
set_option maxRecDepth 20000 in
theorem fok_36 : FOK (4, 15, 4, 2) := ⟨(tb2 91 rfl rfl), by decide, by decide⟩
set_option maxRecDepth 20000 in
theorem fok_37 : FOK (4, 19, 4, 1) := ⟨(tb2 89 rfl rfl), by decide, by decide⟩
set_option maxRecDepth 20000 in
theorem fok_38 : FOK (5, 9, 5, 0) := ⟨(tb2 20 rfl rfl), by decide, by decide⟩
set_option maxRecDepth 20000 in
theorem fok_39 : FOK (5, 19, 5, 1) := ⟨(tb2 21 rfl rfl), by decide, by decide⟩
set_option maxRecDepth 20000 in
theorem fok_40 : FOK (5, 22, 5, 2) := ⟨(tb2 22 rfl rfl), by decide, by decide⟩
set_option maxRecDepth 20000 in
theorem fok_41 : FOK (5, 26, 5, 3) := ⟨(tb2 23 rfl rfl), by decide, by decide⟩
set_option maxRecDepth 20000 in
theorem fok_42 : FOK (5, 33, 5, 4) := ⟨(tb2 24 rfl rfl), by decide, by decide⟩
set_option maxRecDepth 20000 in
theorem fok_43 : FOK (6, 11, 6, 0) := ⟨(tb1 90 rfl rfl), by decide, by decide⟩
set_option maxRecDepth 20000 in
theorem fok_44 : FOK (6, 15, 6, 1) := ⟨(tb1 91 rfl rfl), by decide, by decide⟩
set_option maxRecDepth 20000 in
theorem fok_45 : FOK (6, 19, 6, 5) := ⟨(tb1 99 rfl rfl), by decide, by decide⟩
set_option maxRecDepth 20000 in
theorem fok_46 : FOK (6, 29, 6, 4) := ⟨(tb1 98 rfl rfl), by decide, by decide⟩
set_option maxRecDepth 20000 in
theorem fok_47 : FOK (6, 32, 6, 2) := ⟨(tb1 94 rfl rfl), by decide, by decide⟩
set_option maxRecDepth 20000 in
theorem fok_48 : FOK (6, 61, 6, 3) := ⟨(tb1 95 rfl rfl), by decide, by decide⟩
set_option maxRecDepth 20000 in
theorem fok_49 : FOK (7, 15, 7, 1) := ⟨(tb1 166 rfl rfl), by decide, by decide⟩
set_option maxRecDepth 20000 in
theorem fok_50 : FOK (7, 19, 7, 0) := ⟨(tb1 165 rfl rfl), by decide, by decide⟩
set_option maxRecDepth 20000 in
theorem fok_51 : FOK (8, 9, 8, 0) := ⟨(tb2 37 rfl rfl), by decide, by decide⟩
set_option maxRecDepth 20000 in
theorem fok_52 : FOK (8, 15, 8, 1) := ⟨(tb2 38 rfl rfl), by decide, by decide⟩
set_option maxRecDepth 20000 in
theorem fok_53 : FOK (8, 19, 8, 2) := ⟨(tb2 39 rfl rfl), by decide, by decide⟩
set_option maxRecDepth 20000 in
theorem fok_54 : FOK (8, 22, 8, 3) := ⟨(tb2 40 rfl rfl), by decide, by decide⟩
set_option maxRecDepth 20000 in
theorem fok_55 : FOK (8, 25, 8, 4) := ⟨(tb2 41 rfl rfl), by decide, by decide⟩
set_option maxRecDepth 20000 in
theorem fok_56 : FOK (8, 34, 8, 5) := ⟨(tb2 42 rfl rfl), by decide, by decide⟩
set_option maxRecDepth 20000 in
theorem fok_57 : FOK (8, 38, 8, 6) := ⟨(tb2 43 rfl rfl), by decide, by decide⟩
set_option maxRecDepth 20000 in
theorem fok_58 : FOK (8, 41, 8, 7) := ⟨(tb2 44 rfl rfl), by decide, by decide⟩
set_option maxRecDepth 20000 in
theorem fok_59 : FOK (8, 44, 8, 8) := ⟨(tb2 45 rfl rfl), by decide, by decide⟩
set_option maxRecDepth 20000 in
theorem fok_60 : FOK (8, 47, 8, 9) := ⟨(tb2 46 rfl rfl), by decide, by decide⟩
set_option maxRecDepth 20000 in
theorem fok_61 : FOK (8, 55, 8, 10) := ⟨(tb2 47 rfl rfl), by decide, by decide⟩
set_option maxRecDepth 20000 in
theorem fok_62 : FOK (8, 59, 9, 7) := ⟨(tb1 213 rfl rfl), by decide, by decide⟩
set_option maxRecDepth 20000 in
theorem fok_63 : FOK (8, 70, 8, 13) := ⟨(tb2 50 rfl rfl), by decide, by decide⟩
set_option maxRecDepth 20000 in
theorem fok_64 : FOK (8, 110, 8, 11) := ⟨(tb2 48 rfl rfl), by decide, by decide⟩
set_option maxRecDepth 20000 in
theorem fok_65 : FOK (8, 113, 8, 12) := ⟨(tb2 49 rfl rfl), by decide, by decide⟩
set_option maxRecDepth 20000 in
theorem fok_66 : FOK (9, 9, 9, 0) := ⟨(tb1 204 rfl rfl), by decide, by decide⟩
set_option maxRecDepth 20000 in
theorem fok_67 : FOK (9, 15, 9, 1) := ⟨(tb1 205 rfl rfl), by decide, by decide⟩
set_option maxRecDepth 20000 in
theorem fok_68 : FOK (9, 19, 9, 2) := ⟨(tb1 206 rfl rfl), by decide, by decide⟩
set_option maxRecDepth 20000 in
theorem fok_69 : FOK (9, 23, 9, 3) := ⟨(tb1 207 rfl rfl), by decide, by decide⟩
set_option maxRecDepth 20000 in
theorem fok_70 : FOK (9, 27, 9, 4) := ⟨(tb1 208 rfl rfl), by decide, by decide⟩
set_option maxRecDepth 20000 in
theorem fok_71 : FOK (9, 30, 9, 5) := ⟨(tb1 209 rfl rfl), by decide, by decide⟩
set_option maxRecDepth 20000 in
theorem fok_72 : FOK (9, 34, 9, 6) := ⟨(tb1 210 rfl rfl), by decide, by decide⟩
set_option maxRecDepth 20000 in
theorem fok_73 : FOK (9, 37, 9, 7) := ⟨(tb1 212 rfl rfl), by decide, by decide⟩
set_option maxRecDepth 20000 in
theorem fok_74 : FOK (9, 41, 2, 0) := ⟨(tb1 60 rfl rfl), by decide, by decide⟩
set_option maxRecDepth 20000 in
theorem fok_75 : FOK (9, 46, 10, 0) := ⟨(tb1 40 rfl rfl), by decide, by decide⟩
set_option maxRecDepth 20000 in
theorem fok_76 : FOK (9, 51, 1, 6) := ⟨(tb1 180 rfl rfl), by decide, by decide⟩
set_option maxRecDepth 20000 in
theorem fok_77 : FOK (9, 56, 2, 1) := ⟨(tb1 64 rfl rfl), by decide, by decide⟩
set_option maxRecDepth 20000 in
theorem fok_78 : FOK (9, 59, 2, 3) := ⟨(tb1 72 rfl rfl), by decide, by decide⟩
set_option maxRecDepth 20000 in
theorem fok_79 : FOK (9, 71, 2, 2) := ⟨(tb1 68 rfl rfl), by decide, by decide⟩
set_option maxRecDepth 20000 in
theorem fok_80 : FOK (10, 9, 10, 0) := ⟨(tb1 37 rfl rfl), by decide, by decide⟩
set_option maxRecDepth 20000 in
theorem fok_81 : FOK (10, 15, 10, 1) := ⟨(tb1 42 rfl rfl), by decide, by decide⟩
set_option maxRecDepth 20000 in
theorem fok_82 : FOK (11, 10, 11, 0) := ⟨(tb2 126 rfl rfl), by decide, by decide⟩
set_option maxRecDepth 20000 in
theorem fok_83 : FOK (11, 19, 11, 1) := ⟨(tb2 127 rfl rfl), by decide, by decide⟩
set_option maxRecDepth 20000 in
theorem fok_84 : FOK (11, 26, 11, 2) := ⟨(tb2 128 rfl rfl), by decide, by decide⟩
set_option maxRecDepth 20000 in
theorem fok_85 : FOK (11, 35, 11, 3) := ⟨(tb2 129 rfl rfl), by decide, by decide⟩
set_option maxRecDepth 20000 in
theorem fok_86 : FOK (11, 44, 11, 4) := ⟨(tb2 130 rfl rfl), by decide, by decide⟩
set_option maxRecDepth 20000 in
theorem fok_87 : FOK (11, 53, 11, 5) := ⟨(tb2 131 rfl rfl), by decide, by decide⟩
set_option maxRecDepth 20000 in
theorem fok_88 : FOK (11, 62, 11, 6) := ⟨(tb2 132 rfl rfl), by decide, by decide⟩
set_option maxRecDepth 20000 in
theorem fok_89 : FOK (11, 68, 11, 7) := ⟨(tb2 133 rfl rfl), by decide, by decide⟩
set_option maxRecDepth 20000 in
theorem fok_90 : FOK (11, 76, 11, 8) := ⟨(tb2 134 rfl rfl), by decide, by decide⟩
set_option maxRecDepth 20000 in
theorem fok_91 : FOK (11, 92, 10, 0) := ⟨(tb1 39 rfl rfl), by decide, by decide⟩
set_option maxRecDepth 20000 in
theorem fok_92 : FOK (11, 103, 10, 1) := ⟨(tb1 44 rfl rfl), by decide, by decide⟩
set_option maxRecDepth 20000 in
theorem fok_93 : FOK (11, 107, 2, 0) := ⟨(tb1 62 rfl rfl), by decide, by decide⟩
set_option maxRecDepth 20000 in
theorem fok_94 : FOK (11, 110, 1, 5) := ⟨(tb1 178 rfl rfl), by decide, by decide⟩
set_option maxRecDepth 20000 in
theorem fok_95 : FOK (11, 111, 1, 6) := ⟨(tb1 182 rfl rfl), by decide, by decide⟩
set_option maxRecDepth 20000 in
theorem fok_96 : FOK (11, 114, 6, 1) := ⟨(tb1 92 rfl rfl), by decide, by decide⟩
set_option maxRecDepth 20000 in
theorem fok_97 : FOK (11, 128, 3, 4) := ⟨(tb1 124 rfl rfl), by decide, by decide⟩
set_option maxRecDepth 20000 in
theorem fok_98 : FOK (11, 136, 2, 3) := ⟨(tb1 74 rfl rfl), by decide, by decide⟩
set_option maxRecDepth 20000 in
theorem fok_99 : FOK (11, 155, 2, 1) := ⟨(tb1 65 rfl rfl), by decide, by decide⟩
set_option maxRecDepth 20000 in
theorem fok_100 : FOK (11, 158, 2, 2) := ⟨(tb1 69 rfl rfl), by decide, by decide⟩
set_option maxRecDepth 20000 in
theorem fok_101 : FOK (11, 262, 4, 1) := ⟨(tb2 90 rfl rfl), by decide, by decide⟩
set_option maxRecDepth 20000 in
theorem fok_102 : FOK (11, 263, 4, 2) := ⟨(tb2 92 rfl rfl), by decide, by decide⟩
set_option maxRecDepth 20000 in
theorem fok_103 : FOK (11, 302, 9, 6) := ⟨(tb1 211 rfl rfl), by decide, by decide⟩
set_option maxRecDepth 20000 in
theorem fok_104 : FOK (11, 322, 0, 0) := ⟨(tb2 107 rfl rfl), by decide, by decide⟩
set_option maxRecDepth 20000 in
theorem fok_105 : FOK (11, 332, 4, 0) := ⟨(tb2 88 rfl rfl), by decide, by decide⟩
set_option maxRecDepth 20000 in
theorem fok_106 : FOK (12, 7, 12, 0) := ⟨(tb5 155 rfl rfl), by decide, by decide⟩
set_option maxRecDepth 20000 in
theorem fok_107 : FOK (12, 13, 12, 1) := ⟨(tb5 156 rfl rfl), by decide, by decide⟩
set_option maxRecDepth 20000 in
theorem fok_108 : FOK (12, 17, 12, 3) := ⟨(tb5 158 rfl rfl), by decide, by decide⟩
set_option maxRecDepth 20000 in
theorem fok_109 : FOK (12, 20, 12, 4) := ⟨(tb5 159 rfl rfl), by decide, by decide⟩
set_option maxRecDepth 20000 in
theorem fok_110 : FOK (12, 23, 12, 5) := ⟨(tb5 160 rfl rfl), by decide, by decide⟩
set_option maxRecDepth 20000 in
theorem fok_111 : FOK (12, 26, 12, 6) := ⟨(tb5 161 rfl rfl), by decide, by decide⟩
set_option maxRecDepth 20000 in
theorem fok_112 : FOK (12, 29, 12, 8) := ⟨(tb5 163 rfl rfl), by decide, by decide⟩
set_option maxRecDepth 20000 in
theorem fok_113 : FOK (12, 32, 12, 9) := ⟨(tb5 164 rfl rfl), by decide, by decide⟩
set_option maxRecDepth 20000 in
theorem fok_114 : FOK (12, 35, 12, 16) := ⟨(tb5 171 rfl rfl), by decide, by decide⟩
set_option maxRecDepth 20000 in
theorem fok_115 : FOK (12, 38, 12, 17) := ⟨(tb5 172 rfl rfl), by decide, by decide⟩
set_option maxRecDepth 20000 in
theorem fok_116 : FOK (12, 41, 12, 18) := ⟨(tb5 173 rfl rfl), by decide, by decide⟩
set_option maxRecDepth 20000 in
theorem fok_117 : FOK (12, 44, 12, 19) := ⟨(tb5 174 rfl rfl), by decide, by decide⟩
set_option maxRecDepth 20000 in
theorem fok_118 : FOK (12, 47, 12, 20) := ⟨(tb5 175 rfl rfl), by decide, by decide⟩
set_option maxRecDepth 20000 in
theorem fok_119 : FOK (12, 50, 12, 25) := ⟨(tb5 180 rfl rfl), by decide, by decide⟩
set_option maxRecDepth 20000 in
theorem fok_120 : FOK (12, 53, 12, 26) := ⟨(tb5 181 rfl rfl), by decide, by decide⟩
set_option maxRecDepth 20000 in
theorem fok_121 : FOK (12, 56, 12, 30) := ⟨(tb5 185 rfl rfl), by decide, by decide⟩
set_option maxRecDepth 20000 in
theorem fok_122 : FOK (12, 59, 12, 31) := ⟨(tb5 186 rfl rfl), by decide, by decide⟩
set_option maxRecDepth 20000 in
theorem fok_123 : FOK (12, 62, 12, 32) := ⟨(tb5 187 rfl rfl), by decide, by decide⟩
set_option maxRecDepth 20000 in
theorem fok_124 : FOK (12, 65, 12, 33) := ⟨(tb5 188 rfl rfl), by decide, by decide⟩
set_option maxRecDepth 20000 in
theorem fok_125 : FOK (12, 69, 12, 34) := ⟨(tb5 189 rfl rfl), by decide, by decide⟩
set_option maxRecDepth 20000 in
theorem fok_126 : FOK (12, 72, 12, 35) := ⟨(tb5 190 rfl rfl), by decide, by decide⟩
set_option maxRecDepth 20000 in
theorem fok_127 : FOK (12, 75, 12, 36) := ⟨(tb5 191 rfl rfl), by decide, by decide⟩
set_option maxRecDepth 20000 in
theorem fok_128 : FOK (12, 78, 12, 37) := ⟨(tb5 192 rfl rfl), by decide, by decide⟩
set_option maxRecDepth 20000 in
theorem fok_129 : FOK (12, 81, 12, 38) := ⟨(tb5 193 rfl rfl), by decide, by decide⟩
set_option maxRecDepth 20000 in
theorem fok_130 : FOK (12, 84, 12, 39) := ⟨(tb5 194 rfl rfl), by decide, by decide⟩
set_option maxRecDepth 20000 in
theorem fok_131 : FOK (12, 87, 12, 40) := ⟨(tb5 195 rfl rfl), by decide, by decide⟩
set_option maxRecDepth 20000 in
theorem fok_132 : FOK (12, 90, 12, 7) := ⟨(tb5 162 rfl rfl), by decide, by decide⟩
set_option maxRecDepth 20000 in
theorem fok_133 : FOK (12, 101, 12, 2) := ⟨(tb5 157 rfl rfl), by decide, by decide⟩
set_option maxRecDepth 20000 in
theorem fok_134 : FOK (12, 111, 12, 10) := ⟨(tb5 165 rfl rfl), by decide, by decide⟩
set_option maxRecDepth 20000 in
theorem fok_135 : FOK (12, 114, 12, 11) := ⟨(tb5 166 rfl rfl), by decide, by decide⟩
set_option maxRecDepth 20000 in
theorem fok_136 : FOK (12, 120, 12, 21) := ⟨(tb5 176 rfl rfl), by decide, by decide⟩
set_option maxRecDepth 20000 in
theorem fok_137 : FOK (12, 123, 12, 22) := ⟨(tb5 177 rfl rfl), by decide, by decide⟩
set_option maxRecDepth 20000 in
theorem fok_138 : FOK (12, 126, 12, 23) := ⟨(tb5 178 rfl rfl), by decide, by decide⟩
set_option maxRecDepth 20000 in
theorem fok_139 : FOK (12, 129, 12, 24) := ⟨(tb5 179 rfl rfl), by decide, by decide⟩
set_option maxRecDepth 20000 in
theorem fok_140 : FOK (12, 136, 12, 29) := ⟨(tb5 184 rfl rfl), by decide, by decide⟩
set_option maxRecDepth 20000 in
theorem fok_141 : FOK (12, 139, 12, 27) := ⟨(tb5 182 rfl rfl), by decide, by decide⟩
set_option maxRecDepth 20000 in
theorem fok_142 : FOK (12, 146, 12, 28) := ⟨(tb5 183 rfl rfl), by decide, by decide⟩
set_option maxRecDepth 20000 in
theorem fok_143 : FOK (12, 306, 12, 12) := ⟨(tb5 167 rfl rfl), by decide, by decide⟩
set_option maxRecDepth 20000 in
theorem fok_144 : FOK (12, 310, 12, 13) := ⟨(tb5 168 rfl rfl), by decide, by decide⟩
set_option maxRecDepth 20000 in
theorem fok_145 : FOK (12, 313, 12, 14) := ⟨(tb5 169 rfl rfl), by decide, by decide⟩
set_option maxRecDepth 20000 in
theorem fok_146 : FOK (12, 316, 12, 15) := ⟨(tb5 170 rfl rfl), by decide, by decide⟩
set_option maxRecDepth 20000 in
theorem fok : ∀ e ∈ fldL, FOK e := (List.forall_mem_cons.mpr ⟨fok_0, (List.forall_mem_cons.mpr ⟨fok_1, (List.forall_mem_cons.mpr ⟨fok_2, (List.forall_mem_cons.mpr ⟨fok_3, (List.forall_mem_cons.mpr ⟨fok_4, (List.forall_mem_cons.mpr ⟨fok_5, (List.forall_mem_cons.mpr ⟨fok_6, (List.forall_mem_cons.mpr ⟨fok_7, (List.forall_mem_cons.mpr ⟨fok_8, (List.forall_mem_cons.mpr ⟨fok_9, (List.forall_mem_cons.mpr ⟨fok_10, (List.forall_mem_cons.mpr ⟨fok_11, (List.forall_mem_cons.mpr ⟨fok_12, (List.forall_mem_cons.mpr ⟨fok_13, (List.forall_mem_cons.mpr ⟨fok_14, (List.forall_mem_cons.mpr ⟨fok_15, (List.forall_mem_cons.mpr ⟨fok_16, (List.forall_mem_cons.mpr ⟨fok_17, (List.forall_mem_cons.mpr ⟨fok_18, (List.forall_mem_cons.mpr ⟨fok_19, (List.forall_mem_cons.mpr ⟨fok_20, (List.forall_mem_cons.mpr ⟨fok_21, (List.forall_mem_cons.mpr ⟨fok_22, (List.forall_mem_cons.mpr ⟨fok_23, (List.forall_mem_cons.mpr ⟨fok_24, (List.forall_mem_cons.mpr ⟨fok_25, (List.forall_mem_cons.mpr ⟨fok_26, (List.forall_mem_cons.mpr ⟨fok_27, (List.forall_mem_cons.mpr ⟨fok_28, (List.forall_mem_cons.mpr ⟨fok_29, (List.forall_mem_cons.mpr ⟨fok_30, (List.forall_mem_cons.mpr ⟨fok_31, (List.forall_mem_cons.mpr ⟨fok_32, (List.forall_mem_cons.mpr ⟨fok_33, (List.forall_mem_cons.mpr ⟨fok_34, (List.forall_mem_cons.mpr ⟨fok_35, (List.forall_mem_cons.mpr ⟨fok_36, (List.forall_mem_cons.mpr ⟨fok_37, (List.forall_mem_cons.mpr ⟨fok_38, (List.forall_mem_cons.mpr ⟨fok_39, (List.forall_mem_cons.mpr ⟨fok_40, (List.forall_mem_cons.mpr ⟨fok_41, (List.forall_mem_cons.mpr ⟨fok_42, (List.forall_mem_cons.mpr ⟨fok_43, (List.forall_mem_cons.mpr ⟨fok_44, (List.forall_mem_cons.mpr ⟨fok_45, (List.forall_mem_cons.mpr ⟨fok_46, (List.forall_mem_cons.mpr ⟨fok_47, (List.forall_mem_cons.mpr ⟨fok_48, (List.forall_mem_cons.mpr ⟨fok_49, (List.forall_mem_cons.mpr ⟨fok_50, (List.forall_mem_cons.mpr ⟨fok_51, (List.forall_mem_cons.mpr ⟨fok_52, (List.forall_mem_cons.mpr ⟨fok_53, (List.forall_mem_cons.mpr ⟨fok_54, (List.forall_mem_cons.mpr ⟨fok_55, (List.forall_mem_cons.mpr ⟨fok_56, (List.forall_mem_cons.mpr ⟨fok_57, (List.forall_mem_cons.mpr ⟨fok_58, (List.forall_mem_cons.mpr ⟨fok_59, (List.forall_mem_cons.mpr ⟨fok_60, (List.forall_mem_cons.mpr ⟨fok_61, (List.forall_mem_cons.mpr ⟨fok_62, (List.forall_mem_cons.mpr ⟨fok_63, (List.forall_mem_cons.mpr ⟨fok_64, (List.forall_mem_cons.mpr ⟨fok_65, (List.forall_mem_cons.mpr ⟨fok_66, (List.forall_mem_cons.mpr ⟨fok_67, (List.forall_mem_cons.mpr ⟨fok_68, (List.forall_mem_cons.mpr ⟨fok_69, (List.forall_mem_cons.mpr ⟨fok_70, (List.forall_mem_cons.mpr ⟨fok_71, (List.forall_mem_cons.mpr ⟨fok_72, (List.forall_mem_cons.mpr ⟨fok_73, (List.forall_mem_cons.mpr ⟨fok_74, (List.forall_mem_cons.mpr ⟨fok_75, (List.forall_mem_cons.mpr ⟨fok_76, (List.forall_mem_cons.mpr ⟨fok_77, (List.forall_mem_cons.mpr ⟨fok_78, (List.forall_mem_cons.mpr ⟨fok_79, (List.forall_mem_cons.mpr ⟨fok_80, (List.forall_mem_cons.mpr ⟨fok_81, (List.forall_mem_cons.mpr ⟨fok_82, (List.forall_mem_cons.mpr ⟨fok_83, (List.forall_mem_cons.mpr ⟨fok_84, (List.forall_mem_cons.mpr ⟨fok_85, (List.forall_mem_cons.mpr ⟨fok_86, (List.forall_mem_cons.mpr ⟨fok_87, (List.forall_mem_cons.mpr ⟨fok_88, (List.forall_mem_cons.mpr ⟨fok_89, (List.forall_mem_cons.mpr ⟨fok_90, (List.forall_mem_cons.mpr ⟨fok_91, (List.forall_mem_cons.mpr ⟨fok_92, (List.forall_mem_cons.mpr ⟨fok_93, (List.forall_mem_cons.mpr ⟨fok_94, (List.forall_mem_cons.mpr ⟨fok_95, (List.forall_mem_cons.mpr ⟨fok_96, (List.forall_mem_cons.mpr ⟨fok_97, (List.forall_mem_cons.mpr ⟨fok_98, (List.forall_mem_cons.mpr ⟨fok_99, (List.forall_mem_cons.mpr ⟨fok_100, (List.forall_mem_cons.mpr ⟨fok_101, (List.forall_mem_cons.mpr ⟨fok_102, (List.forall_mem_cons.mpr ⟨fok_103, (List.forall_mem_cons.mpr ⟨fok_104, (List.forall_mem_cons.mpr ⟨fok_105, (List.forall_mem_cons.mpr ⟨fok_106, (List.forall_mem_cons.mpr ⟨fok_107, (List.forall_mem_cons.mpr ⟨fok_108, (List.forall_mem_cons.mpr ⟨fok_109, (List.forall_mem_cons.mpr ⟨fok_110, (List.forall_mem_cons.mpr ⟨fok_111, (List.forall_mem_cons.mpr ⟨fok_112, (List.forall_mem_cons.mpr ⟨fok_113, (List.forall_mem_cons.mpr ⟨fok_114, (List.forall_mem_cons.mpr ⟨fok_115, (List.forall_mem_cons.mpr ⟨fok_116, (List.forall_mem_cons.mpr ⟨fok_117, (List.forall_mem_cons.mpr ⟨fok_118, (List.forall_mem_cons.mpr ⟨fok_119, (List.forall_mem_cons.mpr ⟨fok_120, (List.forall_mem_cons.mpr ⟨fok_121, (List.forall_mem_cons.mpr ⟨fok_122, (List.forall_mem_cons.mpr ⟨fok_123, (List.forall_mem_cons.mpr ⟨fok_124, (List.forall_mem_cons.mpr ⟨fok_125, (List.forall_mem_cons.mpr ⟨fok_126, (List.forall_mem_cons.mpr ⟨fok_127, (List.forall_mem_cons.mpr ⟨fok_128, (List.forall_mem_cons.mpr ⟨fok_129, (List.forall_mem_cons.mpr ⟨fok_130, (List.forall_mem_cons.mpr ⟨fok_131, (List.forall_mem_cons.mpr ⟨fok_132, (List.forall_mem_cons.mpr ⟨fok_133, (List.forall_mem_cons.mpr ⟨fok_134, (List.forall_mem_cons.mpr ⟨fok_135, (List.forall_mem_cons.mpr ⟨fok_136, (List.forall_mem_cons.mpr ⟨fok_137, (List.forall_mem_cons.mpr ⟨fok_138, (List.forall_mem_cons.mpr ⟨fok_139, (List.forall_mem_cons.mpr ⟨fok_140, (List.forall_mem_cons.mpr ⟨fok_141, (List.forall_mem_cons.mpr ⟨fok_142, (List.forall_mem_cons.mpr ⟨fok_143, (List.forall_mem_cons.mpr ⟨fok_144, (List.forall_mem_cons.mpr ⟨fok_145, (List.forall_mem_cons.mpr ⟨fok_146, (fun _ h => absurd h List.not_mem_nil)⟩)⟩)⟩)⟩)⟩)⟩)⟩)⟩)⟩)⟩)⟩)⟩)⟩)⟩)⟩)⟩)⟩)⟩)⟩)⟩)⟩)⟩)⟩)⟩)⟩)⟩)⟩)⟩)⟩)⟩)⟩)⟩)⟩)⟩)⟩)⟩)⟩)⟩)⟩)⟩)⟩)⟩)⟩)⟩)⟩)⟩)⟩)⟩)⟩)⟩)⟩)⟩)⟩)⟩)⟩)⟩)⟩)⟩)⟩)⟩)⟩)⟩)⟩)⟩)⟩)⟩)⟩)⟩)⟩)⟩)⟩)⟩)⟩)⟩)⟩)⟩)⟩)⟩)⟩)⟩)⟩)⟩)⟩)⟩)⟩)⟩)⟩)⟩)⟩)⟩)⟩)⟩)⟩)⟩)⟩)⟩)⟩)⟩)⟩)⟩)⟩)⟩)⟩)⟩)⟩)⟩)⟩)⟩)⟩)⟩)⟩)⟩)⟩)⟩)⟩)⟩)⟩)⟩)⟩)⟩)⟩)⟩)⟩)⟩)⟩)⟩)⟩)⟩)⟩)⟩)⟩)⟩)⟩)⟩)⟩)⟩)⟩)⟩)⟩)⟩)⟩)⟩)⟩)⟩)⟩)⟩)⟩)
def LOK (e : Nat × Nat × Nat × Nat) : Prop := Cond.methodLink (cname e.1) e.2.1 (nmOf e.2.2.2) ∈ TB ∧ Cond.initialized (nmOf e.2.2.2).cls ∈ TB ∧ (nmOf e.2.2.2).cls = cname (clsOf e.2.2.2) ∧ ((e.2.2.1 = 1 ∧ Cond.static (nmOf e.2.2.2) ∈ TB) ∨ (e.2.2.1 = 2 ∧ Cond.instanceMethod (nmOf e.2.2.2) ∈ TB ∧ Cond.selects (nmOf e.2.2.2).cls (nmOf e.2.2.2) (nmOf e.2.2.2) ∈ TB ∧ clsOf e.2.2.2 < 13) ∨ (e.2.2.1 = 3 ∧ Cond.instanceMethod (nmOf e.2.2.2) ∈ TB ∧ (nmOf e.2.2.2).name = "<init>" ∧ clsOf e.2.2.2 < 13 ∧ retOf e.2.2.2 = none))
set_option maxRecDepth 20000 in
theorem lok_0 : LOK (1, 32, 3, 57) := ⟨(tb1 145 rfl rfl), (tb1 7 rfl rfl), rfl, .inr (.inr ⟨rfl, (tb1 146 rfl rfl), rfl, by decide, rfl⟩)⟩
set_option maxRecDepth 20000 in
theorem lok_1 : LOK (1, 39, 2, 4) := ⟨(tb3 117 rfl rfl), (tb1 6 rfl rfl), rfl, .inr (.inl ⟨rfl, (tb3 102 rfl rfl), (tb3 103 rfl rfl), by decide⟩)⟩
set_option maxRecDepth 20000 in
theorem lok_2 : LOK (1, 43, 2, 9) := ⟨(tb3 118 rfl rfl), (tb1 3 rfl rfl), rfl, .inr (.inl ⟨rfl, (tb3 110 rfl rfl), (tb3 111 rfl rfl), by decide⟩)⟩
set_option maxRecDepth 20000 in
theorem lok_3 : LOK (1, 46, 2, 90) := ⟨(tb3 119 rfl rfl), (tb1 2 rfl rfl), rfl, .inr (.inl ⟨rfl, (tb2 178 rfl rfl), (tb2 179 rfl rfl), by decide⟩)⟩
set_option maxRecDepth 20000 in
theorem lok_4 : LOK (1, 58, 2, 58) := ⟨(tb3 120 rfl rfl), (tb1 7 rfl rfl), rfl, .inr (.inl ⟨rfl, (tb3 121 rfl rfl), (tb3 122 rfl rfl), by decide⟩)⟩
set_option maxRecDepth 20000 in
theorem lok_5 : LOK (1, 78, 2, 6) := ⟨(tb4 180 rfl rfl), (tb1 6 rfl rfl), rfl, .inr (.inl ⟨rfl, (tb3 114 rfl rfl), (tb3 115 rfl rfl), by decide⟩)⟩
set_option maxRecDepth 20000 in
theorem lok_6 : LOK (2, 31, 1, 12) := ⟨(tb4 34 rfl rfl), (tb1 3 rfl rfl), rfl, .inl ⟨rfl, (tb3 209 rfl rfl)⟩⟩
set_option maxRecDepth 20000 in
theorem lok_7 : LOK (2, 35, 2, 13) := ⟨(tb4 30 rfl rfl), (tb1 3 rfl rfl), rfl, .inr (.inl ⟨rfl, (tb4 31 rfl rfl), (tb4 32 rfl rfl), by decide⟩)⟩
set_option maxRecDepth 20000 in
theorem lok_8 : LOK (2, 39, 1, 16) := ⟨(tb3 175 rfl rfl), (tb1 3 rfl rfl), rfl, .inl ⟨rfl, (tb3 176 rfl rfl)⟩⟩
set_option maxRecDepth 20000 in
theorem lok_9 : LOK (2, 42, 1, 258) := ⟨(tb4 167 rfl rfl), (tb1 21 rfl rfl), rfl, .inl ⟨rfl, (tb3 234 rfl rfl)⟩⟩
set_option maxRecDepth 20000 in
theorem lok_10 : LOK (2, 47, 2, 19) := ⟨(tb4 168 rfl rfl), (tb1 3 rfl rfl), rfl, .inr (.inl ⟨rfl, (tb4 169 rfl rfl), (tb4 170 rfl rfl), by decide⟩)⟩
set_option maxRecDepth 20000 in
theorem lok_11 : LOK (3, 31, 2, 48) := ⟨(tb2 208 rfl rfl), (tb1 4 rfl rfl), rfl, .inr (.inl ⟨rfl, (tb2 209 rfl rfl), (tb2 210 rfl rfl), by decide⟩)⟩
set_option maxRecDepth 20000 in
theorem lok_12 : LOK (3, 36, 2, 24) := ⟨(tb3 49 rfl rfl), (tb1 5 rfl rfl), rfl, .inr (.inl ⟨rfl, (tb3 51 rfl rfl), (tb0 8 rfl rfl), by decide⟩)⟩
set_option maxRecDepth 20000 in
theorem lok_13 : LOK (3, 40, 2, 26) := ⟨(tb3 58 rfl rfl), (tb1 5 rfl rfl), rfl, .inr (.inl ⟨rfl, (tb3 60 rfl rfl), (tb0 10 rfl rfl), by decide⟩)⟩
set_option maxRecDepth 20000 in
theorem lok_14 : LOK (3, 46, 2, 23) := ⟨(tb3 54 rfl rfl), (tb1 5 rfl rfl), rfl, .inr (.inl ⟨rfl, (tb3 56 rfl rfl), (tb0 9 rfl rfl), by decide⟩)⟩
set_option maxRecDepth 20000 in
theorem lok_15 : LOK (3, 49, 3, 57) := ⟨(tb3 91 rfl rfl), (tb1 7 rfl rfl), rfl, .inr (.inr ⟨rfl, (tb1 146 rfl rfl), rfl, by decide, rfl⟩)⟩
set_option maxRecDepth 20000 in
theorem lok_16 : LOK (3, 55, 2, 49) := ⟨(tb3 53 rfl rfl), (tb1 4 rfl rfl), rfl, .inr (.inl ⟨rfl, (tb2 213 rfl rfl), (tb2 214 rfl rfl), by decide⟩)⟩
set_option maxRecDepth 20000 in
theorem lok_17 : LOK (3, 58, 2, 27) := ⟨(tb3 62 rfl rfl), (tb1 5 rfl rfl), rfl, .inr (.inl ⟨rfl, (tb3 64 rfl rfl), (tb0 11 rfl rfl), by decide⟩)⟩
set_option maxRecDepth 20000 in
theorem lok_18 : LOK (3, 61, 2, 25) := ⟨(tb3 86 rfl rfl), (tb1 5 rfl rfl), rfl, .inr (.inl ⟨rfl, (tb3 88 rfl rfl), (tb0 17 rfl rfl), by decide⟩)⟩
set_option maxRecDepth 20000 in
theorem lok_19 : LOK (3, 64, 2, 28) := ⟨(tb3 66 rfl rfl), (tb1 5 rfl rfl), rfl, .inr (.inl ⟨rfl, (tb3 68 rfl rfl), (tb0 12 rfl rfl), by decide⟩)⟩
set_option maxRecDepth 20000 in
theorem lok_20 : LOK (3, 67, 2, 29) := ⟨(tb3 70 rfl rfl), (tb1 5 rfl rfl), rfl, .inr (.inl ⟨rfl, (tb3 72 rfl rfl), (tb0 13 rfl rfl), by decide⟩)⟩
set_option maxRecDepth 20000 in
theorem lok_21 : LOK (3, 70, 2, 30) := ⟨(tb3 74 rfl rfl), (tb1 5 rfl rfl), rfl, .inr (.inl ⟨rfl, (tb3 76 rfl rfl), (tb0 14 rfl rfl), by decide⟩)⟩
set_option maxRecDepth 20000 in
theorem lok_22 : LOK (3, 73, 2, 31) := ⟨(tb3 78 rfl rfl), (tb1 5 rfl rfl), rfl, .inr (.inl ⟨rfl, (tb3 80 rfl rfl), (tb0 15 rfl rfl), by decide⟩)⟩
set_option maxRecDepth 20000 in
theorem lok_23 : LOK (3, 76, 2, 32) := ⟨(tb3 82 rfl rfl), (tb1 5 rfl rfl), rfl, .inr (.inl ⟨rfl, (tb3 84 rfl rfl), (tb0 16 rfl rfl), by decide⟩)⟩
set_option maxRecDepth 20000 in
theorem lok_24 : LOK (5, 15, 2, 40) := ⟨(tb2 4 rfl rfl), (tb1 13 rfl rfl), rfl, .inr (.inl ⟨rfl, (tb2 6 rfl rfl), (tb0 0 rfl rfl), by decide⟩)⟩
set_option maxRecDepth 20000 in
theorem lok_25 : LOK (5, 29, 2, 41) := ⟨(tb2 8 rfl rfl), (tb1 13 rfl rfl), rfl, .inr (.inl ⟨rfl, (tb2 9 rfl rfl), (tb2 10 rfl rfl), by decide⟩)⟩
set_option maxRecDepth 20000 in
theorem lok_26 : LOK (5, 36, 2, 39) := ⟨(tb2 12 rfl rfl), (tb1 13 rfl rfl), rfl, .inr (.inl ⟨rfl, (tb2 14 rfl rfl), (tb0 1 rfl rfl), by decide⟩)⟩
set_option maxRecDepth 20000 in
theorem lok_27 : LOK (5, 39, 2, 42) := ⟨(tb2 16 rfl rfl), (tb1 13 rfl rfl), rfl, .inr (.inl ⟨rfl, (tb2 18 rfl rfl), (tb0 2 rfl rfl), by decide⟩)⟩
set_option maxRecDepth 20000 in
theorem lok_28 : LOK (5, 42, 2, 44) := ⟨(tb3 229 rfl rfl), (tb1 13 rfl rfl), rfl, .inr (.inl ⟨rfl, (tb3 231 rfl rfl), (tb0 22 rfl rfl), by decide⟩)⟩
set_option maxRecDepth 20000 in
theorem lok_29 : LOK (5, 46, 1, 258) := ⟨(tb3 233 rfl rfl), (tb1 21 rfl rfl), rfl, .inl ⟨rfl, (tb3 234 rfl rfl)⟩⟩
set_option maxRecDepth 20000 in
theorem lok_30 : LOK (6, 22, 2, 49) := ⟨(tb2 212 rfl rfl), (tb1 4 rfl rfl), rfl, .inr (.inl ⟨rfl, (tb2 213 rfl rfl), (tb2 214 rfl rfl), by decide⟩)⟩
set_option maxRecDepth 20000 in
theorem lok_31 : LOK (6, 25, 1, 53) := ⟨(tb2 216 rfl rfl), (tb1 4 rfl rfl), rfl, .inl ⟨rfl, (tb2 217 rfl rfl)⟩⟩
set_option maxRecDepth 20000 in
theorem lok_32 : LOK (6, 35, 1, 54) := ⟨(tb2 219 rfl rfl), (tb1 4 rfl rfl), rfl, .inl ⟨rfl, (tb2 220 rfl rfl)⟩⟩
set_option maxRecDepth 20000 in
theorem lok_33 : LOK (6, 38, 2, 50) := ⟨(tb2 222 rfl rfl), (tb1 4 rfl rfl), rfl, .inr (.inl ⟨rfl, (tb2 224 rfl rfl), (tb0 5 rfl rfl), by decide⟩)⟩
set_option maxRecDepth 20000 in
theorem lok_34 : LOK (6, 41, 1, 55) := ⟨(tb3 39 rfl rfl), (tb1 4 rfl rfl), rfl, .inl ⟨rfl, (tb3 40 rfl rfl)⟩⟩
set_option maxRecDepth 20000 in
theorem lok_35 : LOK (6, 44, 2, 52) := ⟨(tb3 42 rfl rfl), (tb1 4 rfl rfl), rfl, .inr (.inl ⟨rfl, (tb3 44 rfl rfl), (tb0 7 rfl rfl), by decide⟩)⟩
set_option maxRecDepth 20000 in
theorem lok_36 : LOK (6, 47, 1, 56) := ⟨(tb3 46 rfl rfl), (tb1 4 rfl rfl), rfl, .inl ⟨rfl, (tb3 47 rfl rfl)⟩⟩
set_option maxRecDepth 20000 in
theorem lok_37 : LOK (6, 58, 2, 51) := ⟨(tb2 237 rfl rfl), (tb1 4 rfl rfl), rfl, .inr (.inl ⟨rfl, (tb2 239 rfl rfl), (tb0 6 rfl rfl), by decide⟩)⟩
set_option maxRecDepth 20000 in
theorem lok_38 : LOK (7, 9, 1, 260) := ⟨(tb1 149 rfl rfl), (tb1 8 rfl rfl), rfl, .inl ⟨rfl, (tb1 150 rfl rfl)⟩⟩
set_option maxRecDepth 20000 in
theorem lok_39 : LOK (7, 22, 1, 59) := ⟨(tb3 124 rfl rfl), (tb1 7 rfl rfl), rfl, .inl ⟨rfl, (tb3 125 rfl rfl)⟩⟩
set_option maxRecDepth 20000 in
theorem lok_40 : LOK (8, 31, 3, 38) := ⟨(tb2 0 rfl rfl), (tb1 13 rfl rfl), rfl, .inr (.inr ⟨rfl, (tb2 1 rfl rfl), rfl, by decide, rfl⟩)⟩
set_option maxRecDepth 20000 in
theorem lok_41 : LOK (8, 50, 2, 80) := ⟨(tb3 203 rfl rfl), (tb1 11 rfl rfl), rfl, .inr (.inl ⟨rfl, (tb3 165 rfl rfl), (tb3 166 rfl rfl), by decide⟩)⟩
set_option maxRecDepth 20000 in
theorem lok_42 : LOK (8, 60, 2, 83) := ⟨(tb3 204 rfl rfl), (tb1 11 rfl rfl), rfl, .inr (.inl ⟨rfl, (tb3 205 rfl rfl), (tb3 206 rfl rfl), by decide⟩)⟩
set_option maxRecDepth 20000 in
theorem lok_43 : LOK (8, 64, 1, 12) := ⟨(tb3 208 rfl rfl), (tb1 3 rfl rfl), rfl, .inl ⟨rfl, (tb3 209 rfl rfl)⟩⟩
set_option maxRecDepth 20000 in
theorem lok_44 : LOK (8, 73, 2, 84) := ⟨(tb3 211 rfl rfl), (tb1 11 rfl rfl), rfl, .inr (.inl ⟨rfl, (tb3 212 rfl rfl), (tb3 213 rfl rfl), by decide⟩)⟩
set_option maxRecDepth 20000 in
theorem lok_45 : LOK (8, 76, 2, 62) := ⟨(tb3 215 rfl rfl), (tb1 12 rfl rfl), rfl, .inr (.inl ⟨rfl, (tb3 217 rfl rfl), (tb0 20 rfl rfl), by decide⟩)⟩
set_option maxRecDepth 20000 in
theorem lok_46 : LOK (8, 80, 2, 63) := ⟨(tb3 220 rfl rfl), (tb1 12 rfl rfl), rfl, .inr (.inl ⟨rfl, (tb3 222 rfl rfl), (tb0 21 rfl rfl), by decide⟩)⟩
set_option maxRecDepth 20000 in
theorem lok_47 : LOK (8, 83, 2, 43) := ⟨(tb3 225 rfl rfl), (tb1 13 rfl rfl), rfl, .inr (.inl ⟨rfl, (tb3 226 rfl rfl), (tb3 227 rfl rfl), by decide⟩)⟩
set_option maxRecDepth 20000 in
theorem lok_48 : LOK (8, 87, 2, 81) := ⟨(tb3 219 rfl rfl), (tb1 11 rfl rfl), rfl, .inr (.inl ⟨rfl, (tb3 190 rfl rfl), (tb3 191 rfl rfl), by decide⟩)⟩
set_option maxRecDepth 20000 in
theorem lok_49 : LOK (8, 91, 2, 82) := ⟨(tb3 224 rfl rfl), (tb1 11 rfl rfl), rfl, .inr (.inl ⟨rfl, (tb3 181 rfl rfl), (tb3 182 rfl rfl), by decide⟩)⟩
set_option maxRecDepth 20000 in
theorem lok_50 : LOK (8, 94, 2, 45) := ⟨(tb4 8 rfl rfl), (tb1 13 rfl rfl), rfl, .inr (.inl ⟨rfl, (tb4 9 rfl rfl), (tb4 10 rfl rfl), by decide⟩)⟩
set_option maxRecDepth 20000 in
theorem lok_51 : LOK (8, 98, 2, 64) := ⟨(tb4 39 rfl rfl), (tb1 12 rfl rfl), rfl, .inr (.inl ⟨rfl, (tb4 40 rfl rfl), (tb4 41 rfl rfl), by decide⟩)⟩
set_option maxRecDepth 20000 in
theorem lok_52 : LOK (8, 101, 2, 66) := ⟨(tb4 43 rfl rfl), (tb1 12 rfl rfl), rfl, .inr (.inl ⟨rfl, (tb4 44 rfl rfl), (tb4 45 rfl rfl), by decide⟩)⟩
set_option maxRecDepth 20000 in
theorem lok_53 : LOK (8, 103, 2, 41) := ⟨(tb4 3 rfl rfl), (tb1 13 rfl rfl), rfl, .inr (.inl ⟨rfl, (tb2 9 rfl rfl), (tb2 10 rfl rfl), by decide⟩)⟩
set_option maxRecDepth 20000 in
theorem lok_54 : LOK (8, 106, 2, 65) := ⟨(tb4 4 rfl rfl), (tb1 12 rfl rfl), rfl, .inr (.inl ⟨rfl, (tb4 5 rfl rfl), (tb4 6 rfl rfl), by decide⟩)⟩
set_option maxRecDepth 20000 in
theorem lok_55 : LOK (8, 116, 1, 258) := ⟨(tb4 87 rfl rfl), (tb1 21 rfl rfl), rfl, .inl ⟨rfl, (tb3 234 rfl rfl)⟩⟩
set_option maxRecDepth 20000 in
theorem lok_56 : LOK (8, 123, 2, 72) := ⟨(tb4 89 rfl rfl), (tb1 12 rfl rfl), rfl, .inr (.inl ⟨rfl, (tb4 91 rfl rfl), (tb0 23 rfl rfl), by decide⟩)⟩
set_option maxRecDepth 20000 in
theorem lok_57 : LOK (8, 126, 2, 74) := ⟨(tb4 101 rfl rfl), (tb1 12 rfl rfl), rfl, .inr (.inl ⟨rfl, (tb4 103 rfl rfl), (tb0 24 rfl rfl), by decide⟩)⟩
set_option maxRecDepth 20000 in
theorem lok_58 : LOK (8, 135, 2, 75) := ⟨(tb4 106 rfl rfl), (tb1 12 rfl rfl), rfl, .inr (.inl ⟨rfl, (tb4 108 rfl rfl), (tb0 25 rfl rfl), by decide⟩)⟩
set_option maxRecDepth 20000 in
theorem lok_59 : LOK (9, 62, 2, 85) := ⟨(tb3 168 rfl rfl), (tb1 11 rfl rfl), rfl, .inr (.inl ⟨rfl, (tb3 169 rfl rfl), (tb3 170 rfl rfl), by decide⟩)⟩
set_option maxRecDepth 20000 in
theorem lok_60 : LOK (9, 66, 2, 9) := ⟨(tb3 184 rfl rfl), (tb1 3 rfl rfl), rfl, .inr (.inl ⟨rfl, (tb3 110 rfl rfl), (tb3 111 rfl rfl), by decide⟩)⟩
set_option maxRecDepth 20000 in
theorem lok_61 : LOK (9, 70, 2, 90) := ⟨(tb3 193 rfl rfl), (tb1 2 rfl rfl), rfl, .inr (.inl ⟨rfl, (tb2 178 rfl rfl), (tb2 179 rfl rfl), by decide⟩)⟩
set_option maxRecDepth 20000 in
theorem lok_62 : LOK (9, 74, 1, 17) := ⟨(tb3 172 rfl rfl), (tb1 3 rfl rfl), rfl, .inl ⟨rfl, (tb3 173 rfl rfl)⟩⟩
set_option maxRecDepth 20000 in
theorem lok_63 : LOK (9, 84, 2, 6) := ⟨(tb3 179 rfl rfl), (tb1 6 rfl rfl), rfl, .inr (.inl ⟨rfl, (tb3 114 rfl rfl), (tb3 115 rfl rfl), by decide⟩)⟩
set_option maxRecDepth 20000 in
theorem lok_64 : LOK (9, 91, 2, 87) := ⟨(tb5 27 rfl rfl), (tb1 11 rfl rfl), rfl, .inr (.inl ⟨rfl, (tb5 29 rfl rfl), (tb0 38 rfl rfl), by decide⟩)⟩
set_option maxRecDepth 20000 in
theorem lok_65 : LOK (11, 9, 3, 89) := ⟨(tb1 33 rfl rfl), (tb1 2 rfl rfl), rfl, .inr (.inr ⟨rfl, (tb1 34 rfl rfl), rfl, by decide, rfl⟩)⟩
set_option maxRecDepth 20000 in
theorem lok_66 : LOK (11, 18, 3, 8) := ⟨(tb1 54 rfl rfl), (tb1 3 rfl rfl), rfl, .inr (.inr ⟨rfl, (tb1 55 rfl rfl), rfl, by decide, rfl⟩)⟩
set_option maxRecDepth 20000 in
theorem lok_67 : LOK (11, 25, 3, 46) := ⟨(tb1 86 rfl rfl), (tb1 4 rfl rfl), rfl, .inr (.inr ⟨rfl, (tb1 87 rfl rfl), rfl, by decide, rfl⟩)⟩
set_option maxRecDepth 20000 in
theorem lok_68 : LOK (11, 32, 3, 21) := ⟨(tb1 115 rfl rfl), (tb1 5 rfl rfl), rfl, .inr (.inr ⟨rfl, (tb1 116 rfl rfl), rfl, by decide, rfl⟩)⟩
set_option maxRecDepth 20000 in
theorem lok_69 : LOK (11, 41, 3, 3) := ⟨(tb1 138 rfl rfl), (tb1 6 rfl rfl), rfl, .inr (.inr ⟨rfl, (tb1 139 rfl rfl), rfl, by decide, rfl⟩)⟩
set_option maxRecDepth 20000 in
theorem lok_70 : LOK (11, 50, 3, 77) := ⟨(tb1 200 rfl rfl), (tb1 11 rfl rfl), rfl, .inr (.inr ⟨rfl, (tb1 201 rfl rfl), rfl, by decide, rfl⟩)⟩
set_option maxRecDepth 20000 in
theorem lok_71 : LOK (11, 59, 3, 60) := ⟨(tb1 234 rfl rfl), (tb1 12 rfl rfl), rfl, .inr (.inr ⟨rfl, (tb1 235 rfl rfl), rfl, by decide, rfl⟩)⟩
set_option maxRecDepth 20000 in
theorem lok_72 : LOK (11, 72, 3, 33) := ⟨(tb2 83 rfl rfl), (tb1 14 rfl rfl), rfl, .inr (.inr ⟨rfl, (tb2 84 rfl rfl), rfl, by decide, rfl⟩)⟩
set_option maxRecDepth 20000 in
theorem lok_73 : LOK (11, 75, 3, 0) := ⟨(tb2 102 rfl rfl), (tb1 15 rfl rfl), rfl, .inr (.inr ⟨rfl, (tb2 103 rfl rfl), rfl, by decide, rfl⟩)⟩
set_option maxRecDepth 20000 in
theorem lok_74 : LOK (11, 80, 2, 93) := ⟨(tb2 158 rfl rfl), (tb1 1 rfl rfl), rfl, .inr (.inl ⟨rfl, (tb2 160 rfl rfl), (tb0 3 rfl rfl), by decide⟩)⟩
set_option maxRecDepth 20000 in
theorem lok_75 : LOK (11, 84, 2, 94) := ⟨(tb2 173 rfl rfl), (tb1 1 rfl rfl), rfl, .inr (.inl ⟨rfl, (tb2 175 rfl rfl), (tb0 4 rfl rfl), by decide⟩)⟩
set_option maxRecDepth 20000 in
theorem lok_76 : LOK (11, 88, 2, 11) := ⟨(tb2 162 rfl rfl), (tb1 3 rfl rfl), rfl, .inr (.inl ⟨rfl, (tb2 163 rfl rfl), (tb2 164 rfl rfl), by decide⟩)⟩
set_option maxRecDepth 20000 in
theorem lok_77 : LOK (11, 96, 2, 78) := ⟨(tb2 169 rfl rfl), (tb1 11 rfl rfl), rfl, .inr (.inl ⟨rfl, (tb2 170 rfl rfl), (tb2 171 rfl rfl), by decide⟩)⟩
set_option maxRecDepth 20000 in
theorem lok_78 : LOK (11, 99, 2, 90) := ⟨(tb2 177 rfl rfl), (tb1 2 rfl rfl), rfl, .inr (.inl ⟨rfl, (tb2 178 rfl rfl), (tb2 179 rfl rfl), by decide⟩)⟩
set_option maxRecDepth 20000 in
theorem lok_79 : LOK (11, 117, 1, 98) := ⟨(tb2 193 rfl rfl), (tb1 1 rfl rfl), rfl, .inl ⟨rfl, (tb2 194 rfl rfl)⟩⟩
set_option maxRecDepth 20000 in
theorem lok_80 : LOK (11, 120, 2, 47) := ⟨(tb2 196 rfl rfl), (tb1 4 rfl rfl), rfl, .inr (.inl ⟨rfl, (tb2 197 rfl rfl), (tb2 198 rfl rfl), by decide⟩)⟩
set_option maxRecDepth 20000 in
theorem lok_81 : LOK (11, 124, 2, 22) := ⟨(tb2 204 rfl rfl), (tb1 5 rfl rfl), rfl, .inr (.inl ⟨rfl, (tb2 205 rfl rfl), (tb2 206 rfl rfl), by decide⟩)⟩
set_option maxRecDepth 20000 in
theorem lok_82 : LOK (11, 131, 2, 5) := ⟨(tb3 92 rfl rfl), (tb1 6 rfl rfl), rfl, .inr (.inl ⟨rfl, (tb3 93 rfl rfl), (tb3 94 rfl rfl), by decide⟩)⟩
set_option maxRecDepth 20000 in
theorem lok_83 : LOK (11, 134, 2, 4) := ⟨(tb3 101 rfl rfl), (tb1 6 rfl rfl), rfl, .inr (.inl ⟨rfl, (tb3 102 rfl rfl), (tb3 103 rfl rfl), by decide⟩)⟩
set_option maxRecDepth 20000 in
theorem lok_84 : LOK (11, 135, 2, 9) := ⟨(tb3 109 rfl rfl), (tb1 3 rfl rfl), rfl, .inr (.inl ⟨rfl, (tb3 110 rfl rfl), (tb3 111 rfl rfl), by decide⟩)⟩
set_option maxRecDepth 20000 in
theorem lok_85 : LOK (11, 139, 2, 6) := ⟨(tb3 113 rfl rfl), (tb1 6 rfl rfl), rfl, .inr (.inl ⟨rfl, (tb3 114 rfl rfl), (tb3 115 rfl rfl), by decide⟩)⟩
set_option maxRecDepth 20000 in
theorem lok_86 : LOK (11, 143, 2, 103) := ⟨(tb3 133 rfl rfl), (tb1 1 rfl rfl), rfl, .inr (.inl ⟨rfl, (tb3 135 rfl rfl), (tb0 18 rfl rfl), by decide⟩)⟩
set_option maxRecDepth 20000 in
theorem lok_87 : LOK (11, 147, 1, 15) := ⟨(tb3 137 rfl rfl), (tb1 3 rfl rfl), rfl, .inl ⟨rfl, (tb3 138 rfl rfl)⟩⟩
set_option maxRecDepth 20000 in
theorem lok_88 : LOK (11, 150, 2, 10) := ⟨(tb3 140 rfl rfl), (tb1 3 rfl rfl), rfl, .inr (.inl ⟨rfl, (tb3 141 rfl rfl), (tb3 142 rfl rfl), by decide⟩)⟩
set_option maxRecDepth 20000 in
theorem lok_89 : LOK (11, 152, 2, 79) := ⟨(tb3 144 rfl rfl), (tb1 11 rfl rfl), rfl, .inr (.inl ⟨rfl, (tb3 145 rfl rfl), (tb3 146 rfl rfl), by decide⟩)⟩
set_option maxRecDepth 20000 in
theorem lok_90 : LOK (11, 161, 2, 18) := ⟨(tb3 156 rfl rfl), (tb1 3 rfl rfl), rfl, .inr (.inl ⟨rfl, (tb3 157 rfl rfl), (tb3 158 rfl rfl), by decide⟩)⟩
set_option maxRecDepth 20000 in
theorem lok_91 : LOK (11, 164, 2, 106) := ⟨(tb3 160 rfl rfl), (tb1 1 rfl rfl), rfl, .inr (.inl ⟨rfl, (tb3 162 rfl rfl), (tb0 19 rfl rfl), by decide⟩)⟩
set_option maxRecDepth 20000 in
theorem lok_92 : LOK (11, 167, 2, 80) := ⟨(tb3 164 rfl rfl), (tb1 11 rfl rfl), rfl, .inr (.inl ⟨rfl, (tb3 165 rfl rfl), (tb3 166 rfl rfl), by decide⟩)⟩
set_option maxRecDepth 20000 in
theorem lok_93 : LOK (11, 170, 2, 82) := ⟨(tb3 180 rfl rfl), (tb1 11 rfl rfl), rfl, .inr (.inl ⟨rfl, (tb3 181 rfl rfl), (tb3 182 rfl rfl), by decide⟩)⟩
set_option maxRecDepth 20000 in
theorem lok_94 : LOK (11, 173, 2, 81) := ⟨(tb3 189 rfl rfl), (tb1 11 rfl rfl), rfl, .inr (.inl ⟨rfl, (tb3 190 rfl rfl), (tb3 191 rfl rfl), by decide⟩)⟩
set_option maxRecDepth 20000 in
theorem lok_95 : LOK (11, 178, 2, 61) := ⟨(tb3 199 rfl rfl), (tb1 12 rfl rfl), rfl, .inr (.inl ⟨rfl, (tb3 200 rfl rfl), (tb3 201 rfl rfl), by decide⟩)⟩
set_option maxRecDepth 20000 in
theorem lok_96 : LOK (11, 179, 2, 68) := ⟨(tb3 239 rfl rfl), (tb1 12 rfl rfl), rfl, .inr (.inl ⟨rfl, (tb4 0 rfl rfl), (tb4 1 rfl rfl), by decide⟩)⟩
set_option maxRecDepth 20000 in
theorem lok_97 : LOK (11, 183, 2, 65) := ⟨(tb4 12 rfl rfl), (tb1 12 rfl rfl), rfl, .inr (.inl ⟨rfl, (tb4 5 rfl rfl), (tb4 6 rfl rfl), by decide⟩)⟩
set_option maxRecDepth 20000 in
theorem lok_98 : LOK (11, 187, 1, 158) := ⟨(tb4 13 rfl rfl), (tb1 1 rfl rfl), rfl, .inl ⟨rfl, (tb4 14 rfl rfl)⟩⟩
set_option maxRecDepth 20000 in
theorem lok_99 : LOK (11, 191, 2, 14) := ⟨(tb4 26 rfl rfl), (tb1 3 rfl rfl), rfl, .inr (.inl ⟨rfl, (tb4 27 rfl rfl), (tb4 28 rfl rfl), by decide⟩)⟩
set_option maxRecDepth 20000 in
theorem lok_100 : LOK (11, 194, 2, 67) := ⟨(tb4 35 rfl rfl), (tb1 12 rfl rfl), rfl, .inr (.inl ⟨rfl, (tb4 36 rfl rfl), (tb4 37 rfl rfl), by decide⟩)⟩
set_option maxRecDepth 20000 in
theorem lok_101 : LOK (11, 197, 2, 64) := ⟨(tb4 47 rfl rfl), (tb1 12 rfl rfl), rfl, .inr (.inl ⟨rfl, (tb4 40 rfl rfl), (tb4 41 rfl rfl), by decide⟩)⟩
set_option maxRecDepth 20000 in
theorem lok_102 : LOK (11, 199, 2, 70) := ⟨(tb4 52 rfl rfl), (tb1 12 rfl rfl), rfl, .inr (.inl ⟨rfl, (tb4 53 rfl rfl), (tb4 54 rfl rfl), by decide⟩)⟩
set_option maxRecDepth 20000 in
theorem lok_103 : LOK (11, 202, 1, 113) := ⟨(tb4 64 rfl rfl), (tb1 1 rfl rfl), rfl, .inl ⟨rfl, (tb4 65 rfl rfl)⟩⟩
set_option maxRecDepth 20000 in
theorem lok_104 : LOK (11, 205, 2, 69) := ⟨(tb4 67 rfl rfl), (tb1 12 rfl rfl), rfl, .inr (.inl ⟨rfl, (tb4 68 rfl rfl), (tb4 69 rfl rfl), by decide⟩)⟩
set_option maxRecDepth 20000 in
theorem lok_105 : LOK (11, 211, 2, 71) := ⟨(tb4 83 rfl rfl), (tb1 12 rfl rfl), rfl, .inr (.inl ⟨rfl, (tb4 84 rfl rfl), (tb4 85 rfl rfl), by decide⟩)⟩
set_option maxRecDepth 20000 in
theorem lok_106 : LOK (11, 214, 2, 73) := ⟨(tb4 97 rfl rfl), (tb1 12 rfl rfl), rfl, .inr (.inl ⟨rfl, (tb4 98 rfl rfl), (tb4 99 rfl rfl), by decide⟩)⟩
set_option maxRecDepth 20000 in
theorem lok_107 : LOK (11, 217, 1, 119) := ⟨(tb4 114 rfl rfl), (tb1 1 rfl rfl), rfl, .inl ⟨rfl, (tb4 115 rfl rfl)⟩⟩
set_option maxRecDepth 20000 in
theorem lok_108 : LOK (11, 220, 1, 12) := ⟨(tb4 117 rfl rfl), (tb1 3 rfl rfl), rfl, .inl ⟨rfl, (tb3 209 rfl rfl)⟩⟩
set_option maxRecDepth 20000 in
theorem lok_109 : LOK (11, 223, 2, 120) := ⟨(tb4 118 rfl rfl), (tb1 1 rfl rfl), rfl, .inr (.inl ⟨rfl, (tb4 120 rfl rfl), (tb0 26 rfl rfl), by decide⟩)⟩
set_option maxRecDepth 20000 in
theorem lok_110 : LOK (11, 229, 2, 76) := ⟨(tb4 127 rfl rfl), (tb1 12 rfl rfl), rfl, .inr (.inl ⟨rfl, (tb4 128 rfl rfl), (tb4 129 rfl rfl), by decide⟩)⟩
set_option maxRecDepth 20000 in
theorem lok_111 : LOK (11, 232, 1, 160) := ⟨(tb4 135 rfl rfl), (tb1 1 rfl rfl), rfl, .inl ⟨rfl, (tb4 136 rfl rfl)⟩⟩
set_option maxRecDepth 20000 in
theorem lok_112 : LOK (11, 236, 2, 66) := ⟨(tb4 148 rfl rfl), (tb1 12 rfl rfl), rfl, .inr (.inl ⟨rfl, (tb4 44 rfl rfl), (tb4 45 rfl rfl), by decide⟩)⟩
set_option maxRecDepth 20000 in
theorem lok_113 : LOK (11, 239, 2, 13) := ⟨(tb4 149 rfl rfl), (tb1 3 rfl rfl), rfl, .inr (.inl ⟨rfl, (tb4 31 rfl rfl), (tb4 32 rfl rfl), by decide⟩)⟩
set_option maxRecDepth 20000 in
theorem lok_114 : LOK (11, 242, 2, 125) := ⟨(tb4 154 rfl rfl), (tb1 1 rfl rfl), rfl, .inr (.inl ⟨rfl, (tb4 156 rfl rfl), (tb0 27 rfl rfl), by decide⟩)⟩
set_option maxRecDepth 20000 in
theorem lok_115 : LOK (11, 245, 1, 258) := ⟨(tb4 158 rfl rfl), (tb1 21 rfl rfl), rfl, .inl ⟨rfl, (tb3 234 rfl rfl)⟩⟩
set_option maxRecDepth 20000 in
theorem lok_116 : LOK (11, 250, 2, 126) := ⟨(tb4 159 rfl rfl), (tb1 1 rfl rfl), rfl, .inr (.inl ⟨rfl, (tb4 161 rfl rfl), (tb0 28 rfl rfl), by decide⟩)⟩
set_option maxRecDepth 20000 in
theorem lok_117 : LOK (11, 253, 2, 20) := ⟨(tb4 163 rfl rfl), (tb1 3 rfl rfl), rfl, .inr (.inl ⟨rfl, (tb4 164 rfl rfl), (tb4 165 rfl rfl), by decide⟩)⟩
set_option maxRecDepth 20000 in
theorem lok_118 : LOK (11, 256, 2, 7) := ⟨(tb4 176 rfl rfl), (tb1 6 rfl rfl), rfl, .inr (.inl ⟨rfl, (tb4 177 rfl rfl), (tb4 178 rfl rfl), by decide⟩)⟩
set_option maxRecDepth 20000 in
theorem lok_119 : LOK (11, 259, 2, 150) := ⟨(tb4 193 rfl rfl), (tb1 1 rfl rfl), rfl, .inr (.inl ⟨rfl, (tb4 195 rfl rfl), (tb0 30 rfl rfl), by decide⟩)⟩
set_option maxRecDepth 20000 in
theorem lok_120 : LOK (11, 266, 2, 129) := ⟨(tb4 189 rfl rfl), (tb1 1 rfl rfl), rfl, .inr (.inl ⟨rfl, (tb4 191 rfl rfl), (tb0 29 rfl rfl), by decide⟩)⟩
set_option maxRecDepth 20000 in
theorem lok_121 : LOK (11, 269, 2, 131) := ⟨(tb4 204 rfl rfl), (tb1 1 rfl rfl), rfl, .inr (.inl ⟨rfl, (tb4 206 rfl rfl), (tb0 31 rfl rfl), by decide⟩)⟩
set_option maxRecDepth 20000 in
theorem lok_122 : LOK (11, 273, 2, 85) := ⟨(tb4 208 rfl rfl), (tb1 11 rfl rfl), rfl, .inr (.inl ⟨rfl, (tb3 169 rfl rfl), (tb3 170 rfl rfl), by decide⟩)⟩
set_option maxRecDepth 20000 in
theorem lok_123 : LOK (11, 276, 2, 133) := ⟨(tb4 213 rfl rfl), (tb1 1 rfl rfl), rfl, .inr (.inl ⟨rfl, (tb4 215 rfl rfl), (tb0 32 rfl rfl), by decide⟩)⟩
set_option maxRecDepth 20000 in
theorem lok_124 : LOK (11, 280, 2, 134) := ⟨(tb4 217 rfl rfl), (tb1 1 rfl rfl), rfl, .inr (.inl ⟨rfl, (tb4 219 rfl rfl), (tb0 33 rfl rfl), by decide⟩)⟩
set_option maxRecDepth 20000 in
theorem lok_125 : LOK (11, 283, 2, 135) := ⟨(tb4 221 rfl rfl), (tb1 1 rfl rfl), rfl, .inr (.inl ⟨rfl, (tb4 223 rfl rfl), (tb0 34 rfl rfl), by decide⟩)⟩
set_option maxRecDepth 20000 in
theorem lok_126 : LOK (11, 286, 2, 136) := ⟨(tb4 225 rfl rfl), (tb1 1 rfl rfl), rfl, .inr (.inl ⟨rfl, (tb4 227 rfl rfl), (tb0 35 rfl rfl), by decide⟩)⟩
set_option maxRecDepth 20000 in
theorem lok_127 : LOK (11, 289, 2, 141) := ⟨(tb5 5 rfl rfl), (tb1 1 rfl rfl), rfl, .inr (.inl ⟨rfl, (tb5 7 rfl rfl), (tb0 36 rfl rfl), by decide⟩)⟩
set_option maxRecDepth 20000 in
theorem lok_128 : LOK (11, 292, 2, 142) := ⟨(tb5 9 rfl rfl), (tb1 1 rfl rfl), rfl, .inr (.inl ⟨rfl, (tb5 11 rfl rfl), (tb0 37 rfl rfl), by decide⟩)⟩
set_option maxRecDepth 20000 in
theorem lok_129 : LOK (11, 296, 1, 143) := ⟨(tb5 17 rfl rfl), (tb1 1 rfl rfl), rfl, .inl ⟨rfl, (tb5 18 rfl rfl)⟩⟩
set_option maxRecDepth 20000 in
theorem lok_130 : LOK (11, 299, 2, 86) := ⟨(tb5 21 rfl rfl), (tb1 11 rfl rfl), rfl, .inr (.inl ⟨rfl, (tb5 22 rfl rfl), (tb5 23 rfl rfl), by decide⟩)⟩
set_option maxRecDepth 20000 in
theorem lok_131 : LOK (11, 305, 1, 149) := ⟨(tb4 197 rfl rfl), (tb1 1 rfl rfl), rfl, .inl ⟨rfl, (tb4 198 rfl rfl)⟩⟩
set_option maxRecDepth 20000 in
theorem lok_132 : LOK (11, 308, 2, 35) := ⟨(tb5 35 rfl rfl), (tb1 14 rfl rfl), rfl, .inr (.inl ⟨rfl, (tb5 36 rfl rfl), (tb5 37 rfl rfl), by decide⟩)⟩
set_option maxRecDepth 20000 in
theorem lok_133 : LOK (11, 312, 2, 36) := ⟨(tb5 39 rfl rfl), (tb1 14 rfl rfl), rfl, .inr (.inl ⟨rfl, (tb5 40 rfl rfl), (tb5 41 rfl rfl), by decide⟩)⟩
set_option maxRecDepth 20000 in
theorem lok_134 : LOK (11, 315, 2, 88) := ⟨(tb5 47 rfl rfl), (tb1 11 rfl rfl), rfl, .inr (.inl ⟨rfl, (tb5 48 rfl rfl), (tb5 49 rfl rfl), by decide⟩)⟩
set_option maxRecDepth 20000 in
theorem lok_135 : LOK (11, 319, 2, 1) := ⟨(tb5 55 rfl rfl), (tb1 15 rfl rfl), rfl, .inr (.inl ⟨rfl, (tb5 56 rfl rfl), (tb5 57 rfl rfl), by decide⟩)⟩
set_option maxRecDepth 20000 in
theorem lok_136 : LOK (11, 326, 2, 2) := ⟨(tb5 64 rfl rfl), (tb1 15 rfl rfl), rfl, .inr (.inl ⟨rfl, (tb5 65 rfl rfl), (tb5 66 rfl rfl), by decide⟩)⟩
set_option maxRecDepth 20000 in
theorem lok_137 : LOK (11, 329, 2, 34) := ⟨(tb4 200 rfl rfl), (tb1 14 rfl rfl), rfl, .inr (.inl ⟨rfl, (tb4 201 rfl rfl), (tb4 202 rfl rfl), by decide⟩)⟩
set_option maxRecDepth 20000 in
theorem lok_138 : LOK (11, 335, 2, 37) := ⟨(tb5 80 rfl rfl), (tb1 14 rfl rfl), rfl, .inr (.inl ⟨rfl, (tb5 81 rfl rfl), (tb5 82 rfl rfl), by decide⟩)⟩
set_option maxRecDepth 20000 in
theorem lok_139 : LOK (11, 344, 2, 156) := ⟨(tb5 93 rfl rfl), (tb1 1 rfl rfl), rfl, .inr (.inl ⟨rfl, (tb5 95 rfl rfl), (tb0 39 rfl rfl), by decide⟩)⟩
set_option maxRecDepth 20000 in
theorem lok_140 : LOK (11, 347, 2, 157) := ⟨(tb5 97 rfl rfl), (tb1 1 rfl rfl), rfl, .inr (.inl ⟨rfl, (tb5 99 rfl rfl), (tb0 40 rfl rfl), by decide⟩)⟩
set_option maxRecDepth 20000 in
theorem lok_141 : LOK (11, 350, 1, 17) := ⟨(tb5 101 rfl rfl), (tb1 3 rfl rfl), rfl, .inl ⟨rfl, (tb3 173 rfl rfl)⟩⟩
set_option maxRecDepth 20000 in
theorem lok_142 : LOK (11, 359, 1, 159) := ⟨(tb4 19 rfl rfl), (tb1 1 rfl rfl), rfl, .inl ⟨rfl, (tb4 20 rfl rfl)⟩⟩
set_option maxRecDepth 20000 in
theorem lok_143 : LOK (11, 363, 1, 259) := ⟨(tb4 138 rfl rfl), (tb1 22 rfl rfl), rfl, .inl ⟨rfl, (tb4 139 rfl rfl)⟩⟩
set_option maxRecDepth 20000 in
theorem lok_144 : LOK (11, 369, 1, 257) := ⟨(tb4 141 rfl rfl), (tb1 21 rfl rfl), rfl, .inl ⟨rfl, (tb4 142 rfl rfl)⟩⟩
set_option maxRecDepth 20000 in
theorem lok_145 : LOK (12, 93, 2, 184) := ⟨(tb5 108 rfl rfl), (tb1 16 rfl rfl), rfl, .inr (.inl ⟨rfl, (tb5 109 rfl rfl), (tb5 110 rfl rfl), by decide⟩)⟩
set_option maxRecDepth 20000 in
theorem lok_146 : LOK (12, 97, 1, 162) := ⟨(tb5 116 rfl rfl), (tb1 16 rfl rfl), rfl, .inl ⟨rfl, (tb5 117 rfl rfl)⟩⟩
set_option maxRecDepth 20000 in
theorem lok_147 : LOK (12, 104, 2, 164) := ⟨(tb6 43 rfl rfl), (tb1 16 rfl rfl), rfl, .inr (.inl ⟨rfl, (tb6 45 rfl rfl), (tb0 50 rfl rfl), by decide⟩)⟩
set_option maxRecDepth 20000 in
theorem lok_148 : LOK (12, 108, 2, 168) := ⟨(tb6 47 rfl rfl), (tb1 16 rfl rfl), rfl, .inr (.inl ⟨rfl, (tb6 49 rfl rfl), (tb0 51 rfl rfl), by decide⟩)⟩
set_option maxRecDepth 20000 in
theorem lok_149 : LOK (12, 117, 1, 172) := ⟨(tb6 63 rfl rfl), (tb1 16 rfl rfl), rfl, .inl ⟨rfl, (tb6 64 rfl rfl)⟩⟩
set_option maxRecDepth 20000 in
theorem lok_150 : LOK (12, 132, 2, 174) := ⟨(tb5 119 rfl rfl), (tb1 16 rfl rfl), rfl, .inr (.inl ⟨rfl, (tb5 121 rfl rfl), (tb0 42 rfl rfl), by decide⟩)⟩
set_option maxRecDepth 20000 in
theorem lok_151 : LOK (12, 142, 1, 176) := ⟨(tb5 136 rfl rfl), (tb1 16 rfl rfl), rfl, .inl ⟨rfl, (tb5 137 rfl rfl)⟩⟩
set_option maxRecDepth 20000 in
theorem lok_152 : LOK (12, 149, 2, 177) := ⟨(tb5 128 rfl rfl), (tb1 16 rfl rfl), rfl, .inr (.inl ⟨rfl, (tb5 130 rfl rfl), (tb0 44 rfl rfl), by decide⟩)⟩
set_option maxRecDepth 20000 in
theorem lok_153 : LOK (12, 153, 2, 179) := ⟨(tb5 143 rfl rfl), (tb1 16 rfl rfl), rfl, .inr (.inl ⟨rfl, (tb5 145 rfl rfl), (tb0 47 rfl rfl), by decide⟩)⟩
set_option maxRecDepth 20000 in
theorem lok_154 : LOK (12, 156, 2, 178) := ⟨(tb5 132 rfl rfl), (tb1 16 rfl rfl), rfl, .inr (.inl ⟨rfl, (tb5 134 rfl rfl), (tb0 45 rfl rfl), by decide⟩)⟩
set_option maxRecDepth 20000 in
theorem lok_155 : LOK (12, 159, 2, 175) := ⟨(tb5 112 rfl rfl), (tb1 16 rfl rfl), rfl, .inr (.inl ⟨rfl, (tb5 114 rfl rfl), (tb0 41 rfl rfl), by decide⟩)⟩
set_option maxRecDepth 20000 in
theorem lok_156 : LOK (12, 163, 2, 180) := ⟨(tb5 139 rfl rfl), (tb1 16 rfl rfl), rfl, .inr (.inl ⟨rfl, (tb5 141 rfl rfl), (tb0 46 rfl rfl), by decide⟩)⟩
set_option maxRecDepth 20000 in
theorem lok_157 : LOK (12, 166, 2, 182) := ⟨(tb5 147 rfl rfl), (tb1 16 rfl rfl), rfl, .inr (.inl ⟨rfl, (tb5 149 rfl rfl), (tb0 48 rfl rfl), by decide⟩)⟩
set_option maxRecDepth 20000 in
theorem lok_158 : LOK (12, 169, 2, 181) := ⟨(tb5 151 rfl rfl), (tb1 16 rfl rfl), rfl, .inr (.inl ⟨rfl, (tb5 153 rfl rfl), (tb0 49 rfl rfl), by decide⟩)⟩
set_option maxRecDepth 20000 in
theorem lok_159 : LOK (12, 172, 2, 183) := ⟨(tb5 123 rfl rfl), (tb1 16 rfl rfl), rfl, .inr (.inl ⟨rfl, (tb5 125 rfl rfl), (tb0 43 rfl rfl), by decide⟩)⟩
set_option maxRecDepth 20000 in
theorem lok_160 : LOK (12, 176, 1, 185) := ⟨(tb6 87 rfl rfl), (tb1 16 rfl rfl), rfl, .inl ⟨rfl, (tb6 88 rfl rfl)⟩⟩
set_option maxRecDepth 20000 in
theorem lok_161 : LOK (12, 180, 2, 186) := ⟨(tb6 83 rfl rfl), (tb1 16 rfl rfl), rfl, .inr (.inl ⟨rfl, (tb6 85 rfl rfl), (tb0 54 rfl rfl), by decide⟩)⟩
set_option maxRecDepth 20000 in
theorem lok_162 : LOK (12, 183, 1, 163) := ⟨(tb6 90 rfl rfl), (tb1 16 rfl rfl), rfl, .inl ⟨rfl, (tb6 91 rfl rfl)⟩⟩
set_option maxRecDepth 20000 in
theorem lok_163 : LOK (12, 186, 2, 165) := ⟨(tb6 75 rfl rfl), (tb1 16 rfl rfl), rfl, .inr (.inl ⟨rfl, (tb6 77 rfl rfl), (tb0 52 rfl rfl), by decide⟩)⟩
set_option maxRecDepth 20000 in
theorem lok_164 : LOK (12, 189, 2, 188) := ⟨(tb6 79 rfl rfl), (tb1 16 rfl rfl), rfl, .inr (.inl ⟨rfl, (tb6 81 rfl rfl), (tb0 53 rfl rfl), by decide⟩)⟩
set_option maxRecDepth 20000 in
theorem lok_165 : LOK (12, 192, 2, 192) := ⟨(tb6 113 rfl rfl), (tb1 16 rfl rfl), rfl, .inr (.inl ⟨rfl, (tb6 115 rfl rfl), (tb0 57 rfl rfl), by decide⟩)⟩
set_option maxRecDepth 20000 in
theorem lok_166 : LOK (12, 195, 2, 193) := ⟨(tb6 105 rfl rfl), (tb1 16 rfl rfl), rfl, .inr (.inl ⟨rfl, (tb6 107 rfl rfl), (tb0 55 rfl rfl), by decide⟩)⟩
set_option maxRecDepth 20000 in
theorem lok_167 : LOK (12, 198, 2, 195) := ⟨(tb6 109 rfl rfl), (tb1 16 rfl rfl), rfl, .inr (.inl ⟨rfl, (tb6 111 rfl rfl), (tb0 56 rfl rfl), by decide⟩)⟩
set_option maxRecDepth 20000 in
theorem lok_168 : LOK (12, 201, 2, 166) := ⟨(tb6 133 rfl rfl), (tb1 16 rfl rfl), rfl, .inr (.inl ⟨rfl, (tb6 135 rfl rfl), (tb0 59 rfl rfl), by decide⟩)⟩
set_option maxRecDepth 20000 in
theorem lok_169 : LOK (12, 204, 2, 198) := ⟨(tb6 129 rfl rfl), (tb1 16 rfl rfl), rfl, .inr (.inl ⟨rfl, (tb6 131 rfl rfl), (tb0 58 rfl rfl), by decide⟩)⟩
set_option maxRecDepth 20000 in
theorem lok_170 : LOK (12, 209, 1, 201) := ⟨(tb6 151 rfl rfl), (tb1 16 rfl rfl), rfl, .inl ⟨rfl, (tb6 152 rfl rfl)⟩⟩
set_option maxRecDepth 20000 in
theorem lok_171 : LOK (12, 213, 2, 200) := ⟨(tb6 141 rfl rfl), (tb1 16 rfl rfl), rfl, .inr (.inl ⟨rfl, (tb6 143 rfl rfl), (tb0 61 rfl rfl), by decide⟩)⟩
set_option maxRecDepth 20000 in
theorem lok_172 : LOK (12, 216, 1, 167) := ⟨(tb6 145 rfl rfl), (tb1 16 rfl rfl), rfl, .inl ⟨rfl, (tb6 146 rfl rfl)⟩⟩
set_option maxRecDepth 20000 in
theorem lok_173 : LOK (12, 219, 1, 203) := ⟨(tb6 125 rfl rfl), (tb1 16 rfl rfl), rfl, .inl ⟨rfl, (tb6 126 rfl rfl)⟩⟩
set_option maxRecDepth 20000 in
theorem lok_174 : LOK (12, 222, 2, 204) := ⟨(tb6 137 rfl rfl), (tb1 16 rfl rfl), rfl, .inr (.inl ⟨rfl, (tb6 139 rfl rfl), (tb0 60 rfl rfl), by decide⟩)⟩
set_option maxRecDepth 20000 in
theorem lok_175 : LOK (12, 226, 1, 202) := ⟨(tb6 148 rfl rfl), (tb1 16 rfl rfl), rfl, .inl ⟨rfl, (tb6 149 rfl rfl)⟩⟩
set_option maxRecDepth 20000 in
theorem lok_176 : LOK (12, 230, 2, 206) := ⟨(tb6 158 rfl rfl), (tb1 16 rfl rfl), rfl, .inr (.inl ⟨rfl, (tb6 160 rfl rfl), (tb0 62 rfl rfl), by decide⟩)⟩
set_option maxRecDepth 20000 in
theorem lok_177 : LOK (12, 233, 2, 199) := ⟨(tb6 162 rfl rfl), (tb1 16 rfl rfl), rfl, .inr (.inl ⟨rfl, (tb6 164 rfl rfl), (tb0 63 rfl rfl), by decide⟩)⟩
set_option maxRecDepth 20000 in
theorem lok_178 : LOK (12, 236, 2, 208) := ⟨(tb6 170 rfl rfl), (tb1 16 rfl rfl), rfl, .inr (.inl ⟨rfl, (tb6 172 rfl rfl), (tb0 64 rfl rfl), by decide⟩)⟩
set_option maxRecDepth 20000 in
theorem lok_179 : LOK (12, 239, 2, 211) := ⟨(tb6 182 rfl rfl), (tb1 16 rfl rfl), rfl, .inr (.inl ⟨rfl, (tb6 184 rfl rfl), (tb0 65 rfl rfl), by decide⟩)⟩
set_option maxRecDepth 20000 in
theorem lok_180 : LOK (12, 242, 2, 216) := ⟨(tb6 202 rfl rfl), (tb1 16 rfl rfl), rfl, .inr (.inl ⟨rfl, (tb6 204 rfl rfl), (tb0 66 rfl rfl), by decide⟩)⟩
set_option maxRecDepth 20000 in
theorem lok_181 : LOK (12, 246, 1, 218) := ⟨(tb6 210 rfl rfl), (tb1 16 rfl rfl), rfl, .inl ⟨rfl, (tb6 211 rfl rfl)⟩⟩
set_option maxRecDepth 20000 in
theorem lok_182 : LOK (12, 251, 2, 220) := ⟨(tb6 218 rfl rfl), (tb1 16 rfl rfl), rfl, .inr (.inl ⟨rfl, (tb6 220 rfl rfl), (tb0 67 rfl rfl), by decide⟩)⟩
set_option maxRecDepth 20000 in
theorem lok_183 : LOK (12, 254, 1, 222) := ⟨(tb6 226 rfl rfl), (tb1 16 rfl rfl), rfl, .inl ⟨rfl, (tb6 227 rfl rfl)⟩⟩
set_option maxRecDepth 20000 in
theorem lok_184 : LOK (12, 258, 2, 194) := ⟨(tb7 1 rfl rfl), (tb1 16 rfl rfl), rfl, .inr (.inl ⟨rfl, (tb7 3 rfl rfl), (tb0 69 rfl rfl), by decide⟩)⟩
set_option maxRecDepth 20000 in
theorem lok_185 : LOK (12, 262, 2, 225) := ⟨(tb6 237 rfl rfl), (tb1 16 rfl rfl), rfl, .inr (.inl ⟨rfl, (tb6 239 rfl rfl), (tb0 68 rfl rfl), by decide⟩)⟩
set_option maxRecDepth 20000 in
theorem lok_186 : LOK (12, 267, 2, 227) := ⟨(tb7 10 rfl rfl), (tb1 16 rfl rfl), rfl, .inr (.inl ⟨rfl, (tb7 12 rfl rfl), (tb0 70 rfl rfl), by decide⟩)⟩
set_option maxRecDepth 20000 in
theorem lok_187 : LOK (12, 270, 2, 230) := ⟨(tb7 22 rfl rfl), (tb1 16 rfl rfl), rfl, .inr (.inl ⟨rfl, (tb7 24 rfl rfl), (tb0 71 rfl rfl), by decide⟩)⟩
set_option maxRecDepth 20000 in
theorem lok_188 : LOK (12, 273, 2, 231) := ⟨(tb7 26 rfl rfl), (tb1 16 rfl rfl), rfl, .inr (.inl ⟨rfl, (tb7 28 rfl rfl), (tb0 72 rfl rfl), by decide⟩)⟩
set_option maxRecDepth 20000 in
theorem lok_189 : LOK (12, 276, 2, 234) := ⟨(tb7 34 rfl rfl), (tb1 16 rfl rfl), rfl, .inr (.inl ⟨rfl, (tb7 36 rfl rfl), (tb0 73 rfl rfl), by decide⟩)⟩
set_option maxRecDepth 20000 in
theorem lok_190 : LOK (12, 279, 2, 233) := ⟨(tb7 38 rfl rfl), (tb1 16 rfl rfl), rfl, .inr (.inl ⟨rfl, (tb7 40 rfl rfl), (tb0 74 rfl rfl), by decide⟩)⟩
set_option maxRecDepth 20000 in
theorem lok_191 : LOK (12, 282, 2, 235) := ⟨(tb7 42 rfl rfl), (tb1 16 rfl rfl), rfl, .inr (.inl ⟨rfl, (tb7 44 rfl rfl), (tb0 75 rfl rfl), by decide⟩)⟩
set_option maxRecDepth 20000 in
theorem lok_192 : LOK (12, 285, 2, 236) := ⟨(tb7 46 rfl rfl), (tb1 16 rfl rfl), rfl, .inr (.inl ⟨rfl, (tb7 48 rfl rfl), (tb0 76 rfl rfl), by decide⟩)⟩
set_option maxRecDepth 20000 in
theorem lok_193 : LOK (12, 292, 2, 242) := ⟨(tb7 80 rfl rfl), (tb1 16 rfl rfl), rfl, .inr (.inl ⟨rfl, (tb7 82 rfl rfl), (tb0 78 rfl rfl), by decide⟩)⟩
set_option maxRecDepth 20000 in
theorem lok_194 : LOK (12, 297, 1, 244) := ⟨(tb7 70 rfl rfl), (tb1 16 rfl rfl), rfl, .inl ⟨rfl, (tb7 71 rfl rfl)⟩⟩
set_option maxRecDepth 20000 in
theorem lok_195 : LOK (12, 300, 2, 243) := ⟨(tb7 74 rfl rfl), (tb1 16 rfl rfl), rfl, .inr (.inl ⟨rfl, (tb7 76 rfl rfl), (tb0 77 rfl rfl), by decide⟩)⟩
set_option maxRecDepth 20000 in
theorem lok_196 : LOK (12, 303, 2, 247) := ⟨(tb7 92 rfl rfl), (tb1 16 rfl rfl), rfl, .inr (.inl ⟨rfl, (tb7 94 rfl rfl), (tb0 79 rfl rfl), by decide⟩)⟩
set_option maxRecDepth 20000 in
theorem lok_197 : LOK (12, 319, 2, 190) := ⟨(tb7 120 rfl rfl), (tb1 16 rfl rfl), rfl, .inr (.inl ⟨rfl, (tb6 94 rfl rfl), (tb6 95 rfl rfl), by decide⟩)⟩
set_option maxRecDepth 20000 in
theorem lok_198 : LOK (12, 322, 1, 255) := ⟨(tb7 125 rfl rfl), (tb1 16 rfl rfl), rfl, .inl ⟨rfl, (tb7 126 rfl rfl)⟩⟩
set_option maxRecDepth 20000 in
theorem lok_199 : LOK (13, 9, 3, 91) := ⟨(tb1 25 rfl rfl), (tb1 1 rfl rfl), rfl, .inr (.inr ⟨rfl, (tb1 26 rfl rfl), rfl, by decide, rfl⟩)⟩
set_option maxRecDepth 20000 in
theorem lok_200 : LOK (13, 12, 3, 161) := ⟨(tb5 104 rfl rfl), (tb1 16 rfl rfl), rfl, .inr (.inr ⟨rfl, (tb5 105 rfl rfl), rfl, by decide, rfl⟩)⟩
set_option maxRecDepth 20000 in
theorem lok_201 : LOK (13, 13, 2, 92) := ⟨(tb2 154 rfl rfl), (tb1 1 rfl rfl), rfl, .inr (.inl ⟨rfl, (tb2 155 rfl rfl), (tb2 156 rfl rfl), by decide⟩)⟩
set_option maxRecDepth 20000 in
theorem lok_202 : LOK (13, 17, 2, 169) := ⟨(tb6 39 rfl rfl), (tb1 16 rfl rfl), rfl, .inr (.inl ⟨rfl, (tb6 40 rfl rfl), (tb6 41 rfl rfl), by decide⟩)⟩
set_option maxRecDepth 20000 in
theorem lok_203 : LOK (13, 18, 2, 95) := ⟨(tb2 181 rfl rfl), (tb1 1 rfl rfl), rfl, .inr (.inl ⟨rfl, (tb2 182 rfl rfl), (tb2 183 rfl rfl), by decide⟩)⟩
set_option maxRecDepth 20000 in
theorem lok_204 : LOK (13, 22, 2, 170) := ⟨(tb6 51 rfl rfl), (tb1 16 rfl rfl), rfl, .inr (.inl ⟨rfl, (tb6 52 rfl rfl), (tb6 53 rfl rfl), by decide⟩)⟩
set_option maxRecDepth 20000 in
theorem lok_205 : LOK (13, 23, 2, 96) := ⟨(tb2 185 rfl rfl), (tb1 1 rfl rfl), rfl, .inr (.inl ⟨rfl, (tb2 186 rfl rfl), (tb2 187 rfl rfl), by decide⟩)⟩
set_option maxRecDepth 20000 in
theorem lok_206 : LOK (13, 26, 2, 171) := ⟨(tb6 55 rfl rfl), (tb1 16 rfl rfl), rfl, .inr (.inl ⟨rfl, (tb6 56 rfl rfl), (tb6 57 rfl rfl), by decide⟩)⟩
set_option maxRecDepth 20000 in
theorem lok_207 : LOK (13, 27, 2, 97) := ⟨(tb2 189 rfl rfl), (tb1 1 rfl rfl), rfl, .inr (.inl ⟨rfl, (tb2 190 rfl rfl), (tb2 191 rfl rfl), by decide⟩)⟩
set_option maxRecDepth 20000 in
theorem lok_208 : LOK (13, 31, 2, 173) := ⟨(tb6 59 rfl rfl), (tb1 16 rfl rfl), rfl, .inr (.inl ⟨rfl, (tb6 60 rfl rfl), (tb6 61 rfl rfl), by decide⟩)⟩
set_option maxRecDepth 20000 in
theorem lok_209 : LOK (13, 32, 2, 99) := ⟨(tb2 200 rfl rfl), (tb1 1 rfl rfl), rfl, .inr (.inl ⟨rfl, (tb2 201 rfl rfl), (tb2 202 rfl rfl), by decide⟩)⟩
set_option maxRecDepth 20000 in
theorem lok_210 : LOK (13, 36, 2, 184) := ⟨(tb6 66 rfl rfl), (tb1 16 rfl rfl), rfl, .inr (.inl ⟨rfl, (tb5 109 rfl rfl), (tb5 110 rfl rfl), by decide⟩)⟩
set_option maxRecDepth 20000 in
theorem lok_211 : LOK (13, 37, 2, 100) := ⟨(tb3 97 rfl rfl), (tb1 1 rfl rfl), rfl, .inr (.inl ⟨rfl, (tb3 98 rfl rfl), (tb3 99 rfl rfl), by decide⟩)⟩
set_option maxRecDepth 20000 in
theorem lok_212 : LOK (13, 40, 2, 187) := ⟨(tb6 67 rfl rfl), (tb1 16 rfl rfl), rfl, .inr (.inl ⟨rfl, (tb6 68 rfl rfl), (tb6 69 rfl rfl), by decide⟩)⟩
set_option maxRecDepth 20000 in
theorem lok_213 : LOK (13, 41, 2, 101) := ⟨(tb3 105 rfl rfl), (tb1 1 rfl rfl), rfl, .inr (.inl ⟨rfl, (tb3 106 rfl rfl), (tb3 107 rfl rfl), by decide⟩)⟩
set_option maxRecDepth 20000 in
theorem lok_214 : LOK (13, 44, 2, 189) := ⟨(tb6 71 rfl rfl), (tb1 16 rfl rfl), rfl, .inr (.inl ⟨rfl, (tb6 72 rfl rfl), (tb6 73 rfl rfl), by decide⟩)⟩
set_option maxRecDepth 20000 in
theorem lok_215 : LOK (13, 45, 2, 102) := ⟨(tb3 129 rfl rfl), (tb1 1 rfl rfl), rfl, .inr (.inl ⟨rfl, (tb3 130 rfl rfl), (tb3 131 rfl rfl), by decide⟩)⟩
set_option maxRecDepth 20000 in
theorem lok_216 : LOK (13, 48, 2, 190) := ⟨(tb6 93 rfl rfl), (tb1 16 rfl rfl), rfl, .inr (.inl ⟨rfl, (tb6 94 rfl rfl), (tb6 95 rfl rfl), by decide⟩)⟩
set_option maxRecDepth 20000 in
theorem lok_217 : LOK (13, 49, 2, 104) := ⟨(tb3 148 rfl rfl), (tb1 1 rfl rfl), rfl, .inr (.inl ⟨rfl, (tb3 149 rfl rfl), (tb3 150 rfl rfl), by decide⟩)⟩
set_option maxRecDepth 20000 in
theorem lok_218 : LOK (13, 53, 2, 191) := ⟨(tb6 97 rfl rfl), (tb1 16 rfl rfl), rfl, .inr (.inl ⟨rfl, (tb6 98 rfl rfl), (tb6 99 rfl rfl), by decide⟩)⟩
set_option maxRecDepth 20000 in
theorem lok_219 : LOK (13, 54, 2, 105) := ⟨(tb3 152 rfl rfl), (tb1 1 rfl rfl), rfl, .inr (.inl ⟨rfl, (tb3 153 rfl rfl), (tb3 154 rfl rfl), by decide⟩)⟩
set_option maxRecDepth 20000 in
theorem lok_220 : LOK (13, 57, 2, 196) := ⟨(tb6 101 rfl rfl), (tb1 16 rfl rfl), rfl, .inr (.inl ⟨rfl, (tb6 102 rfl rfl), (tb6 103 rfl rfl), by decide⟩)⟩
set_option maxRecDepth 20000 in
theorem lok_221 : LOK (13, 58, 2, 107) := ⟨(tb3 185 rfl rfl), (tb1 1 rfl rfl), rfl, .inr (.inl ⟨rfl, (tb3 186 rfl rfl), (tb3 187 rfl rfl), by decide⟩)⟩
set_option maxRecDepth 20000 in
theorem lok_222 : LOK (13, 61, 2, 197) := ⟨(tb6 117 rfl rfl), (tb1 16 rfl rfl), rfl, .inr (.inl ⟨rfl, (tb6 118 rfl rfl), (tb6 119 rfl rfl), by decide⟩)⟩
set_option maxRecDepth 20000 in
theorem lok_223 : LOK (13, 62, 2, 108) := ⟨(tb3 194 rfl rfl), (tb1 1 rfl rfl), rfl, .inr (.inl ⟨rfl, (tb3 195 rfl rfl), (tb3 196 rfl rfl), by decide⟩)⟩
set_option maxRecDepth 20000 in
theorem lok_224 : LOK (13, 66, 2, 205) := ⟨(tb6 121 rfl rfl), (tb1 16 rfl rfl), rfl, .inr (.inl ⟨rfl, (tb6 122 rfl rfl), (tb6 123 rfl rfl), by decide⟩)⟩
set_option maxRecDepth 20000 in
theorem lok_225 : LOK (13, 67, 2, 109) := ⟨(tb4 22 rfl rfl), (tb1 1 rfl rfl), rfl, .inr (.inl ⟨rfl, (tb4 23 rfl rfl), (tb4 24 rfl rfl), by decide⟩)⟩
set_option maxRecDepth 20000 in
theorem lok_226 : LOK (13, 70, 2, 207) := ⟨(tb6 154 rfl rfl), (tb1 16 rfl rfl), rfl, .inr (.inl ⟨rfl, (tb6 155 rfl rfl), (tb6 156 rfl rfl), by decide⟩)⟩
set_option maxRecDepth 20000 in
theorem lok_227 : LOK (13, 71, 2, 110) := ⟨(tb4 48 rfl rfl), (tb1 1 rfl rfl), rfl, .inr (.inl ⟨rfl, (tb4 49 rfl rfl), (tb4 50 rfl rfl), by decide⟩)⟩
set_option maxRecDepth 20000 in
theorem lok_228 : LOK (13, 74, 2, 209) := ⟨(tb6 166 rfl rfl), (tb1 16 rfl rfl), rfl, .inr (.inl ⟨rfl, (tb6 167 rfl rfl), (tb6 168 rfl rfl), by decide⟩)⟩
set_option maxRecDepth 20000 in
theorem lok_229 : LOK (13, 75, 2, 111) := ⟨(tb4 56 rfl rfl), (tb1 1 rfl rfl), rfl, .inr (.inl ⟨rfl, (tb4 57 rfl rfl), (tb4 58 rfl rfl), by decide⟩)⟩
set_option maxRecDepth 20000 in
theorem lok_230 : LOK (13, 78, 2, 210) := ⟨(tb6 174 rfl rfl), (tb1 16 rfl rfl), rfl, .inr (.inl ⟨rfl, (tb6 175 rfl rfl), (tb6 176 rfl rfl), by decide⟩)⟩
set_option maxRecDepth 20000 in
theorem lok_231 : LOK (13, 79, 2, 112) := ⟨(tb4 60 rfl rfl), (tb1 1 rfl rfl), rfl, .inr (.inl ⟨rfl, (tb4 61 rfl rfl), (tb4 62 rfl rfl), by decide⟩)⟩
set_option maxRecDepth 20000 in
theorem lok_232 : LOK (13, 83, 2, 212) := ⟨(tb6 178 rfl rfl), (tb1 16 rfl rfl), rfl, .inr (.inl ⟨rfl, (tb6 179 rfl rfl), (tb6 180 rfl rfl), by decide⟩)⟩
set_option maxRecDepth 20000 in
theorem lok_233 : LOK (13, 84, 2, 114) := ⟨(tb4 71 rfl rfl), (tb1 1 rfl rfl), rfl, .inr (.inl ⟨rfl, (tb4 72 rfl rfl), (tb4 73 rfl rfl), by decide⟩)⟩
set_option maxRecDepth 20000 in
theorem lok_234 : LOK (13, 87, 2, 213) := ⟨(tb6 186 rfl rfl), (tb1 16 rfl rfl), rfl, .inr (.inl ⟨rfl, (tb6 187 rfl rfl), (tb6 188 rfl rfl), by decide⟩)⟩
set_option maxRecDepth 20000 in
theorem lok_235 : LOK (13, 88, 2, 115) := ⟨(tb4 75 rfl rfl), (tb1 1 rfl rfl), rfl, .inr (.inl ⟨rfl, (tb4 76 rfl rfl), (tb4 77 rfl rfl), by decide⟩)⟩
set_option maxRecDepth 20000 in
theorem lok_236 : LOK (13, 91, 2, 214) := ⟨(tb6 190 rfl rfl), (tb1 16 rfl rfl), rfl, .inr (.inl ⟨rfl, (tb6 191 rfl rfl), (tb6 192 rfl rfl), by decide⟩)⟩
set_option maxRecDepth 20000 in
theorem lok_237 : LOK (13, 92, 2, 116) := ⟨(tb4 79 rfl rfl), (tb1 1 rfl rfl), rfl, .inr (.inl ⟨rfl, (tb4 80 rfl rfl), (tb4 81 rfl rfl), by decide⟩)⟩
set_option maxRecDepth 20000 in
theorem lok_238 : LOK (13, 95, 2, 215) := ⟨(tb6 194 rfl rfl), (tb1 16 rfl rfl), rfl, .inr (.inl ⟨rfl, (tb6 195 rfl rfl), (tb6 196 rfl rfl), by decide⟩)⟩
set_option maxRecDepth 20000 in
theorem lok_239 : LOK (13, 96, 2, 117) := ⟨(tb4 93 rfl rfl), (tb1 1 rfl rfl), rfl, .inr (.inl ⟨rfl, (tb4 94 rfl rfl), (tb4 95 rfl rfl), by decide⟩)⟩
set_option maxRecDepth 20000 in
theorem lok_240 : LOK (13, 99, 2, 217) := ⟨(tb6 198 rfl rfl), (tb1 16 rfl rfl), rfl, .inr (.inl ⟨rfl, (tb6 199 rfl rfl), (tb6 200 rfl rfl), by decide⟩)⟩
set_option maxRecDepth 20000 in
theorem lok_241 : LOK (13, 100, 2, 118) := ⟨(tb4 110 rfl rfl), (tb1 1 rfl rfl), rfl, .inr (.inl ⟨rfl, (tb4 111 rfl rfl), (tb4 112 rfl rfl), by decide⟩)⟩
set_option maxRecDepth 20000 in
theorem lok_242 : LOK (13, 103, 2, 219) := ⟨(tb6 206 rfl rfl), (tb1 16 rfl rfl), rfl, .inr (.inl ⟨rfl, (tb6 207 rfl rfl), (tb6 208 rfl rfl), by decide⟩)⟩
set_option maxRecDepth 20000 in
theorem lok_243 : LOK (13, 104, 2, 121) := ⟨(tb4 123 rfl rfl), (tb1 1 rfl rfl), rfl, .inr (.inl ⟨rfl, (tb4 124 rfl rfl), (tb4 125 rfl rfl), by decide⟩)⟩
set_option maxRecDepth 20000 in
theorem lok_244 : LOK (13, 107, 2, 221) := ⟨(tb6 214 rfl rfl), (tb1 16 rfl rfl), rfl, .inr (.inl ⟨rfl, (tb6 215 rfl rfl), (tb6 216 rfl rfl), by decide⟩)⟩
set_option maxRecDepth 20000 in
theorem lok_245 : LOK (13, 108, 2, 122) := ⟨(tb4 131 rfl rfl), (tb1 1 rfl rfl), rfl, .inr (.inl ⟨rfl, (tb4 132 rfl rfl), (tb4 133 rfl rfl), by decide⟩)⟩
set_option maxRecDepth 20000 in
theorem lok_246 : LOK (13, 111, 2, 223) := ⟨(tb6 222 rfl rfl), (tb1 16 rfl rfl), rfl, .inr (.inl ⟨rfl, (tb6 223 rfl rfl), (tb6 224 rfl rfl), by decide⟩)⟩
set_option maxRecDepth 20000 in
theorem lok_247 : LOK (13, 112, 2, 123) := ⟨(tb4 144 rfl rfl), (tb1 1 rfl rfl), rfl, .inr (.inl ⟨rfl, (tb4 145 rfl rfl), (tb4 146 rfl rfl), by decide⟩)⟩
set_option maxRecDepth 20000 in
theorem lok_248 : LOK (13, 116, 2, 224) := ⟨(tb6 229 rfl rfl), (tb1 16 rfl rfl), rfl, .inr (.inl ⟨rfl, (tb6 230 rfl rfl), (tb6 231 rfl rfl), by decide⟩)⟩
set_option maxRecDepth 20000 in
theorem lok_249 : LOK (13, 117, 2, 124) := ⟨(tb4 150 rfl rfl), (tb1 1 rfl rfl), rfl, .inr (.inl ⟨rfl, (tb4 151 rfl rfl), (tb4 152 rfl rfl), by decide⟩)⟩
set_option maxRecDepth 20000 in
theorem lok_250 : LOK (13, 120, 2, 226) := ⟨(tb6 233 rfl rfl), (tb1 16 rfl rfl), rfl, .inr (.inl ⟨rfl, (tb6 234 rfl rfl), (tb6 235 rfl rfl), by decide⟩)⟩
set_option maxRecDepth 20000 in
theorem lok_251 : LOK (13, 121, 2, 127) := ⟨(tb4 172 rfl rfl), (tb1 1 rfl rfl), rfl, .inr (.inl ⟨rfl, (tb4 173 rfl rfl), (tb4 174 rfl rfl), by decide⟩)⟩
set_option maxRecDepth 20000 in
theorem lok_252 : LOK (13, 124, 2, 228) := ⟨(tb7 6 rfl rfl), (tb1 16 rfl rfl), rfl, .inr (.inl ⟨rfl, (tb7 7 rfl rfl), (tb7 8 rfl rfl), by decide⟩)⟩
set_option maxRecDepth 20000 in
theorem lok_253 : LOK (13, 125, 2, 128) := ⟨(tb4 181 rfl rfl), (tb1 1 rfl rfl), rfl, .inr (.inl ⟨rfl, (tb4 182 rfl rfl), (tb4 183 rfl rfl), by decide⟩)⟩
set_option maxRecDepth 20000 in
theorem lok_254 : LOK (13, 128, 2, 229) := ⟨(tb7 14 rfl rfl), (tb1 16 rfl rfl), rfl, .inr (.inl ⟨rfl, (tb7 15 rfl rfl), (tb7 16 rfl rfl), by decide⟩)⟩
set_option maxRecDepth 20000 in
theorem lok_255 : LOK (13, 129, 2, 130) := ⟨(tb4 185 rfl rfl), (tb1 1 rfl rfl), rfl, .inr (.inl ⟨rfl, (tb4 186 rfl rfl), (tb4 187 rfl rfl), by decide⟩)⟩
set_option maxRecDepth 20000 in
theorem lok_256 : LOK (13, 132, 2, 232) := ⟨(tb7 18 rfl rfl), (tb1 16 rfl rfl), rfl, .inr (.inl ⟨rfl, (tb7 19 rfl rfl), (tb7 20 rfl rfl), by decide⟩)⟩
set_option maxRecDepth 20000 in
theorem lok_257 : LOK (13, 133, 2, 132) := ⟨(tb4 209 rfl rfl), (tb1 1 rfl rfl), rfl, .inr (.inl ⟨rfl, (tb4 210 rfl rfl), (tb4 211 rfl rfl), by decide⟩)⟩
set_option maxRecDepth 20000 in
theorem lok_258 : LOK (13, 136, 2, 237) := ⟨(tb7 30 rfl rfl), (tb1 16 rfl rfl), rfl, .inr (.inl ⟨rfl, (tb7 31 rfl rfl), (tb7 32 rfl rfl), by decide⟩)⟩
set_option maxRecDepth 20000 in
theorem lok_259 : LOK (13, 137, 2, 137) := ⟨(tb4 229 rfl rfl), (tb1 1 rfl rfl), rfl, .inr (.inl ⟨rfl, (tb4 230 rfl rfl), (tb4 231 rfl rfl), by decide⟩)⟩
set_option maxRecDepth 20000 in
theorem lok_260 : LOK (13, 140, 2, 238) := ⟨(tb7 50 rfl rfl), (tb1 16 rfl rfl), rfl, .inr (.inl ⟨rfl, (tb7 51 rfl rfl), (tb7 52 rfl rfl), by decide⟩)⟩
set_option maxRecDepth 20000 in
theorem lok_261 : LOK (13, 141, 2, 138) := ⟨(tb4 233 rfl rfl), (tb1 1 rfl rfl), rfl, .inr (.inl ⟨rfl, (tb4 234 rfl rfl), (tb4 235 rfl rfl), by decide⟩)⟩
set_option maxRecDepth 20000 in
theorem lok_262 : LOK (13, 144, 2, 239) := ⟨(tb7 54 rfl rfl), (tb1 16 rfl rfl), rfl, .inr (.inl ⟨rfl, (tb7 55 rfl rfl), (tb7 56 rfl rfl), by decide⟩)⟩
set_option maxRecDepth 20000 in
theorem lok_263 : LOK (13, 145, 2, 139) := ⟨(tb4 237 rfl rfl), (tb1 1 rfl rfl), rfl, .inr (.inl ⟨rfl, (tb4 238 rfl rfl), (tb4 239 rfl rfl), by decide⟩)⟩
set_option maxRecDepth 20000 in
theorem lok_264 : LOK (13, 148, 2, 240) := ⟨(tb7 58 rfl rfl), (tb1 16 rfl rfl), rfl, .inr (.inl ⟨rfl, (tb7 59 rfl rfl), (tb7 60 rfl rfl), by decide⟩)⟩
set_option maxRecDepth 20000 in
theorem lok_265 : LOK (13, 149, 2, 140) := ⟨(tb5 1 rfl rfl), (tb1 1 rfl rfl), rfl, .inr (.inl ⟨rfl, (tb5 2 rfl rfl), (tb5 3 rfl rfl), by decide⟩)⟩
set_option maxRecDepth 20000 in
theorem lok_266 : LOK (13, 152, 2, 241) := ⟨(tb7 62 rfl rfl), (tb1 16 rfl rfl), rfl, .inr (.inl ⟨rfl, (tb7 63 rfl rfl), (tb7 64 rfl rfl), by decide⟩)⟩
set_option maxRecDepth 20000 in
theorem lok_267 : LOK (13, 153, 2, 144) := ⟨(tb5 13 rfl rfl), (tb1 1 rfl rfl), rfl, .inr (.inl ⟨rfl, (tb5 14 rfl rfl), (tb5 15 rfl rfl), by decide⟩)⟩
set_option maxRecDepth 20000 in
theorem lok_268 : LOK (13, 156, 2, 245) := ⟨(tb7 66 rfl rfl), (tb1 16 rfl rfl), rfl, .inr (.inl ⟨rfl, (tb7 67 rfl rfl), (tb7 68 rfl rfl), by decide⟩)⟩
set_option maxRecDepth 20000 in
theorem lok_269 : LOK (13, 157, 2, 145) := ⟨(tb5 31 rfl rfl), (tb1 1 rfl rfl), rfl, .inr (.inl ⟨rfl, (tb5 32 rfl rfl), (tb5 33 rfl rfl), by decide⟩)⟩
set_option maxRecDepth 20000 in
theorem lok_270 : LOK (13, 160, 2, 246) := ⟨(tb7 84 rfl rfl), (tb1 16 rfl rfl), rfl, .inr (.inl ⟨rfl, (tb7 85 rfl rfl), (tb7 86 rfl rfl), by decide⟩)⟩
set_option maxRecDepth 20000 in
theorem lok_271 : LOK (13, 161, 2, 146) := ⟨(tb5 43 rfl rfl), (tb1 1 rfl rfl), rfl, .inr (.inl ⟨rfl, (tb5 44 rfl rfl), (tb5 45 rfl rfl), by decide⟩)⟩
set_option maxRecDepth 20000 in
theorem lok_272 : LOK (13, 164, 2, 248) := ⟨(tb7 88 rfl rfl), (tb1 16 rfl rfl), rfl, .inr (.inl ⟨rfl, (tb7 89 rfl rfl), (tb7 90 rfl rfl), by decide⟩)⟩
set_option maxRecDepth 20000 in
theorem lok_273 : LOK (13, 165, 2, 147) := ⟨(tb5 51 rfl rfl), (tb1 1 rfl rfl), rfl, .inr (.inl ⟨rfl, (tb5 52 rfl rfl), (tb5 53 rfl rfl), by decide⟩)⟩
set_option maxRecDepth 20000 in
theorem lok_274 : LOK (13, 168, 2, 249) := ⟨(tb7 96 rfl rfl), (tb1 16 rfl rfl), rfl, .inr (.inl ⟨rfl, (tb7 97 rfl rfl), (tb7 98 rfl rfl), by decide⟩)⟩
set_option maxRecDepth 20000 in
theorem lok_275 : LOK (13, 169, 2, 148) := ⟨(tb5 60 rfl rfl), (tb1 1 rfl rfl), rfl, .inr (.inl ⟨rfl, (tb5 61 rfl rfl), (tb5 62 rfl rfl), by decide⟩)⟩
set_option maxRecDepth 20000 in
theorem lok_276 : LOK (13, 172, 2, 250) := ⟨(tb7 100 rfl rfl), (tb1 16 rfl rfl), rfl, .inr (.inl ⟨rfl, (tb7 101 rfl rfl), (tb7 102 rfl rfl), by decide⟩)⟩
set_option maxRecDepth 20000 in
theorem lok_277 : LOK (13, 173, 2, 151) := ⟨(tb5 68 rfl rfl), (tb1 1 rfl rfl), rfl, .inr (.inl ⟨rfl, (tb5 69 rfl rfl), (tb5 70 rfl rfl), by decide⟩)⟩
set_option maxRecDepth 20000 in
theorem lok_278 : LOK (13, 176, 2, 251) := ⟨(tb7 104 rfl rfl), (tb1 16 rfl rfl), rfl, .inr (.inl ⟨rfl, (tb7 105 rfl rfl), (tb7 106 rfl rfl), by decide⟩)⟩
set_option maxRecDepth 20000 in
theorem lok_279 : LOK (13, 177, 2, 152) := ⟨(tb5 72 rfl rfl), (tb1 1 rfl rfl), rfl, .inr (.inl ⟨rfl, (tb5 73 rfl rfl), (tb5 74 rfl rfl), by decide⟩)⟩
set_option maxRecDepth 20000 in
theorem lok_280 : LOK (13, 180, 2, 252) := ⟨(tb7 108 rfl rfl), (tb1 16 rfl rfl), rfl, .inr (.inl ⟨rfl, (tb7 109 rfl rfl), (tb7 110 rfl rfl), by decide⟩)⟩
set_option maxRecDepth 20000 in
theorem lok_281 : LOK (13, 181, 2, 153) := ⟨(tb5 76 rfl rfl), (tb1 1 rfl rfl), rfl, .inr (.inl ⟨rfl, (tb5 77 rfl rfl), (tb5 78 rfl rfl), by decide⟩)⟩
set_option maxRecDepth 20000 in
theorem lok_282 : LOK (13, 185, 2, 253) := ⟨(tb7 112 rfl rfl), (tb1 16 rfl rfl), rfl, .inr (.inl ⟨rfl, (tb7 113 rfl rfl), (tb7 114 rfl rfl), by decide⟩)⟩
set_option maxRecDepth 20000 in
theorem lok_283 : LOK (13, 186, 2, 154) := ⟨(tb5 85 rfl rfl), (tb1 1 rfl rfl), rfl, .inr (.inl ⟨rfl, (tb5 86 rfl rfl), (tb5 87 rfl rfl), by decide⟩)⟩
set_option maxRecDepth 20000 in
theorem lok_284 : LOK (13, 190, 2, 254) := ⟨(tb7 116 rfl rfl), (tb1 16 rfl rfl), rfl, .inr (.inl ⟨rfl, (tb7 117 rfl rfl), (tb7 118 rfl rfl), by decide⟩)⟩
set_option maxRecDepth 20000 in
theorem lok_285 : LOK (13, 191, 2, 155) := ⟨(tb5 89 rfl rfl), (tb1 1 rfl rfl), rfl, .inr (.inl ⟨rfl, (tb5 90 rfl rfl), (tb5 91 rfl rfl), by decide⟩)⟩
set_option maxRecDepth 20000 in
theorem lok_286 : LOK (13, 194, 2, 256) := ⟨(tb7 121 rfl rfl), (tb1 16 rfl rfl), rfl, .inr (.inl ⟨rfl, (tb7 122 rfl rfl), (tb7 123 rfl rfl), by decide⟩)⟩
set_option maxRecDepth 20000 in
theorem lok : ∀ e ∈ mthL, LOK e := (List.forall_mem_cons.mpr ⟨lok_0, (List.forall_mem_cons.mpr ⟨lok_1, (List.forall_mem_cons.mpr ⟨lok_2, (List.forall_mem_cons.mpr ⟨lok_3, (List.forall_mem_cons.mpr ⟨lok_4, (List.forall_mem_cons.mpr ⟨lok_5, (List.forall_mem_cons.mpr ⟨lok_6, (List.forall_mem_cons.mpr ⟨lok_7, (List.forall_mem_cons.mpr ⟨lok_8, (List.forall_mem_cons.mpr ⟨lok_9, (List.forall_mem_cons.mpr ⟨lok_10, (List.forall_mem_cons.mpr ⟨lok_11, (List.forall_mem_cons.mpr ⟨lok_12, (List.forall_mem_cons.mpr ⟨lok_13, (List.forall_mem_cons.mpr ⟨lok_14, (List.forall_mem_cons.mpr ⟨lok_15, (List.forall_mem_cons.mpr ⟨lok_16, (List.forall_mem_cons.mpr ⟨lok_17, (List.forall_mem_cons.mpr ⟨lok_18, (List.forall_mem_cons.mpr ⟨lok_19, (List.forall_mem_cons.mpr ⟨lok_20, (List.forall_mem_cons.mpr ⟨lok_21, (List.forall_mem_cons.mpr ⟨lok_22, (List.forall_mem_cons.mpr ⟨lok_23, (List.forall_mem_cons.mpr ⟨lok_24, (List.forall_mem_cons.mpr ⟨lok_25, (List.forall_mem_cons.mpr ⟨lok_26, (List.forall_mem_cons.mpr ⟨lok_27, (List.forall_mem_cons.mpr ⟨lok_28, (List.forall_mem_cons.mpr ⟨lok_29, (List.forall_mem_cons.mpr ⟨lok_30, (List.forall_mem_cons.mpr ⟨lok_31, (List.forall_mem_cons.mpr ⟨lok_32, (List.forall_mem_cons.mpr ⟨lok_33, (List.forall_mem_cons.mpr ⟨lok_34, (List.forall_mem_cons.mpr ⟨lok_35, (List.forall_mem_cons.mpr ⟨lok_36, (List.forall_mem_cons.mpr ⟨lok_37, (List.forall_mem_cons.mpr ⟨lok_38, (List.forall_mem_cons.mpr ⟨lok_39, (List.forall_mem_cons.mpr ⟨lok_40, (List.forall_mem_cons.mpr ⟨lok_41, (List.forall_mem_cons.mpr ⟨lok_42, (List.forall_mem_cons.mpr ⟨lok_43, (List.forall_mem_cons.mpr ⟨lok_44, (List.forall_mem_cons.mpr ⟨lok_45, (List.forall_mem_cons.mpr ⟨lok_46, (List.forall_mem_cons.mpr ⟨lok_47, (List.forall_mem_cons.mpr ⟨lok_48, (List.forall_mem_cons.mpr ⟨lok_49, (List.forall_mem_cons.mpr ⟨lok_50, (List.forall_mem_cons.mpr ⟨lok_51, (List.forall_mem_cons.mpr ⟨lok_52, (List.forall_mem_cons.mpr ⟨lok_53, (List.forall_mem_cons.mpr ⟨lok_54, (List.forall_mem_cons.mpr ⟨lok_55, (List.forall_mem_cons.mpr ⟨lok_56, (List.forall_mem_cons.mpr ⟨lok_57, (List.forall_mem_cons.mpr ⟨lok_58, (List.forall_mem_cons.mpr ⟨lok_59, (List.forall_mem_cons.mpr ⟨lok_60, (List.forall_mem_cons.mpr ⟨lok_61, (List.forall_mem_cons.mpr ⟨lok_62, (List.forall_mem_cons.mpr ⟨lok_63, (List.forall_mem_cons.mpr ⟨lok_64, (List.forall_mem_cons.mpr ⟨lok_65, (List.forall_mem_cons.mpr ⟨lok_66, (List.forall_mem_cons.mpr ⟨lok_67, (List.forall_mem_cons.mpr ⟨lok_68, (List.forall_mem_cons.mpr ⟨lok_69, (List.forall_mem_cons.mpr ⟨lok_70, (List.forall_mem_cons.mpr ⟨lok_71, (List.forall_mem_cons.mpr ⟨lok_72, (List.forall_mem_cons.mpr ⟨lok_73, (List.forall_mem_cons.mpr ⟨lok_74, (List.forall_mem_cons.mpr ⟨lok_75, (List.forall_mem_cons.mpr ⟨lok_76, (List.forall_mem_cons.mpr ⟨lok_77, (List.forall_mem_cons.mpr ⟨lok_78, (List.forall_mem_cons.mpr ⟨lok_79, (List.forall_mem_cons.mpr ⟨lok_80, (List.forall_mem_cons.mpr ⟨lok_81, (List.forall_mem_cons.mpr ⟨lok_82, (List.forall_mem_cons.mpr ⟨lok_83, (List.forall_mem_cons.mpr ⟨lok_84, (List.forall_mem_cons.mpr ⟨lok_85, (List.forall_mem_cons.mpr ⟨lok_86, (List.forall_mem_cons.mpr ⟨lok_87, (List.forall_mem_cons.mpr ⟨lok_88, (List.forall_mem_cons.mpr ⟨lok_89, (List.forall_mem_cons.mpr ⟨lok_90, (List.forall_mem_cons.mpr ⟨lok_91, (List.forall_mem_cons.mpr ⟨lok_92, (List.forall_mem_cons.mpr ⟨lok_93, (List.forall_mem_cons.mpr ⟨lok_94, (List.forall_mem_cons.mpr ⟨lok_95, (List.forall_mem_cons.mpr ⟨lok_96, (List.forall_mem_cons.mpr ⟨lok_97, (List.forall_mem_cons.mpr ⟨lok_98, (List.forall_mem_cons.mpr ⟨lok_99, (List.forall_mem_cons.mpr ⟨lok_100, (List.forall_mem_cons.mpr ⟨lok_101, (List.forall_mem_cons.mpr ⟨lok_102, (List.forall_mem_cons.mpr ⟨lok_103, (List.forall_mem_cons.mpr ⟨lok_104, (List.forall_mem_cons.mpr ⟨lok_105, (List.forall_mem_cons.mpr ⟨lok_106, (List.forall_mem_cons.mpr ⟨lok_107, (List.forall_mem_cons.mpr ⟨lok_108, (List.forall_mem_cons.mpr ⟨lok_109, (List.forall_mem_cons.mpr ⟨lok_110, (List.forall_mem_cons.mpr ⟨lok_111, (List.forall_mem_cons.mpr ⟨lok_112, (List.forall_mem_cons.mpr ⟨lok_113, (List.forall_mem_cons.mpr ⟨lok_114, (List.forall_mem_cons.mpr ⟨lok_115, (List.forall_mem_cons.mpr ⟨lok_116, (List.forall_mem_cons.mpr ⟨lok_117, (List.forall_mem_cons.mpr ⟨lok_118, (List.forall_mem_cons.mpr ⟨lok_119, (List.forall_mem_cons.mpr ⟨lok_120, (List.forall_mem_cons.mpr ⟨lok_121, (List.forall_mem_cons.mpr ⟨lok_122, (List.forall_mem_cons.mpr ⟨lok_123, (List.forall_mem_cons.mpr ⟨lok_124, (List.forall_mem_cons.mpr ⟨lok_125, (List.forall_mem_cons.mpr ⟨lok_126, (List.forall_mem_cons.mpr ⟨lok_127, (List.forall_mem_cons.mpr ⟨lok_128, (List.forall_mem_cons.mpr ⟨lok_129, (List.forall_mem_cons.mpr ⟨lok_130, (List.forall_mem_cons.mpr ⟨lok_131, (List.forall_mem_cons.mpr ⟨lok_132, (List.forall_mem_cons.mpr ⟨lok_133, (List.forall_mem_cons.mpr ⟨lok_134, (List.forall_mem_cons.mpr ⟨lok_135, (List.forall_mem_cons.mpr ⟨lok_136, (List.forall_mem_cons.mpr ⟨lok_137, (List.forall_mem_cons.mpr ⟨lok_138, (List.forall_mem_cons.mpr ⟨lok_139, (List.forall_mem_cons.mpr ⟨lok_140, (List.forall_mem_cons.mpr ⟨lok_141, (List.forall_mem_cons.mpr ⟨lok_142, (List.forall_mem_cons.mpr ⟨lok_143, (List.forall_mem_cons.mpr ⟨lok_144, (List.forall_mem_cons.mpr ⟨lok_145, (List.forall_mem_cons.mpr ⟨lok_146, (List.forall_mem_cons.mpr ⟨lok_147, (List.forall_mem_cons.mpr ⟨lok_148, (List.forall_mem_cons.mpr ⟨lok_149, (List.forall_mem_cons.mpr ⟨lok_150, (List.forall_mem_cons.mpr ⟨lok_151, (List.forall_mem_cons.mpr ⟨lok_152, (List.forall_mem_cons.mpr ⟨lok_153, (List.forall_mem_cons.mpr ⟨lok_154, (List.forall_mem_cons.mpr ⟨lok_155, (List.forall_mem_cons.mpr ⟨lok_156, (List.forall_mem_cons.mpr ⟨lok_157, (List.forall_mem_cons.mpr ⟨lok_158, (List.forall_mem_cons.mpr ⟨lok_159, (List.forall_mem_cons.mpr ⟨lok_160, (List.forall_mem_cons.mpr ⟨lok_161, (List.forall_mem_cons.mpr ⟨lok_162, (List.forall_mem_cons.mpr ⟨lok_163, (List.forall_mem_cons.mpr ⟨lok_164, (List.forall_mem_cons.mpr ⟨lok_165, (List.forall_mem_cons.mpr ⟨lok_166, (List.forall_mem_cons.mpr ⟨lok_167, (List.forall_mem_cons.mpr ⟨lok_168, (List.forall_mem_cons.mpr ⟨lok_169, (List.forall_mem_cons.mpr ⟨lok_170, (List.forall_mem_cons.mpr ⟨lok_171, (List.forall_mem_cons.mpr ⟨lok_172, (List.forall_mem_cons.mpr ⟨lok_173, (List.forall_mem_cons.mpr ⟨lok_174, (List.forall_mem_cons.mpr ⟨lok_175, (List.forall_mem_cons.mpr ⟨lok_176, (List.forall_mem_cons.mpr ⟨lok_177, (List.forall_mem_cons.mpr ⟨lok_178, (List.forall_mem_cons.mpr ⟨lok_179, (List.forall_mem_cons.mpr ⟨lok_180, (List.forall_mem_cons.mpr ⟨lok_181, (List.forall_mem_cons.mpr ⟨lok_182, (List.forall_mem_cons.mpr ⟨lok_183, (List.forall_mem_cons.mpr ⟨lok_184, (List.forall_mem_cons.mpr ⟨lok_185, (List.forall_mem_cons.mpr ⟨lok_186, (List.forall_mem_cons.mpr ⟨lok_187, (List.forall_mem_cons.mpr ⟨lok_188, (List.forall_mem_cons.mpr ⟨lok_189, (List.forall_mem_cons.mpr ⟨lok_190, (List.forall_mem_cons.mpr ⟨lok_191, (List.forall_mem_cons.mpr ⟨lok_192, (List.forall_mem_cons.mpr ⟨lok_193, (List.forall_mem_cons.mpr ⟨lok_194, (List.forall_mem_cons.mpr ⟨lok_195, (List.forall_mem_cons.mpr ⟨lok_196, (List.forall_mem_cons.mpr ⟨lok_197, (List.forall_mem_cons.mpr ⟨lok_198, (List.forall_mem_cons.mpr ⟨lok_199, (List.forall_mem_cons.mpr ⟨lok_200, (List.forall_mem_cons.mpr ⟨lok_201, (List.forall_mem_cons.mpr ⟨lok_202, (List.forall_mem_cons.mpr ⟨lok_203, (List.forall_mem_cons.mpr ⟨lok_204, (List.forall_mem_cons.mpr ⟨lok_205, (List.forall_mem_cons.mpr ⟨lok_206, (List.forall_mem_cons.mpr ⟨lok_207, (List.forall_mem_cons.mpr ⟨lok_208, (List.forall_mem_cons.mpr ⟨lok_209, (List.forall_mem_cons.mpr ⟨lok_210, (List.forall_mem_cons.mpr ⟨lok_211, (List.forall_mem_cons.mpr ⟨lok_212, (List.forall_mem_cons.mpr ⟨lok_213, (List.forall_mem_cons.mpr ⟨lok_214, (List.forall_mem_cons.mpr ⟨lok_215, (List.forall_mem_cons.mpr ⟨lok_216, (List.forall_mem_cons.mpr ⟨lok_217, (List.forall_mem_cons.mpr ⟨lok_218, (List.forall_mem_cons.mpr ⟨lok_219, (List.forall_mem_cons.mpr ⟨lok_220, (List.forall_mem_cons.mpr ⟨lok_221, (List.forall_mem_cons.mpr ⟨lok_222, (List.forall_mem_cons.mpr ⟨lok_223, (List.forall_mem_cons.mpr ⟨lok_224, (List.forall_mem_cons.mpr ⟨lok_225, (List.forall_mem_cons.mpr ⟨lok_226, (List.forall_mem_cons.mpr ⟨lok_227, (List.forall_mem_cons.mpr ⟨lok_228, (List.forall_mem_cons.mpr ⟨lok_229, (List.forall_mem_cons.mpr ⟨lok_230, (List.forall_mem_cons.mpr ⟨lok_231, (List.forall_mem_cons.mpr ⟨lok_232, (List.forall_mem_cons.mpr ⟨lok_233, (List.forall_mem_cons.mpr ⟨lok_234, (List.forall_mem_cons.mpr ⟨lok_235, (List.forall_mem_cons.mpr ⟨lok_236, (List.forall_mem_cons.mpr ⟨lok_237, (List.forall_mem_cons.mpr ⟨lok_238, (List.forall_mem_cons.mpr ⟨lok_239, (List.forall_mem_cons.mpr ⟨lok_240, (List.forall_mem_cons.mpr ⟨lok_241, (List.forall_mem_cons.mpr ⟨lok_242, (List.forall_mem_cons.mpr ⟨lok_243, (List.forall_mem_cons.mpr ⟨lok_244, (List.forall_mem_cons.mpr ⟨lok_245, (List.forall_mem_cons.mpr ⟨lok_246, (List.forall_mem_cons.mpr ⟨lok_247, (List.forall_mem_cons.mpr ⟨lok_248, (List.forall_mem_cons.mpr ⟨lok_249, (List.forall_mem_cons.mpr ⟨lok_250, (List.forall_mem_cons.mpr ⟨lok_251, (List.forall_mem_cons.mpr ⟨lok_252, (List.forall_mem_cons.mpr ⟨lok_253, (List.forall_mem_cons.mpr ⟨lok_254, (List.forall_mem_cons.mpr ⟨lok_255, (List.forall_mem_cons.mpr ⟨lok_256, (List.forall_mem_cons.mpr ⟨lok_257, (List.forall_mem_cons.mpr ⟨lok_258, (List.forall_mem_cons.mpr ⟨lok_259, (List.forall_mem_cons.mpr ⟨lok_260, (List.forall_mem_cons.mpr ⟨lok_261, (List.forall_mem_cons.mpr ⟨lok_262, (List.forall_mem_cons.mpr ⟨lok_263, (List.forall_mem_cons.mpr ⟨lok_264, (List.forall_mem_cons.mpr ⟨lok_265, (List.forall_mem_cons.mpr ⟨lok_266, (List.forall_mem_cons.mpr ⟨lok_267, (List.forall_mem_cons.mpr ⟨lok_268, (List.forall_mem_cons.mpr ⟨lok_269, (List.forall_mem_cons.mpr ⟨lok_270, (List.forall_mem_cons.mpr ⟨lok_271, (List.forall_mem_cons.mpr ⟨lok_272, (List.forall_mem_cons.mpr ⟨lok_273, (List.forall_mem_cons.mpr ⟨lok_274, (List.forall_mem_cons.mpr ⟨lok_275, (List.forall_mem_cons.mpr ⟨lok_276, (List.forall_mem_cons.mpr ⟨lok_277, (List.forall_mem_cons.mpr ⟨lok_278, (List.forall_mem_cons.mpr ⟨lok_279, (List.forall_mem_cons.mpr ⟨lok_280, (List.forall_mem_cons.mpr ⟨lok_281, (List.forall_mem_cons.mpr ⟨lok_282, (List.forall_mem_cons.mpr ⟨lok_283, (List.forall_mem_cons.mpr ⟨lok_284, (List.forall_mem_cons.mpr ⟨lok_285, (List.forall_mem_cons.mpr ⟨lok_286, (fun _ h => absurd h List.not_mem_nil)⟩)⟩)⟩)⟩)⟩)⟩)⟩)⟩)⟩)⟩)⟩)⟩)⟩)⟩)⟩)⟩)⟩)⟩)⟩)⟩)⟩)⟩)⟩)⟩)⟩)⟩)⟩)⟩)⟩)⟩)⟩)⟩)⟩)⟩)⟩)⟩)⟩)⟩)⟩)⟩)⟩)⟩)⟩)⟩)⟩)⟩)⟩)⟩)⟩)⟩)⟩)⟩)⟩)⟩)⟩)⟩)⟩)⟩)⟩)⟩)⟩)⟩)⟩)⟩)⟩)⟩)⟩)⟩)⟩)⟩)⟩)⟩)⟩)⟩)⟩)⟩)⟩)⟩)⟩)⟩)⟩)⟩)⟩)⟩)⟩)⟩)⟩)⟩)⟩)⟩)⟩)⟩)⟩)⟩)⟩)⟩)⟩)⟩)⟩)⟩)⟩)⟩)⟩)⟩)⟩)⟩)⟩)⟩)⟩)⟩)⟩)⟩)⟩)⟩)⟩)⟩)⟩)⟩)⟩)⟩)⟩)⟩)⟩)⟩)⟩)⟩)⟩)⟩)⟩)⟩)⟩)⟩)⟩)⟩)⟩)⟩)⟩)⟩)⟩)⟩)⟩)⟩)⟩)⟩)⟩)⟩)⟩)⟩)⟩)⟩)⟩)⟩)⟩)⟩)⟩)⟩)⟩)⟩)⟩)⟩)⟩)⟩)⟩)⟩)⟩)⟩)⟩)⟩)⟩)⟩)⟩)⟩)⟩)⟩)⟩)⟩)⟩)⟩)⟩)⟩)⟩)⟩)⟩)⟩)⟩)⟩)⟩)⟩)⟩)⟩)⟩)⟩)⟩)⟩)⟩)⟩)⟩)⟩)⟩)⟩)⟩)⟩)⟩)⟩)⟩)⟩)⟩)⟩)⟩)⟩)⟩)⟩)⟩)⟩)⟩)⟩)⟩)⟩)⟩)⟩)⟩)⟩)⟩)⟩)⟩)⟩)⟩)⟩)⟩)⟩)⟩)⟩)⟩)⟩)⟩)⟩)⟩)⟩)⟩)⟩)⟩)⟩)⟩)⟩)⟩)⟩)⟩)⟩)⟩)⟩)⟩)⟩)⟩)⟩)⟩)⟩)⟩)⟩)⟩)⟩)⟩)⟩)⟩)⟩)⟩)⟩)⟩)⟩)⟩)⟩)⟩)⟩)⟩)⟩)⟩)⟩)⟩)⟩)⟩)⟩)⟩)⟩)⟩)⟩)⟩)⟩)⟩)
def MOK (mi : Nat) : Prop := Cond.code (nmOf mi) (codeOf mi) (maxLOf mi) (retOf mi) ∈ TB ∧ (plainName (nmOf mi).cls = true ∧ (nmOf mi).cls ≠ "java/lang/invoke/MethodHandle" ∧ (nmOf mi).cls ≠ "java/lang/invoke/VarHandle") ∧ (parseMethodDescriptor (nmOf mi).desc).map (fun d => d.parameters.length) = some (narOf mi) ∧ maxLOf mi ≤ 22 ∧ (nmOf mi).cls = cname (clsOf mi)
set_option maxRecDepth 20000 in
theorem mok_0 : MOK 0 := ⟨(tb2 104 rfl rfl), by decide +kernel, by decide +kernel, by decide, rfl⟩
set_option maxRecDepth 20000 in
theorem mok_1 : MOK 1 := ⟨(tb5 58 rfl rfl), by decide +kernel, by decide +kernel, by decide, rfl⟩
set_option maxRecDepth 20000 in
theorem mok_2 : MOK 2 := ⟨(tb5 67 rfl rfl), by decide +kernel, by decide +kernel, by decide, rfl⟩
set_option maxRecDepth 20000 in
theorem mok_3 : MOK 3 := ⟨(tb1 140 rfl rfl), by decide +kernel, by decide +kernel, by decide, rfl⟩
set_option maxRecDepth 20000 in
theorem mok_4 : MOK 4 := ⟨(tb3 104 rfl rfl), by decide +kernel, by decide +kernel, by decide, rfl⟩
set_option maxRecDepth 20000 in
theorem mok_5 : MOK 5 := ⟨(tb3 95 rfl rfl), by decide +kernel, by decide +kernel, by decide, rfl⟩
set_option maxRecDepth 20000 in
theorem mok_6 : MOK 6 := ⟨(tb3 116 rfl rfl), by decide +kernel, by decide +kernel, by decide, rfl⟩
set_option maxRecDepth 20000 in
theorem mok_7 : MOK 7 := ⟨(tb4 179 rfl rfl), by decide +kernel, by decide +kernel, by decide, rfl⟩
set_option maxRecDepth 20000 in
theorem mok_8 : MOK 8 := ⟨(tb1 56 rfl rfl), by decide +kernel, by decide +kernel, by decide, rfl⟩
set_option maxRecDepth 20000 in
theorem mok_9 : MOK 9 := ⟨(tb3 112 rfl rfl), by decide +kernel, by decide +kernel, by decide, rfl⟩
set_option maxRecDepth 20000 in
theorem mok_10 : MOK 10 := ⟨(tb3 143 rfl rfl), by decide +kernel, by decide +kernel, by decide, rfl⟩
set_option maxRecDepth 20000 in
theorem mok_11 : MOK 11 := ⟨(tb2 165 rfl rfl), by decide +kernel, by decide +kernel, by decide, rfl⟩
set_option maxRecDepth 20000 in
theorem mok_12 : MOK 12 := ⟨(tb3 210 rfl rfl), by decide +kernel, by decide +kernel, by decide, rfl⟩
set_option maxRecDepth 20000 in
theorem mok_13 : MOK 13 := ⟨(tb4 33 rfl rfl), by decide +kernel, by decide +kernel, by decide, rfl⟩
set_option maxRecDepth 20000 in
theorem mok_14 : MOK 14 := ⟨(tb4 29 rfl rfl), by decide +kernel, by decide +kernel, by decide, rfl⟩
set_option maxRecDepth 20000 in
theorem mok_15 : MOK 15 := ⟨(tb3 139 rfl rfl), by decide +kernel, by decide +kernel, by decide, rfl⟩
set_option maxRecDepth 20000 in
theorem mok_16 : MOK 16 := ⟨(tb3 177 rfl rfl), by decide +kernel, by decide +kernel, by decide, rfl⟩
set_option maxRecDepth 20000 in
theorem mok_17 : MOK 17 := ⟨(tb3 174 rfl rfl), by decide +kernel, by decide +kernel, by decide, rfl⟩
set_option maxRecDepth 20000 in
theorem mok_18 : MOK 18 := ⟨(tb3 159 rfl rfl), by decide +kernel, by decide +kernel, by decide, rfl⟩
set_option maxRecDepth 20000 in
theorem mok_19 : MOK 19 := ⟨(tb4 171 rfl rfl), by decide +kernel, by decide +kernel, by decide, rfl⟩
set_option maxRecDepth 20000 in
theorem mok_20 : MOK 20 := ⟨(tb4 166 rfl rfl), by decide +kernel, by decide +kernel, by decide, rfl⟩
set_option maxRecDepth 20000 in
theorem mok_21 : MOK 21 := ⟨(tb1 117 rfl rfl), by decide +kernel, by decide +kernel, by decide, rfl⟩
set_option maxRecDepth 20000 in
theorem mok_22 : MOK 22 := ⟨(tb2 207 rfl rfl), by decide +kernel, by decide +kernel, by decide, rfl⟩
set_option maxRecDepth 20000 in
theorem mok_23 : MOK 23 := ⟨(tb3 57 rfl rfl), by decide +kernel, by decide +kernel, by decide, rfl⟩
set_option maxRecDepth 20000 in
theorem mok_24 : MOK 24 := ⟨(tb3 52 rfl rfl), by decide +kernel, by decide +kernel, by decide, rfl⟩
set_option maxRecDepth 20000 in
theorem mok_25 : MOK 25 := ⟨(tb3 89 rfl rfl), by decide +kernel, by decide +kernel, by decide, rfl⟩
set_option maxRecDepth 20000 in
theorem mok_26 : MOK 26 := ⟨(tb3 61 rfl rfl), by decide +kernel, by decide +kernel, by decide, rfl⟩
set_option maxRecDepth 20000 in
theorem mok_27 : MOK 27 := ⟨(tb3 65 rfl rfl), by decide +kernel, by decide +kernel, by decide, rfl⟩
set_option maxRecDepth 20000 in
theorem mok_28 : MOK 28 := ⟨(tb3 69 rfl rfl), by decide +kernel, by decide +kernel, by decide, rfl⟩
set_option maxRecDepth 20000 in
theorem mok_29 : MOK 29 := ⟨(tb3 73 rfl rfl), by decide +kernel, by decide +kernel, by decide, rfl⟩
set_option maxRecDepth 20000 in
theorem mok_30 : MOK 30 := ⟨(tb3 77 rfl rfl), by decide +kernel, by decide +kernel, by decide, rfl⟩
set_option maxRecDepth 20000 in
theorem mok_31 : MOK 31 := ⟨(tb3 81 rfl rfl), by decide +kernel, by decide +kernel, by decide, rfl⟩
set_option maxRecDepth 20000 in
theorem mok_32 : MOK 32 := ⟨(tb3 85 rfl rfl), by decide +kernel, by decide +kernel, by decide, rfl⟩
set_option maxRecDepth 20000 in
theorem mok_33 : MOK 33 := ⟨(tb2 85 rfl rfl), by decide +kernel, by decide +kernel, by decide, rfl⟩
set_option maxRecDepth 20000 in
theorem mok_34 : MOK 34 := ⟨(tb4 203 rfl rfl), by decide +kernel, by decide +kernel, by decide, rfl⟩
set_option maxRecDepth 20000 in
theorem mok_35 : MOK 35 := ⟨(tb5 38 rfl rfl), by decide +kernel, by decide +kernel, by decide, rfl⟩
set_option maxRecDepth 20000 in
theorem mok_36 : MOK 36 := ⟨(tb5 42 rfl rfl), by decide +kernel, by decide +kernel, by decide, rfl⟩
set_option maxRecDepth 20000 in
theorem mok_37 : MOK 37 := ⟨(tb5 83 rfl rfl), by decide +kernel, by decide +kernel, by decide, rfl⟩
set_option maxRecDepth 20000 in
theorem mok_38 : MOK 38 := ⟨(tb2 2 rfl rfl), by decide +kernel, by decide +kernel, by decide, rfl⟩
set_option maxRecDepth 20000 in
theorem mok_39 : MOK 39 := ⟨(tb2 15 rfl rfl), by decide +kernel, by decide +kernel, by decide, rfl⟩
set_option maxRecDepth 20000 in
theorem mok_40 : MOK 40 := ⟨(tb2 7 rfl rfl), by decide +kernel, by decide +kernel, by decide, rfl⟩
set_option maxRecDepth 20000 in
theorem mok_41 : MOK 41 := ⟨(tb2 11 rfl rfl), by decide +kernel, by decide +kernel, by decide, rfl⟩
set_option maxRecDepth 20000 in
theorem mok_42 : MOK 42 := ⟨(tb2 19 rfl rfl), by decide +kernel, by decide +kernel, by decide, rfl⟩
set_option maxRecDepth 20000 in
theorem mok_43 : MOK 43 := ⟨(tb3 228 rfl rfl), by decide +kernel, by decide +kernel, by decide, rfl⟩
set_option maxRecDepth 20000 in
theorem mok_44 : MOK 44 := ⟨(tb3 232 rfl rfl), by decide +kernel, by decide +kernel, by decide, rfl⟩
set_option maxRecDepth 20000 in
theorem mok_45 : MOK 45 := ⟨(tb4 11 rfl rfl), by decide +kernel, by decide +kernel, by decide, rfl⟩
set_option maxRecDepth 20000 in
theorem mok_46 : MOK 46 := ⟨(tb1 88 rfl rfl), by decide +kernel, by decide +kernel, by decide, rfl⟩
set_option maxRecDepth 20000 in
theorem mok_47 : MOK 47 := ⟨(tb2 199 rfl rfl), by decide +kernel, by decide +kernel, by decide, rfl⟩
set_option maxRecDepth 20000 in
theorem mok_48 : MOK 48 := ⟨(tb2 211 rfl rfl), by decide +kernel, by decide +kernel, by decide, rfl⟩
set_option maxRecDepth 20000 in
theorem mok_49 : MOK 49 := ⟨(tb2 215 rfl rfl), by decide +kernel, by decide +kernel, by decide, rfl⟩
set_option maxRecDepth 20000 in
theorem mok_50 : MOK 50 := ⟨(tb2 225 rfl rfl), by decide +kernel, by decide +kernel, by decide, rfl⟩
set_option maxRecDepth 20000 in
theorem mok_51 : MOK 51 := ⟨(tb3 0 rfl rfl), by decide +kernel, by decide +kernel, by decide, rfl⟩
set_option maxRecDepth 20000 in
theorem mok_52 : MOK 52 := ⟨(tb3 45 rfl rfl), by decide +kernel, by decide +kernel, by decide, rfl⟩
set_option maxRecDepth 20000 in
theorem mok_53 : MOK 53 := ⟨(tb2 218 rfl rfl), by decide +kernel, by decide +kernel, by decide, rfl⟩
set_option maxRecDepth 20000 in
theorem mok_54 : MOK 54 := ⟨(tb2 221 rfl rfl), by decide +kernel, by decide +kernel, by decide, rfl⟩
set_option maxRecDepth 20000 in
theorem mok_55 : MOK 55 := ⟨(tb3 41 rfl rfl), by decide +kernel, by decide +kernel, by decide, rfl⟩
set_option maxRecDepth 20000 in
theorem mok_56 : MOK 56 := ⟨(tb3 48 rfl rfl), by decide +kernel, by decide +kernel, by decide, rfl⟩
set_option maxRecDepth 20000 in
theorem mok_57 : MOK 57 := ⟨(tb1 147 rfl rfl), by decide +kernel, by decide +kernel, by decide, rfl⟩
set_option maxRecDepth 20000 in
theorem mok_58 : MOK 58 := ⟨(tb3 123 rfl rfl), by decide +kernel, by decide +kernel, by decide, rfl⟩
set_option maxRecDepth 20000 in
theorem mok_59 : MOK 59 := ⟨(tb3 126 rfl rfl), by decide +kernel, by decide +kernel, by decide, rfl⟩
set_option maxRecDepth 20000 in
theorem mok_60 : MOK 60 := ⟨(tb1 236 rfl rfl), by decide +kernel, by decide +kernel, by decide, rfl⟩
set_option maxRecDepth 20000 in
theorem mok_61 : MOK 61 := ⟨(tb3 202 rfl rfl), by decide +kernel, by decide +kernel, by decide, rfl⟩
set_option maxRecDepth 20000 in
theorem mok_62 : MOK 62 := ⟨(tb3 218 rfl rfl), by decide +kernel, by decide +kernel, by decide, rfl⟩
set_option maxRecDepth 20000 in
theorem mok_63 : MOK 63 := ⟨(tb3 223 rfl rfl), by decide +kernel, by decide +kernel, by decide, rfl⟩
set_option maxRecDepth 20000 in
theorem mok_64 : MOK 64 := ⟨(tb4 42 rfl rfl), by decide +kernel, by decide +kernel, by decide, rfl⟩
set_option maxRecDepth 20000 in
theorem mok_65 : MOK 65 := ⟨(tb4 7 rfl rfl), by decide +kernel, by decide +kernel, by decide, rfl⟩
set_option maxRecDepth 20000 in
theorem mok_66 : MOK 66 := ⟨(tb4 46 rfl rfl), by decide +kernel, by decide +kernel, by decide, rfl⟩
set_option maxRecDepth 20000 in
theorem mok_67 : MOK 67 := ⟨(tb4 38 rfl rfl), by decide +kernel, by decide +kernel, by decide, rfl⟩
set_option maxRecDepth 20000 in
theorem mok_68 : MOK 68 := ⟨(tb4 2 rfl rfl), by decide +kernel, by decide +kernel, by decide, rfl⟩
set_option maxRecDepth 20000 in
theorem mok_69 : MOK 69 := ⟨(tb4 70 rfl rfl), by decide +kernel, by decide +kernel, by decide, rfl⟩
set_option maxRecDepth 20000 in
theorem mok_70 : MOK 70 := ⟨(tb4 55 rfl rfl), by decide +kernel, by decide +kernel, by decide, rfl⟩
set_option maxRecDepth 20000 in
theorem mok_71 : MOK 71 := ⟨(tb4 86 rfl rfl), by decide +kernel, by decide +kernel, by decide, rfl⟩
set_option maxRecDepth 20000 in
theorem mok_72 : MOK 72 := ⟨(tb4 92 rfl rfl), by decide +kernel, by decide +kernel, by decide, rfl⟩
set_option maxRecDepth 20000 in
theorem mok_73 : MOK 73 := ⟨(tb4 100 rfl rfl), by decide +kernel, by decide +kernel, by decide, rfl⟩
set_option maxRecDepth 20000 in
theorem mok_74 : MOK 74 := ⟨(tb4 104 rfl rfl), by decide +kernel, by decide +kernel, by decide, rfl⟩
set_option maxRecDepth 20000 in
theorem mok_75 : MOK 75 := ⟨(tb4 109 rfl rfl), by decide +kernel, by decide +kernel, by decide, rfl⟩
set_option maxRecDepth 20000 in
theorem mok_76 : MOK 76 := ⟨(tb4 130 rfl rfl), by decide +kernel, by decide +kernel, by decide, rfl⟩
set_option maxRecDepth 20000 in
theorem mok_77 : MOK 77 := ⟨(tb1 202 rfl rfl), by decide +kernel, by decide +kernel, by decide, rfl⟩
set_option maxRecDepth 20000 in
theorem mok_78 : MOK 78 := ⟨(tb2 172 rfl rfl), by decide +kernel, by decide +kernel, by decide, rfl⟩
set_option maxRecDepth 20000 in
theorem mok_79 : MOK 79 := ⟨(tb3 147 rfl rfl), by decide +kernel, by decide +kernel, by decide, rfl⟩
set_option maxRecDepth 20000 in
theorem mok_80 : MOK 80 := ⟨(tb3 167 rfl rfl), by decide +kernel, by decide +kernel, by decide, rfl⟩
set_option maxRecDepth 20000 in
theorem mok_81 : MOK 81 := ⟨(tb3 192 rfl rfl), by decide +kernel, by decide +kernel, by decide, rfl⟩
set_option maxRecDepth 20000 in
theorem mok_82 : MOK 82 := ⟨(tb3 183 rfl rfl), by decide +kernel, by decide +kernel, by decide, rfl⟩
set_option maxRecDepth 20000 in
theorem mok_83 : MOK 83 := ⟨(tb3 207 rfl rfl), by decide +kernel, by decide +kernel, by decide, rfl⟩
set_option maxRecDepth 20000 in
theorem mok_84 : MOK 84 := ⟨(tb3 214 rfl rfl), by decide +kernel, by decide +kernel, by decide, rfl⟩
set_option maxRecDepth 20000 in
theorem mok_85 : MOK 85 := ⟨(tb3 171 rfl rfl), by decide +kernel, by decide +kernel, by decide, rfl⟩
set_option maxRecDepth 20000 in
theorem mok_86 : MOK 86 := ⟨(tb5 24 rfl rfl), by decide +kernel, by decide +kernel, by decide, rfl⟩
set_option maxRecDepth 20000 in
theorem mok_87 : MOK 87 := ⟨(tb5 30 rfl rfl), by decide +kernel, by decide +kernel, by decide, rfl⟩
set_option maxRecDepth 20000 in
theorem mok_88 : MOK 88 := ⟨(tb5 50 rfl rfl), by decide +kernel, by decide +kernel, by decide, rfl⟩
set_option maxRecDepth 20000 in
theorem mok_89 : MOK 89 := ⟨(tb1 35 rfl rfl), by decide +kernel, by decide +kernel, by decide, rfl⟩
set_option maxRecDepth 20000 in
theorem mok_90 : MOK 90 := ⟨(tb2 180 rfl rfl), by decide +kernel, by decide +kernel, by decide, rfl⟩
set_option maxRecDepth 20000 in
theorem mok_91 : MOK 91 := ⟨(tb1 27 rfl rfl), by decide +kernel, by decide +kernel, by decide, rfl⟩
set_option maxRecDepth 20000 in
theorem mok_92 : MOK 92 := ⟨(tb2 157 rfl rfl), by decide +kernel, by decide +kernel, by decide, rfl⟩
set_option maxRecDepth 20000 in
theorem mok_93 : MOK 93 := ⟨(tb2 161 rfl rfl), by decide +kernel, by decide +kernel, by decide, rfl⟩
set_option maxRecDepth 20000 in
theorem mok_94 : MOK 94 := ⟨(tb2 176 rfl rfl), by decide +kernel, by decide +kernel, by decide, rfl⟩
set_option maxRecDepth 20000 in
theorem mok_95 : MOK 95 := ⟨(tb2 184 rfl rfl), by decide +kernel, by decide +kernel, by decide, rfl⟩
set_option maxRecDepth 20000 in
theorem mok_96 : MOK 96 := ⟨(tb2 188 rfl rfl), by decide +kernel, by decide +kernel, by decide, rfl⟩
set_option maxRecDepth 20000 in
theorem mok_97 : MOK 97 := ⟨(tb2 192 rfl rfl), by decide +kernel, by decide +kernel, by decide, rfl⟩
set_option maxRecDepth 20000 in
theorem mok_98 : MOK 98 := ⟨(tb2 195 rfl rfl), by decide +kernel, by decide +kernel, by decide, rfl⟩
set_option maxRecDepth 20000 in
theorem mok_99 : MOK 99 := ⟨(tb2 203 rfl rfl), by decide +kernel, by decide +kernel, by decide, rfl⟩
set_option maxRecDepth 20000 in
theorem mok_100 : MOK 100 := ⟨(tb3 100 rfl rfl), by decide +kernel, by decide +kernel, by decide, rfl⟩
set_option maxRecDepth 20000 in
theorem mok_101 : MOK 101 := ⟨(tb3 108 rfl rfl), by decide +kernel, by decide +kernel, by decide, rfl⟩
set_option maxRecDepth 20000 in
theorem mok_102 : MOK 102 := ⟨(tb3 132 rfl rfl), by decide +kernel, by decide +kernel, by decide, rfl⟩
set_option maxRecDepth 20000 in
theorem mok_103 : MOK 103 := ⟨(tb3 136 rfl rfl), by decide +kernel, by decide +kernel, by decide, rfl⟩
set_option maxRecDepth 20000 in
theorem mok_104 : MOK 104 := ⟨(tb3 151 rfl rfl), by decide +kernel, by decide +kernel, by decide, rfl⟩
set_option maxRecDepth 20000 in
theorem mok_105 : MOK 105 := ⟨(tb3 155 rfl rfl), by decide +kernel, by decide +kernel, by decide, rfl⟩
set_option maxRecDepth 20000 in
theorem mok_106 : MOK 106 := ⟨(tb3 163 rfl rfl), by decide +kernel, by decide +kernel, by decide, rfl⟩
set_option maxRecDepth 20000 in
theorem mok_107 : MOK 107 := ⟨(tb3 188 rfl rfl), by decide +kernel, by decide +kernel, by decide, rfl⟩
set_option maxRecDepth 20000 in
theorem mok_108 : MOK 108 := ⟨(tb3 197 rfl rfl), by decide +kernel, by decide +kernel, by decide, rfl⟩
set_option maxRecDepth 20000 in
theorem mok_109 : MOK 109 := ⟨(tb4 25 rfl rfl), by decide +kernel, by decide +kernel, by decide, rfl⟩
set_option maxRecDepth 20000 in
theorem mok_110 : MOK 110 := ⟨(tb4 51 rfl rfl), by decide +kernel, by decide +kernel, by decide, rfl⟩
set_option maxRecDepth 20000 in
theorem mok_111 : MOK 111 := ⟨(tb4 59 rfl rfl), by decide +kernel, by decide +kernel, by decide, rfl⟩
set_option maxRecDepth 20000 in
theorem mok_112 : MOK 112 := ⟨(tb4 63 rfl rfl), by decide +kernel, by decide +kernel, by decide, rfl⟩
set_option maxRecDepth 20000 in
theorem mok_113 : MOK 113 := ⟨(tb4 66 rfl rfl), by decide +kernel, by decide +kernel, by decide, rfl⟩
set_option maxRecDepth 20000 in
theorem mok_114 : MOK 114 := ⟨(tb4 74 rfl rfl), by decide +kernel, by decide +kernel, by decide, rfl⟩
set_option maxRecDepth 20000 in
theorem mok_115 : MOK 115 := ⟨(tb4 78 rfl rfl), by decide +kernel, by decide +kernel, by decide, rfl⟩
set_option maxRecDepth 20000 in
theorem mok_116 : MOK 116 := ⟨(tb4 82 rfl rfl), by decide +kernel, by decide +kernel, by decide, rfl⟩
set_option maxRecDepth 20000 in
theorem mok_117 : MOK 117 := ⟨(tb4 96 rfl rfl), by decide +kernel, by decide +kernel, by decide, rfl⟩
set_option maxRecDepth 20000 in
theorem mok_118 : MOK 118 := ⟨(tb4 113 rfl rfl), by decide +kernel, by decide +kernel, by decide, rfl⟩
set_option maxRecDepth 20000 in
theorem mok_119 : MOK 119 := ⟨(tb4 116 rfl rfl), by decide +kernel, by decide +kernel, by decide, rfl⟩
set_option maxRecDepth 20000 in
theorem mok_120 : MOK 120 := ⟨(tb4 121 rfl rfl), by decide +kernel, by decide +kernel, by decide, rfl⟩
set_option maxRecDepth 20000 in
theorem mok_121 : MOK 121 := ⟨(tb4 126 rfl rfl), by decide +kernel, by decide +kernel, by decide, rfl⟩
set_option maxRecDepth 20000 in
theorem mok_122 : MOK 122 := ⟨(tb4 134 rfl rfl), by decide +kernel, by decide +kernel, by decide, rfl⟩
set_option maxRecDepth 20000 in
theorem mok_123 : MOK 123 := ⟨(tb4 147 rfl rfl), by decide +kernel, by decide +kernel, by decide, rfl⟩
set_option maxRecDepth 20000 in
theorem mok_124 : MOK 124 := ⟨(tb4 153 rfl rfl), by decide +kernel, by decide +kernel, by decide, rfl⟩
set_option maxRecDepth 20000 in
theorem mok_125 : MOK 125 := ⟨(tb4 157 rfl rfl), by decide +kernel, by decide +kernel, by decide, rfl⟩
set_option maxRecDepth 20000 in
theorem mok_126 : MOK 126 := ⟨(tb4 162 rfl rfl), by decide +kernel, by decide +kernel, by decide, rfl⟩
set_option maxRecDepth 20000 in
theorem mok_127 : MOK 127 := ⟨(tb4 175 rfl rfl), by decide +kernel, by decide +kernel, by decide, rfl⟩
set_option maxRecDepth 20000 in
theorem mok_128 : MOK 128 := ⟨(tb4 184 rfl rfl), by decide +kernel, by decide +kernel, by decide, rfl⟩
set_option maxRecDepth 20000 in
theorem mok_129 : MOK 129 := ⟨(tb4 192 rfl rfl), by decide +kernel, by decide +kernel, by decide, rfl⟩
set_option maxRecDepth 20000 in
theorem mok_130 : MOK 130 := ⟨(tb4 188 rfl rfl), by decide +kernel, by decide +kernel, by decide, rfl⟩
set_option maxRecDepth 20000 in
theorem mok_131 : MOK 131 := ⟨(tb4 207 rfl rfl), by decide +kernel, by decide +kernel, by decide, rfl⟩
set_option maxRecDepth 20000 in
theorem mok_132 : MOK 132 := ⟨(tb4 212 rfl rfl), by decide +kernel, by decide +kernel, by decide, rfl⟩
set_option maxRecDepth 20000 in
theorem mok_133 : MOK 133 := ⟨(tb4 216 rfl rfl), by decide +kernel, by decide +kernel, by decide, rfl⟩
set_option maxRecDepth 20000 in
theorem mok_134 : MOK 134 := ⟨(tb4 220 rfl rfl), by decide +kernel, by decide +kernel, by decide, rfl⟩
set_option maxRecDepth 20000 in
theorem mok_135 : MOK 135 := ⟨(tb4 224 rfl rfl), by decide +kernel, by decide +kernel, by decide, rfl⟩
set_option maxRecDepth 20000 in
theorem mok_136 : MOK 136 := ⟨(tb4 228 rfl rfl), by decide +kernel, by decide +kernel, by decide, rfl⟩
set_option maxRecDepth 20000 in
theorem mok_137 : MOK 137 := ⟨(tb4 232 rfl rfl), by decide +kernel, by decide +kernel, by decide, rfl⟩
set_option maxRecDepth 20000 in
theorem mok_138 : MOK 138 := ⟨(tb4 236 rfl rfl), by decide +kernel, by decide +kernel, by decide, rfl⟩
set_option maxRecDepth 20000 in
theorem mok_139 : MOK 139 := ⟨(tb5 0 rfl rfl), by decide +kernel, by decide +kernel, by decide, rfl⟩
set_option maxRecDepth 20000 in
theorem mok_140 : MOK 140 := ⟨(tb5 4 rfl rfl), by decide +kernel, by decide +kernel, by decide, rfl⟩
set_option maxRecDepth 20000 in
theorem mok_141 : MOK 141 := ⟨(tb5 8 rfl rfl), by decide +kernel, by decide +kernel, by decide, rfl⟩
set_option maxRecDepth 20000 in
theorem mok_142 : MOK 142 := ⟨(tb5 12 rfl rfl), by decide +kernel, by decide +kernel, by decide, rfl⟩
set_option maxRecDepth 20000 in
theorem mok_143 : MOK 143 := ⟨(tb5 19 rfl rfl), by decide +kernel, by decide +kernel, by decide, rfl⟩
set_option maxRecDepth 20000 in
theorem mok_144 : MOK 144 := ⟨(tb5 16 rfl rfl), by decide +kernel, by decide +kernel, by decide, rfl⟩
set_option maxRecDepth 20000 in
theorem mok_145 : MOK 145 := ⟨(tb5 34 rfl rfl), by decide +kernel, by decide +kernel, by decide, rfl⟩
set_option maxRecDepth 20000 in
theorem mok_146 : MOK 146 := ⟨(tb5 46 rfl rfl), by decide +kernel, by decide +kernel, by decide, rfl⟩
set_option maxRecDepth 20000 in
theorem mok_147 : MOK 147 := ⟨(tb5 54 rfl rfl), by decide +kernel, by decide +kernel, by decide, rfl⟩
set_option maxRecDepth 20000 in
theorem mok_148 : MOK 148 := ⟨(tb5 63 rfl rfl), by decide +kernel, by decide +kernel, by decide, rfl⟩
set_option maxRecDepth 20000 in
theorem mok_149 : MOK 149 := ⟨(tb4 199 rfl rfl), by decide +kernel, by decide +kernel, by decide, rfl⟩
set_option maxRecDepth 20000 in
theorem mok_150 : MOK 150 := ⟨(tb4 196 rfl rfl), by decide +kernel, by decide +kernel, by decide, rfl⟩
set_option maxRecDepth 20000 in
theorem mok_151 : MOK 151 := ⟨(tb5 71 rfl rfl), by decide +kernel, by decide +kernel, by decide, rfl⟩
set_option maxRecDepth 20000 in
theorem mok_152 : MOK 152 := ⟨(tb5 75 rfl rfl), by decide +kernel, by decide +kernel, by decide, rfl⟩
set_option maxRecDepth 20000 in
theorem mok_153 : MOK 153 := ⟨(tb5 79 rfl rfl), by decide +kernel, by decide +kernel, by decide, rfl⟩
set_option maxRecDepth 20000 in
theorem mok_154 : MOK 154 := ⟨(tb5 88 rfl rfl), by decide +kernel, by decide +kernel, by decide, rfl⟩
set_option maxRecDepth 20000 in
theorem mok_155 : MOK 155 := ⟨(tb5 92 rfl rfl), by decide +kernel, by decide +kernel, by decide, rfl⟩
set_option maxRecDepth 20000 in
theorem mok_156 : MOK 156 := ⟨(tb5 96 rfl rfl), by decide +kernel, by decide +kernel, by decide, rfl⟩
set_option maxRecDepth 20000 in
theorem mok_157 : MOK 157 := ⟨(tb5 100 rfl rfl), by decide +kernel, by decide +kernel, by decide, rfl⟩
set_option maxRecDepth 20000 in
theorem mok_158 : MOK 158 := ⟨(tb4 15 rfl rfl), by decide +kernel, by decide +kernel, by decide, rfl⟩
set_option maxRecDepth 20000 in
theorem mok_159 : MOK 159 := ⟨(tb4 21 rfl rfl), by decide +kernel, by decide +kernel, by decide, rfl⟩
set_option maxRecDepth 20000 in
theorem mok_160 : MOK 160 := ⟨(tb4 137 rfl rfl), by decide +kernel, by decide +kernel, by decide, rfl⟩
set_option maxRecDepth 20000 in
theorem mok_161 : MOK 161 := ⟨(tb5 106 rfl rfl), by decide +kernel, by decide +kernel, by decide, rfl⟩
set_option maxRecDepth 20000 in
theorem mok_162 : MOK 162 := ⟨(tb5 118 rfl rfl), by decide +kernel, by decide +kernel, by decide, rfl⟩
set_option maxRecDepth 20000 in
theorem mok_163 : MOK 163 := ⟨(tb6 92 rfl rfl), by decide +kernel, by decide +kernel, by decide, rfl⟩
set_option maxRecDepth 20000 in
theorem mok_164 : MOK 164 := ⟨(tb6 46 rfl rfl), by decide +kernel, by decide +kernel, by decide, rfl⟩
set_option maxRecDepth 20000 in
theorem mok_165 : MOK 165 := ⟨(tb6 78 rfl rfl), by decide +kernel, by decide +kernel, by decide, rfl⟩
set_option maxRecDepth 20000 in
theorem mok_166 : MOK 166 := ⟨(tb6 136 rfl rfl), by decide +kernel, by decide +kernel, by decide, rfl⟩
set_option maxRecDepth 20000 in
theorem mok_167 : MOK 167 := ⟨(tb6 147 rfl rfl), by decide +kernel, by decide +kernel, by decide, rfl⟩
set_option maxRecDepth 20000 in
theorem mok_168 : MOK 168 := ⟨(tb6 50 rfl rfl), by decide +kernel, by decide +kernel, by decide, rfl⟩
set_option maxRecDepth 20000 in
theorem mok_169 : MOK 169 := ⟨(tb6 42 rfl rfl), by decide +kernel, by decide +kernel, by decide, rfl⟩
set_option maxRecDepth 20000 in
theorem mok_170 : MOK 170 := ⟨(tb6 54 rfl rfl), by decide +kernel, by decide +kernel, by decide, rfl⟩
set_option maxRecDepth 20000 in
theorem mok_171 : MOK 171 := ⟨(tb6 58 rfl rfl), by decide +kernel, by decide +kernel, by decide, rfl⟩
set_option maxRecDepth 20000 in
theorem mok_172 : MOK 172 := ⟨(tb6 65 rfl rfl), by decide +kernel, by decide +kernel, by decide, rfl⟩
set_option maxRecDepth 20000 in
theorem mok_173 : MOK 173 := ⟨(tb6 62 rfl rfl), by decide +kernel, by decide +kernel, by decide, rfl⟩
set_option maxRecDepth 20000 in
theorem mok_174 : MOK 174 := ⟨(tb5 122 rfl rfl), by decide +kernel, by decide +kernel, by decide, rfl⟩
set_option maxRecDepth 20000 in
theorem mok_175 : MOK 175 := ⟨(tb5 115 rfl rfl), by decide +kernel, by decide +kernel, by decide, rfl⟩
set_option maxRecDepth 20000 in
theorem mok_176 : MOK 176 := ⟨(tb5 138 rfl rfl), by decide +kernel, by decide +kernel, by decide, rfl⟩
set_option maxRecDepth 20000 in
theorem mok_177 : MOK 177 := ⟨(tb5 131 rfl rfl), by decide +kernel, by decide +kernel, by decide, rfl⟩
set_option maxRecDepth 20000 in
theorem mok_178 : MOK 178 := ⟨(tb5 135 rfl rfl), by decide +kernel, by decide +kernel, by decide, rfl⟩
set_option maxRecDepth 20000 in
theorem mok_179 : MOK 179 := ⟨(tb5 146 rfl rfl), by decide +kernel, by decide +kernel, by decide, rfl⟩
set_option maxRecDepth 20000 in
theorem mok_180 : MOK 180 := ⟨(tb5 142 rfl rfl), by decide +kernel, by decide +kernel, by decide, rfl⟩
set_option maxRecDepth 20000 in
theorem mok_181 : MOK 181 := ⟨(tb5 154 rfl rfl), by decide +kernel, by decide +kernel, by decide, rfl⟩
set_option maxRecDepth 20000 in
theorem mok_182 : MOK 182 := ⟨(tb5 150 rfl rfl), by decide +kernel, by decide +kernel, by decide, rfl⟩
set_option maxRecDepth 20000 in
theorem mok_183 : MOK 183 := ⟨(tb5 126 rfl rfl), by decide +kernel, by decide +kernel, by decide, rfl⟩
set_option maxRecDepth 20000 in
theorem mok_184 : MOK 184 := ⟨(tb5 111 rfl rfl), by decide +kernel, by decide +kernel, by decide, rfl⟩
set_option maxRecDepth 20000 in
theorem mok_185 : MOK 185 := ⟨(tb6 89 rfl rfl), by decide +kernel, by decide +kernel, by decide, rfl⟩
set_option maxRecDepth 20000 in
theorem mok_186 : MOK 186 := ⟨(tb6 86 rfl rfl), by decide +kernel, by decide +kernel, by decide, rfl⟩
set_option maxRecDepth 20000 in
theorem mok_187 : MOK 187 := ⟨(tb6 70 rfl rfl), by decide +kernel, by decide +kernel, by decide, rfl⟩
set_option maxRecDepth 20000 in
theorem mok_188 : MOK 188 := ⟨(tb6 82 rfl rfl), by decide +kernel, by decide +kernel, by decide, rfl⟩
set_option maxRecDepth 20000 in
theorem mok_189 : MOK 189 := ⟨(tb6 74 rfl rfl), by decide +kernel, by decide +kernel, by decide, rfl⟩
set_option maxRecDepth 20000 in
theorem mok_190 : MOK 190 := ⟨(tb6 96 rfl rfl), by decide +kernel, by decide +kernel, by decide, rfl⟩
set_option maxRecDepth 20000 in
theorem mok_191 : MOK 191 := ⟨(tb6 100 rfl rfl), by decide +kernel, by decide +kernel, by decide, rfl⟩
set_option maxRecDepth 20000 in
theorem mok_192 : MOK 192 := ⟨(tb6 116 rfl rfl), by decide +kernel, by decide +kernel, by decide, rfl⟩
set_option maxRecDepth 20000 in
theorem mok_193 : MOK 193 := ⟨(tb6 108 rfl rfl), by decide +kernel, by decide +kernel, by decide, rfl⟩
set_option maxRecDepth 20000 in
theorem mok_194 : MOK 194 := ⟨(tb7 4 rfl rfl), by decide +kernel, by decide +kernel, by decide, rfl⟩
set_option maxRecDepth 20000 in
theorem mok_195 : MOK 195 := ⟨(tb6 112 rfl rfl), by decide +kernel, by decide +kernel, by decide, rfl⟩
set_option maxRecDepth 20000 in
theorem mok_196 : MOK 196 := ⟨(tb6 104 rfl rfl), by decide +kernel, by decide +kernel, by decide, rfl⟩
set_option maxRecDepth 20000 in
theorem mok_197 : MOK 197 := ⟨(tb6 120 rfl rfl), by decide +kernel, by decide +kernel, by decide, rfl⟩
set_option maxRecDepth 20000 in
theorem mok_198 : MOK 198 := ⟨(tb6 132 rfl rfl), by decide +kernel, by decide +kernel, by decide, rfl⟩
set_option maxRecDepth 20000 in
theorem mok_199 : MOK 199 := ⟨(tb6 165 rfl rfl), by decide +kernel, by decide +kernel, by decide, rfl⟩
set_option maxRecDepth 20000 in
theorem mok_200 : MOK 200 := ⟨(tb6 144 rfl rfl), by decide +kernel, by decide +kernel, by decide, rfl⟩
set_option maxRecDepth 20000 in
theorem mok_201 : MOK 201 := ⟨(tb6 153 rfl rfl), by decide +kernel, by decide +kernel, by decide, rfl⟩
set_option maxRecDepth 20000 in
theorem mok_202 : MOK 202 := ⟨(tb6 150 rfl rfl), by decide +kernel, by decide +kernel, by decide, rfl⟩
set_option maxRecDepth 20000 in
theorem mok_203 : MOK 203 := ⟨(tb6 127 rfl rfl), by decide +kernel, by decide +kernel, by decide, rfl⟩
set_option maxRecDepth 20000 in
theorem mok_204 : MOK 204 := ⟨(tb6 140 rfl rfl), by decide +kernel, by decide +kernel, by decide, rfl⟩
set_option maxRecDepth 20000 in
theorem mok_205 : MOK 205 := ⟨(tb6 124 rfl rfl), by decide +kernel, by decide +kernel, by decide, rfl⟩
set_option maxRecDepth 20000 in
theorem mok_206 : MOK 206 := ⟨(tb6 161 rfl rfl), by decide +kernel, by decide +kernel, by decide, rfl⟩
set_option maxRecDepth 20000 in
theorem mok_207 : MOK 207 := ⟨(tb6 157 rfl rfl), by decide +kernel, by decide +kernel, by decide, rfl⟩
set_option maxRecDepth 20000 in
theorem mok_208 : MOK 208 := ⟨(tb6 173 rfl rfl), by decide +kernel, by decide +kernel, by decide, rfl⟩
set_option maxRecDepth 20000 in
theorem mok_209 : MOK 209 := ⟨(tb6 169 rfl rfl), by decide +kernel, by decide +kernel, by decide, rfl⟩
set_option maxRecDepth 20000 in
theorem mok_210 : MOK 210 := ⟨(tb6 177 rfl rfl), by decide +kernel, by decide +kernel, by decide, rfl⟩
set_option maxRecDepth 20000 in
theorem mok_211 : MOK 211 := ⟨(tb6 185 rfl rfl), by decide +kernel, by decide +kernel, by decide, rfl⟩
set_option maxRecDepth 20000 in
theorem mok_212 : MOK 212 := ⟨(tb6 181 rfl rfl), by decide +kernel, by decide +kernel, by decide, rfl⟩
set_option maxRecDepth 20000 in
theorem mok_213 : MOK 213 := ⟨(tb6 189 rfl rfl), by decide +kernel, by decide +kernel, by decide, rfl⟩
set_option maxRecDepth 20000 in
theorem mok_214 : MOK 214 := ⟨(tb6 193 rfl rfl), by decide +kernel, by decide +kernel, by decide, rfl⟩
set_option maxRecDepth 20000 in
theorem mok_215 : MOK 215 := ⟨(tb6 197 rfl rfl), by decide +kernel, by decide +kernel, by decide, rfl⟩
set_option maxRecDepth 20000 in
theorem mok_216 : MOK 216 := ⟨(tb6 205 rfl rfl), by decide +kernel, by decide +kernel, by decide, rfl⟩
set_option maxRecDepth 20000 in
theorem mok_217 : MOK 217 := ⟨(tb6 201 rfl rfl), by decide +kernel, by decide +kernel, by decide, rfl⟩
set_option maxRecDepth 20000 in
theorem mok_218 : MOK 218 := ⟨(tb6 212 rfl rfl), by decide +kernel, by decide +kernel, by decide, rfl⟩
set_option maxRecDepth 20000 in
theorem mok_219 : MOK 219 := ⟨(tb6 209 rfl rfl), by decide +kernel, by decide +kernel, by decide, rfl⟩
set_option maxRecDepth 20000 in
theorem mok_220 : MOK 220 := ⟨(tb6 221 rfl rfl), by decide +kernel, by decide +kernel, by decide, rfl⟩
set_option maxRecDepth 20000 in
theorem mok_221 : MOK 221 := ⟨(tb6 217 rfl rfl), by decide +kernel, by decide +kernel, by decide, rfl⟩
set_option maxRecDepth 20000 in
theorem mok_222 : MOK 222 := ⟨(tb6 228 rfl rfl), by decide +kernel, by decide +kernel, by decide, rfl⟩
set_option maxRecDepth 20000 in
theorem mok_223 : MOK 223 := ⟨(tb6 225 rfl rfl), by decide +kernel, by decide +kernel, by decide, rfl⟩
set_option maxRecDepth 20000 in
theorem mok_224 : MOK 224 := ⟨(tb6 232 rfl rfl), by decide +kernel, by decide +kernel, by decide, rfl⟩
set_option maxRecDepth 20000 in
theorem mok_225 : MOK 225 := ⟨(tb7 0 rfl rfl), by decide +kernel, by decide +kernel, by decide, rfl⟩
set_option maxRecDepth 20000 in
theorem mok_226 : MOK 226 := ⟨(tb6 236 rfl rfl), by decide +kernel, by decide +kernel, by decide, rfl⟩
set_option maxRecDepth 20000 in
theorem mok_227 : MOK 227 := ⟨(tb7 13 rfl rfl), by decide +kernel, by decide +kernel, by decide, rfl⟩
set_option maxRecDepth 20000 in
theorem mok_228 : MOK 228 := ⟨(tb7 9 rfl rfl), by decide +kernel, by decide +kernel, by decide, rfl⟩
set_option maxRecDepth 20000 in
theorem mok_229 : MOK 229 := ⟨(tb7 17 rfl rfl), by decide +kernel, by decide +kernel, by decide, rfl⟩
set_option maxRecDepth 20000 in
theorem mok_230 : MOK 230 := ⟨(tb7 25 rfl rfl), by decide +kernel, by decide +kernel, by decide, rfl⟩
set_option maxRecDepth 20000 in
theorem mok_231 : MOK 231 := ⟨(tb7 29 rfl rfl), by decide +kernel, by decide +kernel, by decide, rfl⟩
set_option maxRecDepth 20000 in
theorem mok_232 : MOK 232 := ⟨(tb7 21 rfl rfl), by decide +kernel, by decide +kernel, by decide, rfl⟩
set_option maxRecDepth 20000 in
theorem mok_233 : MOK 233 := ⟨(tb7 41 rfl rfl), by decide +kernel, by decide +kernel, by decide, rfl⟩
set_option maxRecDepth 20000 in
theorem mok_234 : MOK 234 := ⟨(tb7 37 rfl rfl), by decide +kernel, by decide +kernel, by decide, rfl⟩
set_option maxRecDepth 20000 in
theorem mok_235 : MOK 235 := ⟨(tb7 45 rfl rfl), by decide +kernel, by decide +kernel, by decide, rfl⟩
set_option maxRecDepth 20000 in
theorem mok_236 : MOK 236 := ⟨(tb7 49 rfl rfl), by decide +kernel, by decide +kernel, by decide, rfl⟩
set_option maxRecDepth 20000 in
theorem mok_237 : MOK 237 := ⟨(tb7 33 rfl rfl), by decide +kernel, by decide +kernel, by decide, rfl⟩
set_option maxRecDepth 20000 in
theorem mok_238 : MOK 238 := ⟨(tb7 53 rfl rfl), by decide +kernel, by decide +kernel, by decide, rfl⟩
set_option maxRecDepth 20000 in
theorem mok_239 : MOK 239 := ⟨(tb7 57 rfl rfl), by decide +kernel, by decide +kernel, by decide, rfl⟩
set_option maxRecDepth 20000 in
theorem mok_240 : MOK 240 := ⟨(tb7 61 rfl rfl), by decide +kernel, by decide +kernel, by decide, rfl⟩
set_option maxRecDepth 20000 in
theorem mok_241 : MOK 241 := ⟨(tb7 65 rfl rfl), by decide +kernel, by decide +kernel, by decide, rfl⟩
set_option maxRecDepth 20000 in
theorem mok_242 : MOK 242 := ⟨(tb7 83 rfl rfl), by decide +kernel, by decide +kernel, by decide, rfl⟩
set_option maxRecDepth 20000 in
theorem mok_243 : MOK 243 := ⟨(tb7 77 rfl rfl), by decide +kernel, by decide +kernel, by decide, rfl⟩
set_option maxRecDepth 20000 in
theorem mok_244 : MOK 244 := ⟨(tb7 72 rfl rfl), by decide +kernel, by decide +kernel, by decide, rfl⟩
set_option maxRecDepth 20000 in
theorem mok_245 : MOK 245 := ⟨(tb7 69 rfl rfl), by decide +kernel, by decide +kernel, by decide, rfl⟩
set_option maxRecDepth 20000 in
theorem mok_246 : MOK 246 := ⟨(tb7 87 rfl rfl), by decide +kernel, by decide +kernel, by decide, rfl⟩
set_option maxRecDepth 20000 in
theorem mok_247 : MOK 247 := ⟨(tb7 95 rfl rfl), by decide +kernel, by decide +kernel, by decide, rfl⟩
set_option maxRecDepth 20000 in
theorem mok_248 : MOK 248 := ⟨(tb7 91 rfl rfl), by decide +kernel, by decide +kernel, by decide, rfl⟩
set_option maxRecDepth 20000 in
theorem mok_249 : MOK 249 := ⟨(tb7 99 rfl rfl), by decide +kernel, by decide +kernel, by decide, rfl⟩
set_option maxRecDepth 20000 in
theorem mok_250 : MOK 250 := ⟨(tb7 103 rfl rfl), by decide +kernel, by decide +kernel, by decide, rfl⟩
set_option maxRecDepth 20000 in
theorem mok_251 : MOK 251 := ⟨(tb7 107 rfl rfl), by decide +kernel, by decide +kernel, by decide, rfl⟩
set_option maxRecDepth 20000 in
theorem mok_252 : MOK 252 := ⟨(tb7 111 rfl rfl), by decide +kernel, by decide +kernel, by decide, rfl⟩
set_option maxRecDepth 20000 in
theorem mok_253 : MOK 253 := ⟨(tb7 115 rfl rfl), by decide +kernel, by decide +kernel, by decide, rfl⟩
set_option maxRecDepth 20000 in
theorem mok_254 : MOK 254 := ⟨(tb7 119 rfl rfl), by decide +kernel, by decide +kernel, by decide, rfl⟩
set_option maxRecDepth 20000 in
theorem mok_255 : MOK 255 := ⟨(tb7 127 rfl rfl), by decide +kernel, by decide +kernel, by decide, rfl⟩
set_option maxRecDepth 20000 in
theorem mok_256 : MOK 256 := ⟨(tb7 124 rfl rfl), by decide +kernel, by decide +kernel, by decide, rfl⟩
set_option maxRecDepth 20000 in
theorem mok_257 : MOK 257 := ⟨(tb4 143 rfl rfl), by decide +kernel, by decide +kernel, by decide, rfl⟩
set_option maxRecDepth 20000 in
theorem mok_258 : MOK 258 := ⟨(tb3 235 rfl rfl), by decide +kernel, by decide +kernel, by decide, rfl⟩
set_option maxRecDepth 20000 in
theorem mok_259 : MOK 259 := ⟨(tb4 140 rfl rfl), by decide +kernel, by decide +kernel, by decide, rfl⟩
set_option maxRecDepth 20000 in
theorem mok_260 : MOK 260 := ⟨(tb1 151 rfl rfl), by decide +kernel, by decide +kernel, by decide, rfl⟩
set_option maxRecDepth 20000 in
theorem mok_all : ∀ e ∈ List.range 261, MOK e := by
  show ∀ e ∈ [0, 1, 2, 3, 4, 5, 6, 7, 8, 9, 10, 11, 12, 13, 14, 15, 16, 17, 18, 19, 20, 21, 22, 23, 24, 25, 26, 27, 28, 29, 30, 31, 32, 33, 34, 35, 36, 37, 38, 39, 40, 41, 42, 43, 44, 45, 46, 47, 48, 49, 50, 51, 52, 53, 54, 55, 56, 57, 58, 59, 60, 61, 62, 63, 64, 65, 66, 67, 68, 69, 70, 71, 72, 73, 74, 75, 76, 77, 78, 79, 80, 81, 82, 83, 84, 85, 86, 87, 88, 89, 90, 91, 92, 93, 94, 95, 96, 97, 98, 99, 100, 101, 102, 103, 104, 105, 106, 107, 108, 109, 110, 111, 112, 113, 114, 115, 116, 117, 118, 119, 120, 121, 122, 123, 124, 125, 126, 127, 128, 129, 130, 131, 132, 133, 134, 135, 136, 137, 138, 139, 140, 141, 142, 143, 144, 145, 146, 147, 148, 149, 150, 151, 152, 153, 154, 155, 156, 157, 158, 159, 160, 161, 162, 163, 164, 165, 166, 167, 168, 169, 170, 171, 172, 173, 174, 175, 176, 177, 178, 179, 180, 181, 182, 183, 184, 185, 186, 187, 188, 189, 190, 191, 192, 193, 194, 195, 196, 197, 198, 199, 200, 201, 202, 203, 204, 205, 206, 207, 208, 209, 210, 211, 212, 213, 214, 215, 216, 217, 218, 219, 220, 221, 222, 223, 224, 225, 226, 227, 228, 229, 230, 231, 232, 233, 234, 235, 236, 237, 238, 239, 240, 241, 242, 243, 244, 245, 246, 247, 248, 249, 250, 251, 252, 253, 254, 255, 256, 257, 258, 259, 260], MOK e
  exact (List.forall_mem_cons.mpr ⟨mok_0, (List.forall_mem_cons.mpr ⟨mok_1, (List.forall_mem_cons.mpr ⟨mok_2, (List.forall_mem_cons.mpr ⟨mok_3, (List.forall_mem_cons.mpr ⟨mok_4, (List.forall_mem_cons.mpr ⟨mok_5, (List.forall_mem_cons.mpr ⟨mok_6, (List.forall_mem_cons.mpr ⟨mok_7, (List.forall_mem_cons.mpr ⟨mok_8, (List.forall_mem_cons.mpr ⟨mok_9, (List.forall_mem_cons.mpr ⟨mok_10, (List.forall_mem_cons.mpr ⟨mok_11, (List.forall_mem_cons.mpr ⟨mok_12, (List.forall_mem_cons.mpr ⟨mok_13, (List.forall_mem_cons.mpr ⟨mok_14, (List.forall_mem_cons.mpr ⟨mok_15, (List.forall_mem_cons.mpr ⟨mok_16, (List.forall_mem_cons.mpr ⟨mok_17, (List.forall_mem_cons.mpr ⟨mok_18, (List.forall_mem_cons.mpr ⟨mok_19, (List.forall_mem_cons.mpr ⟨mok_20, (List.forall_mem_cons.mpr ⟨mok_21, (List.forall_mem_cons.mpr ⟨mok_22, (List.forall_mem_cons.mpr ⟨mok_23, (List.forall_mem_cons.mpr ⟨mok_24, (List.forall_mem_cons.mpr ⟨mok_25, (List.forall_mem_cons.mpr ⟨mok_26, (List.forall_mem_cons.mpr ⟨mok_27, (List.forall_mem_cons.mpr ⟨mok_28, (List.forall_mem_cons.mpr ⟨mok_29, (List.forall_mem_cons.mpr ⟨mok_30, (List.forall_mem_cons.mpr ⟨mok_31, (List.forall_mem_cons.mpr ⟨mok_32, (List.forall_mem_cons.mpr ⟨mok_33, (List.forall_mem_cons.mpr ⟨mok_34, (List.forall_mem_cons.mpr ⟨mok_35, (List.forall_mem_cons.mpr ⟨mok_36, (List.forall_mem_cons.mpr ⟨mok_37, (List.forall_mem_cons.mpr ⟨mok_38, (List.forall_mem_cons.mpr ⟨mok_39, (List.forall_mem_cons.mpr ⟨mok_40, (List.forall_mem_cons.mpr ⟨mok_41, (List.forall_mem_cons.mpr ⟨mok_42, (List.forall_mem_cons.mpr ⟨mok_43, (List.forall_mem_cons.mpr ⟨mok_44, (List.forall_mem_cons.mpr ⟨mok_45, (List.forall_mem_cons.mpr ⟨mok_46, (List.forall_mem_cons.mpr ⟨mok_47, (List.forall_mem_cons.mpr ⟨mok_48, (List.forall_mem_cons.mpr ⟨mok_49, (List.forall_mem_cons.mpr ⟨mok_50, (List.forall_mem_cons.mpr ⟨mok_51, (List.forall_mem_cons.mpr ⟨mok_52, (List.forall_mem_cons.mpr ⟨mok_53, (List.forall_mem_cons.mpr ⟨mok_54, (List.forall_mem_cons.mpr ⟨mok_55, (List.forall_mem_cons.mpr ⟨mok_56, (List.forall_mem_cons.mpr ⟨mok_57, (List.forall_mem_cons.mpr ⟨mok_58, (List.forall_mem_cons.mpr ⟨mok_59, (List.forall_mem_cons.mpr ⟨mok_60, (List.forall_mem_cons.mpr ⟨mok_61, (List.forall_mem_cons.mpr ⟨mok_62, (List.forall_mem_cons.mpr ⟨mok_63, (List.forall_mem_cons.mpr ⟨mok_64, (List.forall_mem_cons.mpr ⟨mok_65, (List.forall_mem_cons.mpr ⟨mok_66, (List.forall_mem_cons.mpr ⟨mok_67, (List.forall_mem_cons.mpr ⟨mok_68, (List.forall_mem_cons.mpr ⟨mok_69, (List.forall_mem_cons.mpr ⟨mok_70, (List.forall_mem_cons.mpr ⟨mok_71, (List.forall_mem_cons.mpr ⟨mok_72, (List.forall_mem_cons.mpr ⟨mok_73, (List.forall_mem_cons.mpr ⟨mok_74, (List.forall_mem_cons.mpr ⟨mok_75, (List.forall_mem_cons.mpr ⟨mok_76, (List.forall_mem_cons.mpr ⟨mok_77, (List.forall_mem_cons.mpr ⟨mok_78, (List.forall_mem_cons.mpr ⟨mok_79, (List.forall_mem_cons.mpr ⟨mok_80, (List.forall_mem_cons.mpr ⟨mok_81, (List.forall_mem_cons.mpr ⟨mok_82, (List.forall_mem_cons.mpr ⟨mok_83, (List.forall_mem_cons.mpr ⟨mok_84, (List.forall_mem_cons.mpr ⟨mok_85, (List.forall_mem_cons.mpr ⟨mok_86, (List.forall_mem_cons.mpr ⟨mok_87, (List.forall_mem_cons.mpr ⟨mok_88, (List.forall_mem_cons.mpr ⟨mok_89, (List.forall_mem_cons.mpr ⟨mok_90, (List.forall_mem_cons.mpr ⟨mok_91, (List.forall_mem_cons.mpr ⟨mok_92, (List.forall_mem_cons.mpr ⟨mok_93, (List.forall_mem_cons.mpr ⟨mok_94, (List.forall_mem_cons.mpr ⟨mok_95, (List.forall_mem_cons.mpr ⟨mok_96, (List.forall_mem_cons.mpr ⟨mok_97, (List.forall_mem_cons.mpr ⟨mok_98, (List.forall_mem_cons.mpr ⟨mok_99, (List.forall_mem_cons.mpr ⟨mok_100, (List.forall_mem_cons.mpr ⟨mok_101, (List.forall_mem_cons.mpr ⟨mok_102, (List.forall_mem_cons.mpr ⟨mok_103, (List.forall_mem_cons.mpr ⟨mok_104, (List.forall_mem_cons.mpr ⟨mok_105, (List.forall_mem_cons.mpr ⟨mok_106, (List.forall_mem_cons.mpr ⟨mok_107, (List.forall_mem_cons.mpr ⟨mok_108, (List.forall_mem_cons.mpr ⟨mok_109, (List.forall_mem_cons.mpr ⟨mok_110, (List.forall_mem_cons.mpr ⟨mok_111, (List.forall_mem_cons.mpr ⟨mok_112, (List.forall_mem_cons.mpr ⟨mok_113, (List.forall_mem_cons.mpr ⟨mok_114, (List.forall_mem_cons.mpr ⟨mok_115, (List.forall_mem_cons.mpr ⟨mok_116, (List.forall_mem_cons.mpr ⟨mok_117, (List.forall_mem_cons.mpr ⟨mok_118, (List.forall_mem_cons.mpr ⟨mok_119, (List.forall_mem_cons.mpr ⟨mok_120, (List.forall_mem_cons.mpr ⟨mok_121, (List.forall_mem_cons.mpr ⟨mok_122, (List.forall_mem_cons.mpr ⟨mok_123, (List.forall_mem_cons.mpr ⟨mok_124, (List.forall_mem_cons.mpr ⟨mok_125, (List.forall_mem_cons.mpr ⟨mok_126, (List.forall_mem_cons.mpr ⟨mok_127, (List.forall_mem_cons.mpr ⟨mok_128, (List.forall_mem_cons.mpr ⟨mok_129, (List.forall_mem_cons.mpr ⟨mok_130, (List.forall_mem_cons.mpr ⟨mok_131, (List.forall_mem_cons.mpr ⟨mok_132, (List.forall_mem_cons.mpr ⟨mok_133, (List.forall_mem_cons.mpr ⟨mok_134, (List.forall_mem_cons.mpr ⟨mok_135, (List.forall_mem_cons.mpr ⟨mok_136, (List.forall_mem_cons.mpr ⟨mok_137, (List.forall_mem_cons.mpr ⟨mok_138, (List.forall_mem_cons.mpr ⟨mok_139, (List.forall_mem_cons.mpr ⟨mok_140, (List.forall_mem_cons.mpr ⟨mok_141, (List.forall_mem_cons.mpr ⟨mok_142, (List.forall_mem_cons.mpr ⟨mok_143, (List.forall_mem_cons.mpr ⟨mok_144, (List.forall_mem_cons.mpr ⟨mok_145, (List.forall_mem_cons.mpr ⟨mok_146, (List.forall_mem_cons.mpr ⟨mok_147, (List.forall_mem_cons.mpr ⟨mok_148, (List.forall_mem_cons.mpr ⟨mok_149, (List.forall_mem_cons.mpr ⟨mok_150, (List.forall_mem_cons.mpr ⟨mok_151, (List.forall_mem_cons.mpr ⟨mok_152, (List.forall_mem_cons.mpr ⟨mok_153, (List.forall_mem_cons.mpr ⟨mok_154, (List.forall_mem_cons.mpr ⟨mok_155, (List.forall_mem_cons.mpr ⟨mok_156, (List.forall_mem_cons.mpr ⟨mok_157, (List.forall_mem_cons.mpr ⟨mok_158, (List.forall_mem_cons.mpr ⟨mok_159, (List.forall_mem_cons.mpr ⟨mok_160, (List.forall_mem_cons.mpr ⟨mok_161, (List.forall_mem_cons.mpr ⟨mok_162, (List.forall_mem_cons.mpr ⟨mok_163, (List.forall_mem_cons.mpr ⟨mok_164, (List.forall_mem_cons.mpr ⟨mok_165, (List.forall_mem_cons.mpr ⟨mok_166, (List.forall_mem_cons.mpr ⟨mok_167, (List.forall_mem_cons.mpr ⟨mok_168, (List.forall_mem_cons.mpr ⟨mok_169, (List.forall_mem_cons.mpr ⟨mok_170, (List.forall_mem_cons.mpr ⟨mok_171, (List.forall_mem_cons.mpr ⟨mok_172, (List.forall_mem_cons.mpr ⟨mok_173, (List.forall_mem_cons.mpr ⟨mok_174, (List.forall_mem_cons.mpr ⟨mok_175, (List.forall_mem_cons.mpr ⟨mok_176, (List.forall_mem_cons.mpr ⟨mok_177, (List.forall_mem_cons.mpr ⟨mok_178, (List.forall_mem_cons.mpr ⟨mok_179, (List.forall_mem_cons.mpr ⟨mok_180, (List.forall_mem_cons.mpr ⟨mok_181, (List.forall_mem_cons.mpr ⟨mok_182, (List.forall_mem_cons.mpr ⟨mok_183, (List.forall_mem_cons.mpr ⟨mok_184, (List.forall_mem_cons.mpr ⟨mok_185, (List.forall_mem_cons.mpr ⟨mok_186, (List.forall_mem_cons.mpr ⟨mok_187, (List.forall_mem_cons.mpr ⟨mok_188, (List.forall_mem_cons.mpr ⟨mok_189, (List.forall_mem_cons.mpr ⟨mok_190, (List.forall_mem_cons.mpr ⟨mok_191, (List.forall_mem_cons.mpr ⟨mok_192, (List.forall_mem_cons.mpr ⟨mok_193, (List.forall_mem_cons.mpr ⟨mok_194, (List.forall_mem_cons.mpr ⟨mok_195, (List.forall_mem_cons.mpr ⟨mok_196, (List.forall_mem_cons.mpr ⟨mok_197, (List.forall_mem_cons.mpr ⟨mok_198, (List.forall_mem_cons.mpr ⟨mok_199, (List.forall_mem_cons.mpr ⟨mok_200, (List.forall_mem_cons.mpr ⟨mok_201, (List.forall_mem_cons.mpr ⟨mok_202, (List.forall_mem_cons.mpr ⟨mok_203, (List.forall_mem_cons.mpr ⟨mok_204, (List.forall_mem_cons.mpr ⟨mok_205, (List.forall_mem_cons.mpr ⟨mok_206, (List.forall_mem_cons.mpr ⟨mok_207, (List.forall_mem_cons.mpr ⟨mok_208, (List.forall_mem_cons.mpr ⟨mok_209, (List.forall_mem_cons.mpr ⟨mok_210, (List.forall_mem_cons.mpr ⟨mok_211, (List.forall_mem_cons.mpr ⟨mok_212, (List.forall_mem_cons.mpr ⟨mok_213, (List.forall_mem_cons.mpr ⟨mok_214, (List.forall_mem_cons.mpr ⟨mok_215, (List.forall_mem_cons.mpr ⟨mok_216, (List.forall_mem_cons.mpr ⟨mok_217, (List.forall_mem_cons.mpr ⟨mok_218, (List.forall_mem_cons.mpr ⟨mok_219, (List.forall_mem_cons.mpr ⟨mok_220, (List.forall_mem_cons.mpr ⟨mok_221, (List.forall_mem_cons.mpr ⟨mok_222, (List.forall_mem_cons.mpr ⟨mok_223, (List.forall_mem_cons.mpr ⟨mok_224, (List.forall_mem_cons.mpr ⟨mok_225, (List.forall_mem_cons.mpr ⟨mok_226, (List.forall_mem_cons.mpr ⟨mok_227, (List.forall_mem_cons.mpr ⟨mok_228, (List.forall_mem_cons.mpr ⟨mok_229, (List.forall_mem_cons.mpr ⟨mok_230, (List.forall_mem_cons.mpr ⟨mok_231, (List.forall_mem_cons.mpr ⟨mok_232, (List.forall_mem_cons.mpr ⟨mok_233, (List.forall_mem_cons.mpr ⟨mok_234, (List.forall_mem_cons.mpr ⟨mok_235, (List.forall_mem_cons.mpr ⟨mok_236, (List.forall_mem_cons.mpr ⟨mok_237, (List.forall_mem_cons.mpr ⟨mok_238, (List.forall_mem_cons.mpr ⟨mok_239, (List.forall_mem_cons.mpr ⟨mok_240, (List.forall_mem_cons.mpr ⟨mok_241, (List.forall_mem_cons.mpr ⟨mok_242, (List.forall_mem_cons.mpr ⟨mok_243, (List.forall_mem_cons.mpr ⟨mok_244, (List.forall_mem_cons.mpr ⟨mok_245, (List.forall_mem_cons.mpr ⟨mok_246, (List.forall_mem_cons.mpr ⟨mok_247, (List.forall_mem_cons.mpr ⟨mok_248, (List.forall_mem_cons.mpr ⟨mok_249, (List.forall_mem_cons.mpr ⟨mok_250, (List.forall_mem_cons.mpr ⟨mok_251, (List.forall_mem_cons.mpr ⟨mok_252, (List.forall_mem_cons.mpr ⟨mok_253, (List.forall_mem_cons.mpr ⟨mok_254, (List.forall_mem_cons.mpr ⟨mok_255, (List.forall_mem_cons.mpr ⟨mok_256, (List.forall_mem_cons.mpr ⟨mok_257, (List.forall_mem_cons.mpr ⟨mok_258, (List.forall_mem_cons.mpr ⟨mok_259, (List.forall_mem_cons.mpr ⟨mok_260, (fun _ h => absurd h List.not_mem_nil)⟩)⟩)⟩)⟩)⟩)⟩)⟩)⟩)⟩)⟩)⟩)⟩)⟩)⟩)⟩)⟩)⟩)⟩)⟩)⟩)⟩)⟩)⟩)⟩)⟩)⟩)⟩)⟩)⟩)⟩)⟩)⟩)⟩)⟩)⟩)⟩)⟩)⟩)⟩)⟩)⟩)⟩)⟩)⟩)⟩)⟩)⟩)⟩)⟩)⟩)⟩)⟩)⟩)⟩)⟩)⟩)⟩)⟩)⟩)⟩)⟩)⟩)⟩)⟩)⟩)⟩)⟩)⟩)⟩)⟩)⟩)⟩)⟩)⟩)⟩)⟩)⟩)⟩)⟩)⟩)⟩)⟩)⟩)⟩)⟩)⟩)⟩)⟩)⟩)⟩)⟩)⟩)⟩)⟩)⟩)⟩)⟩)⟩)⟩)⟩)⟩)⟩)⟩)⟩)⟩)⟩)⟩)⟩)⟩)⟩)⟩)⟩)⟩)⟩)⟩)⟩)⟩)⟩)⟩)⟩)⟩)⟩)⟩)⟩)⟩)⟩)⟩)⟩)⟩)⟩)⟩)⟩)⟩)⟩)⟩)⟩)⟩)⟩)⟩)⟩)⟩)⟩)⟩)⟩)⟩)⟩)⟩)⟩)⟩)⟩)⟩)⟩)⟩)⟩)⟩)⟩)⟩)⟩)⟩)⟩)⟩)⟩)⟩)⟩)⟩)⟩)⟩)⟩)⟩)⟩)⟩)⟩)⟩)⟩)⟩)⟩)⟩)⟩)⟩)⟩)⟩)⟩)⟩)⟩)⟩)⟩)⟩)⟩)⟩)⟩)⟩)⟩)⟩)⟩)⟩)⟩)⟩)⟩)⟩)⟩)⟩)⟩)⟩)⟩)⟩)⟩)⟩)⟩)⟩)⟩)⟩)⟩)⟩)⟩)⟩)⟩)⟩)⟩)⟩)⟩)⟩)⟩)⟩)⟩)⟩)⟩)⟩)⟩)⟩)⟩)⟩)⟩)⟩)⟩)⟩)⟩)⟩)⟩)⟩)⟩)⟩)⟩)⟩)⟩)⟩)⟩)⟩)⟩)⟩)⟩)⟩)⟩)⟩)⟩)⟩)⟩)⟩)⟩)⟩)⟩)⟩)
theorem mok {mi : Nat} (h : mi < 261) : MOK mi := mok_all mi (List.mem_range.mpr h)
def NOK (e : Nat × Nat × Nat) : Prop := Cond.classLink (cname e.1) e.2.1 (cname e.2.2) ∈ TB ∧ Cond.instantiable (cname e.2.2) (nF e.2.2) ∈ TB ∧ Cond.initialized (cname e.2.2) ∈ TB ∧ e.2.2 < 13
set_option maxRecDepth 20000 in
theorem nok_0 : NOK (1, 19, 7) := ⟨(tb1 142 rfl rfl), (tb1 144 rfl rfl), (tb1 7 rfl rfl), by decide⟩
set_option maxRecDepth 20000 in
theorem nok_1 : NOK (3, 19, 7) := ⟨(tb3 90 rfl rfl), (tb1 144 rfl rfl), (tb1 7 rfl rfl), by decide⟩
set_option maxRecDepth 20000 in
theorem nok_2 : NOK (8, 29, 5) := ⟨(tb1 238 rfl rfl), (tb1 239 rfl rfl), (tb1 13 rfl rfl), by decide⟩
set_option maxRecDepth 20000 in
theorem nok_3 : NOK (11, 7, 10) := ⟨(tb1 31 rfl rfl), (tb1 32 rfl rfl), (tb1 2 rfl rfl), by decide⟩
set_option maxRecDepth 20000 in
theorem nok_4 : NOK (11, 16, 2) := ⟨(tb1 52 rfl rfl), (tb1 53 rfl rfl), (tb1 3 rfl rfl), by decide⟩
set_option maxRecDepth 20000 in
theorem nok_5 : NOK (11, 23, 6) := ⟨(tb1 84 rfl rfl), (tb1 85 rfl rfl), (tb1 4 rfl rfl), by decide⟩
set_option maxRecDepth 20000 in
theorem nok_6 : NOK (11, 30, 3) := ⟨(tb1 113 rfl rfl), (tb1 114 rfl rfl), (tb1 5 rfl rfl), by decide⟩
set_option maxRecDepth 20000 in
theorem nok_7 : NOK (11, 39, 1) := ⟨(tb1 136 rfl rfl), (tb1 137 rfl rfl), (tb1 6 rfl rfl), by decide⟩
set_option maxRecDepth 20000 in
theorem nok_8 : NOK (11, 48, 9) := ⟨(tb1 198 rfl rfl), (tb1 199 rfl rfl), (tb1 11 rfl rfl), by decide⟩
set_option maxRecDepth 20000 in
theorem nok_9 : NOK (11, 57, 8) := ⟨(tb1 232 rfl rfl), (tb1 233 rfl rfl), (tb1 12 rfl rfl), by decide⟩
set_option maxRecDepth 20000 in
theorem nok_10 : NOK (11, 66, 4) := ⟨(tb2 80 rfl rfl), (tb2 82 rfl rfl), (tb1 14 rfl rfl), by decide⟩
set_option maxRecDepth 20000 in
theorem nok_11 : NOK (11, 73, 0) := ⟨(tb2 100 rfl rfl), (tb2 101 rfl rfl), (tb1 15 rfl rfl), by decide⟩
set_option maxRecDepth 20000 in
theorem nok_12 : NOK (13, 7, 11) := ⟨(tb1 23 rfl rfl), (tb1 24 rfl rfl), (tb1 1 rfl rfl), by decide⟩
set_option maxRecDepth 20000 in
theorem nok_13 : NOK (13, 10, 12) := ⟨(tb5 102 rfl rfl), (tb5 103 rfl rfl), (tb1 16 rfl rfl), by decide⟩
set_option maxRecDepth 20000 in
theorem nok : ∀ e ∈ newL, NOK e := (List.forall_mem_cons.mpr ⟨nok_0, (List.forall_mem_cons.mpr ⟨nok_1, (List.forall_mem_cons.mpr ⟨nok_2, (List.forall_mem_cons.mpr ⟨nok_3, (List.forall_mem_cons.mpr ⟨nok_4, (List.forall_mem_cons.mpr ⟨nok_5, (List.forall_mem_cons.mpr ⟨nok_6, (List.forall_mem_cons.mpr ⟨nok_7, (List.forall_mem_cons.mpr ⟨nok_8, (List.forall_mem_cons.mpr ⟨nok_9, (List.forall_mem_cons.mpr ⟨nok_10, (List.forall_mem_cons.mpr ⟨nok_11, (List.forall_mem_cons.mpr ⟨nok_12, (List.forall_mem_cons.mpr ⟨nok_13, (fun _ h => absurd h List.not_mem_nil)⟩)⟩)⟩)⟩)⟩)⟩)⟩)⟩)⟩)⟩)⟩)⟩)⟩)⟩)
def AOK (e : Nat × Nat × Nat) : Prop := ∃ C, Cond.classLink (cname e.1) e.2.1 C ∈ TB ∧ ((e.2.2 = 16 ∧ C = RX4) ∨ (e.2.2 = 17 ∧ C = RX7))
set_option maxRecDepth 20000 in
theorem aok_0 : AOK (1, 19, 17) := ⟨RX7, (tb1 142 rfl rfl), .inr ⟨rfl, rfl⟩⟩
set_option maxRecDepth 20000 in
theorem aok_1 : AOK (11, 66, 16) := ⟨RX4, (tb2 80 rfl rfl), .inl ⟨rfl, rfl⟩⟩
set_option maxRecDepth 20000 in
theorem aok : ∀ e ∈ anwL, AOK e := (List.forall_mem_cons.mpr ⟨aok_0, (List.forall_mem_cons.mpr ⟨aok_1, (fun _ h => absurd h List.not_mem_nil)⟩)⟩)
def COK (e : Nat × Nat × Int) : Prop := Cond.constant (cname e.1) e.2.1 (Int32.ofInt e.2.2) ∈ TB ∧ -2147483648 ≤ e.2.2 ∧ e.2.2 < 2147483648
set_option maxRecDepth 20000 in
theorem cok_0 : COK (11, 295, 99999) := ⟨(tb5 20 rfl rfl), by decide, by decide⟩
set_option maxRecDepth 20000 in
theorem cok_1 : COK (12, 162, 100000) := ⟨(tb5 127 rfl rfl), by decide, by decide⟩
set_option maxRecDepth 20000 in
theorem cok_2 : COK (12, 296, 99999) := ⟨(tb7 73 rfl rfl), by decide, by decide⟩
set_option maxRecDepth 20000 in
theorem cok_3 : COK (14, 265, 1431655765) := ⟨(tb3 236 rfl rfl), by decide, by decide⟩
set_option maxRecDepth 20000 in
theorem cok_4 : COK (14, 266, 858993459) := ⟨(tb3 237 rfl rfl), by decide, by decide⟩
set_option maxRecDepth 20000 in
theorem cok_5 : COK (14, 267, 252645135) := ⟨(tb3 238 rfl rfl), by decide, by decide⟩
set_option maxRecDepth 20000 in
theorem cok : ∀ e ∈ cstL, COK e := (List.forall_mem_cons.mpr ⟨cok_0, (List.forall_mem_cons.mpr ⟨cok_1, (List.forall_mem_cons.mpr ⟨cok_2, (List.forall_mem_cons.mpr ⟨cok_3, (List.forall_mem_cons.mpr ⟨cok_4, (List.forall_mem_cons.mpr ⟨cok_5, (fun _ h => absurd h List.not_mem_nil)⟩)⟩)⟩)⟩)⟩)⟩)
def DOK (e : Nat × Nat × Int) : Prop := Cond.constantLong (cname e.1) e.2.1 (Int64.ofInt e.2.2) ∈ TB ∧ -9223372036854775808 ≤ e.2.2 ∧ e.2.2 < 9223372036854775808
set_option maxRecDepth 20000 in
theorem dok_0 : DOK (8, 121, -1) := ⟨(tb4 88 rfl rfl), by decide, by decide⟩
set_option maxRecDepth 20000 in
theorem dok_1 : DOK (9, 87, 48271) := ⟨(tb5 25 rfl rfl), by decide, by decide⟩
set_option maxRecDepth 20000 in
theorem dok_2 : DOK (9, 89, 2147483647) := ⟨(tb5 26 rfl rfl), by decide, by decide⟩
set_option maxRecDepth 20000 in
theorem dok_3 : DOK (11, 176, -4611686018427387904) := ⟨(tb3 198 rfl rfl), by decide, by decide⟩
set_option maxRecDepth 20000 in
theorem dok_4 : DOK (11, 227, 100) := ⟨(tb4 122 rfl rfl), by decide, by decide⟩
set_option maxRecDepth 20000 in
theorem dok_5 : DOK (12, 207, -4611686018427387904) := ⟨(tb6 128 rfl rfl), by decide, by decide⟩
set_option maxRecDepth 20000 in
theorem dok_6 : DOK (12, 249, 100) := ⟨(tb6 213 rfl rfl), by decide, by decide⟩
set_option maxRecDepth 20000 in
theorem dok_7 : DOK (12, 265, -1) := ⟨(tb7 5 rfl rfl), by decide, by decide⟩
set_option maxRecDepth 20000 in
theorem dok_8 : DOK (12, 288, 48271) := ⟨(tb7 78 rfl rfl), by decide, by decide⟩
set_option maxRecDepth 20000 in
theorem dok_9 : DOK (12, 290, 2147483647) := ⟨(tb7 79 rfl rfl), by decide, by decide⟩
set_option maxRecDepth 20000 in
theorem dok : ∀ e ∈ ct2L, DOK e := (List.forall_mem_cons.mpr ⟨dok_0, (List.forall_mem_cons.mpr ⟨dok_1, (List.forall_mem_cons.mpr ⟨dok_2, (List.forall_mem_cons.mpr ⟨dok_3, (List.forall_mem_cons.mpr ⟨dok_4, (List.forall_mem_cons.mpr ⟨dok_5, (List.forall_mem_cons.mpr ⟨dok_6, (List.forall_mem_cons.mpr ⟨dok_7, (List.forall_mem_cons.mpr ⟨dok_8, (List.forall_mem_cons.mpr ⟨dok_9, (fun _ h => absurd h List.not_mem_nil)⟩)⟩)⟩)⟩)⟩)⟩)⟩)⟩)⟩)⟩)
def BOK (e : Nat × Nat × Nat) : Prop := match e.2.2 with
  | 1 => Cond.methodLink (cname e.1) e.2.1 objectInit ∈ TB ∧ Cond.instanceMethod objectInit ∈ TB ∧ Cond.code objectInit ⟨#[0xb1]⟩ 1 none ∈ TB
  | 2 => Cond.methodLink (cname e.1) e.2.1 arraycopyName ∈ TB ∧ Cond.native arraycopyName ∈ TB ∧ Cond.static arraycopyName ∈ TB ∧ Cond.initialized "java/lang/System" ∈ TB
  | 3 => Cond.methodLink (cname e.1) e.2.1 ⟨"[I", "clone", "()Ljava/lang/Object;"⟩ ∈ TB ∧ Cond.sameMethod "[I" "java/lang/Object" "clone" "()Ljava/lang/Object;" ∈ TB ∧ Cond.native ⟨"java/lang/Object", "clone", "()Ljava/lang/Object;"⟩ ∈ TB ∧ Cond.instanceMethod ⟨"java/lang/Object", "clone", "()Ljava/lang/Object;"⟩ ∈ TB ∧ Cond.selects "[I" ⟨"[I", "clone", "()Ljava/lang/Object;"⟩ ⟨"java/lang/Object", "clone", "()Ljava/lang/Object;"⟩ ∈ TB
  | 4 => Cond.methodLink (cname e.1) e.2.1 Lib.Math.max.name ∈ TB ∧ Cond.static Lib.Math.max.name ∈ TB ∧ Cond.initialized "java/lang/Math" ∈ TB ∧ Cond.code Lib.Math.max.name Lib.Math.max.code 2 (some .int) ∈ TB
  | 5 => Cond.methodLink (cname e.1) e.2.1 Lib.Math.min.name ∈ TB ∧ Cond.static Lib.Math.min.name ∈ TB ∧ Cond.initialized "java/lang/Math" ∈ TB ∧ Cond.code Lib.Math.min.name Lib.Math.min.code 2 (some .int) ∈ TB
  | 6 => Cond.methodLink (cname e.1) e.2.1 Lib.MathLoose.abs_long.x ∈ TB ∧ Cond.static Lib.MathLoose.abs_long.x ∈ TB ∧ Cond.initialized "java/lang/Math" ∈ TB ∧ Cond.code Lib.MathLoose.abs_long.x Lib.MathLoose.abs_long.code 2 (some .long) ∈ TB
  | 7 => Cond.methodLink (cname e.1) e.2.1 yJ0_length_8abf5 ∈ TB ∧ Cond.instanceMethod yJ0_length_8abf5 ∈ TB ∧ Cond.selects RJ0 yJ0_length_8abf5 yJ0_length_8abf5 ∈ TB ∧ Cond.initialized RJ0 ∈ TB ∧ Cond.code yJ0_length_8abf5 cJ0_length_8abf5 1 (some .int) ∈ TB
  | _ => Cond.methodLink (cname e.1) e.2.1 yJ0_charAt_5068e ∈ TB ∧ Cond.instanceMethod yJ0_charAt_5068e ∈ TB ∧ Cond.selects RJ0 yJ0_charAt_5068e yJ0_charAt_5068e ∈ TB ∧ Cond.initialized RJ0 ∈ TB ∧ Cond.code yJ0_charAt_5068e cJ0_charAt_5068e 2 (some .char) ∈ TB
set_option maxRecDepth 20000 in
theorem bok_0 : BOK (0, 3, 1) := ⟨(tb2 105 rfl rfl), (tb1 29 rfl rfl), (tb1 30 rfl rfl)⟩
set_option maxRecDepth 20000 in
theorem bok_1 : BOK (0, 30, 2) := ⟨(tb5 59 rfl rfl), (tb1 164 rfl rfl), (tb1 163 rfl rfl), (tb1 10 rfl rfl)⟩
set_option maxRecDepth 20000 in
theorem bok_2 : BOK (1, 3, 1) := ⟨(tb1 141 rfl rfl), (tb1 29 rfl rfl), (tb1 30 rfl rfl)⟩
set_option maxRecDepth 20000 in
theorem bok_3 : BOK (1, 62, 5) := ⟨(tb3 127 rfl rfl), (tb1 160 rfl rfl), (tb1 9 rfl rfl), (tb1 161 rfl rfl)⟩
set_option maxRecDepth 20000 in
theorem bok_4 : BOK (1, 68, 4) := ⟨(tb3 128 rfl rfl), (tb2 167 rfl rfl), (tb1 9 rfl rfl), (tb2 168 rfl rfl)⟩
set_option maxRecDepth 20000 in
theorem bok_5 : BOK (2, 3, 1) := ⟨(tb1 57 rfl rfl), (tb1 29 rfl rfl), (tb1 30 rfl rfl)⟩
set_option maxRecDepth 20000 in
theorem bok_6 : BOK (2, 25, 4) := ⟨(tb2 166 rfl rfl), (tb2 167 rfl rfl), (tb1 9 rfl rfl), (tb2 168 rfl rfl)⟩
set_option maxRecDepth 20000 in
theorem bok_7 : BOK (3, 3, 1) := ⟨(tb1 118 rfl rfl), (tb1 29 rfl rfl), (tb1 30 rfl rfl)⟩
set_option maxRecDepth 20000 in
theorem bok_8 : BOK (4, 3, 1) := ⟨(tb2 86 rfl rfl), (tb1 29 rfl rfl), (tb1 30 rfl rfl)⟩
set_option maxRecDepth 20000 in
theorem bok_9 : BOK (5, 3, 1) := ⟨(tb2 3 rfl rfl), (tb1 29 rfl rfl), (tb1 30 rfl rfl)⟩
set_option maxRecDepth 20000 in
theorem bok_10 : BOK (6, 5, 1) := ⟨(tb1 89 rfl rfl), (tb1 29 rfl rfl), (tb1 30 rfl rfl)⟩
set_option maxRecDepth 20000 in
theorem bok_11 : BOK (6, 52, 7) := ⟨(tb2 227 rfl rfl), (tb2 228 rfl rfl), (tb2 229 rfl rfl), (tb1 17 rfl rfl), (tb2 230 rfl rfl)⟩
set_option maxRecDepth 20000 in
theorem bok_12 : BOK (6, 64, 8) := ⟨(tb3 1 rfl rfl), (tb3 2 rfl rfl), (tb3 3 rfl rfl), (tb1 17 rfl rfl), (tb3 4 rfl rfl)⟩
set_option maxRecDepth 20000 in
theorem bok_13 : BOK (7, 3, 1) := ⟨(tb1 148 rfl rfl), (tb1 29 rfl rfl), (tb1 30 rfl rfl)⟩
set_option maxRecDepth 20000 in
theorem bok_14 : BOK (8, 3, 1) := ⟨(tb1 237 rfl rfl), (tb1 29 rfl rfl), (tb1 30 rfl rfl)⟩
set_option maxRecDepth 20000 in
theorem bok_15 : BOK (8, 130, 4) := ⟨(tb4 105 rfl rfl), (tb2 167 rfl rfl), (tb1 9 rfl rfl), (tb2 168 rfl rfl)⟩
set_option maxRecDepth 20000 in
theorem bok_16 : BOK (9, 3, 1) := ⟨(tb1 203 rfl rfl), (tb1 29 rfl rfl), (tb1 30 rfl rfl)⟩
set_option maxRecDepth 20000 in
theorem bok_17 : BOK (9, 78, 5) := ⟨(tb3 178 rfl rfl), (tb1 160 rfl rfl), (tb1 9 rfl rfl), (tb1 161 rfl rfl)⟩
set_option maxRecDepth 20000 in
theorem bok_18 : BOK (10, 3, 1) := ⟨(tb1 36 rfl rfl), (tb1 29 rfl rfl), (tb1 30 rfl rfl)⟩
set_option maxRecDepth 20000 in
theorem bok_19 : BOK (11, 1, 1) := ⟨(tb1 28 rfl rfl), (tb1 29 rfl rfl), (tb1 30 rfl rfl)⟩
set_option maxRecDepth 20000 in
theorem bok_20 : BOK (11, 338, 2) := ⟨(tb5 84 rfl rfl), (tb1 164 rfl rfl), (tb1 163 rfl rfl), (tb1 10 rfl rfl)⟩
set_option maxRecDepth 20000 in
theorem bok_21 : BOK (11, 353, 6) := ⟨(tb4 16 rfl rfl), (tb4 17 rfl rfl), (tb1 9 rfl rfl), (tb4 18 rfl rfl)⟩
set_option maxRecDepth 20000 in
theorem bok_22 : BOK (12, 1, 1) := ⟨(tb5 107 rfl rfl), (tb1 29 rfl rfl), (tb1 30 rfl rfl)⟩
set_option maxRecDepth 20000 in
theorem bok_23 : BOK (16, 150, 2) := ⟨(tb1 162 rfl rfl), (tb1 164 rfl rfl), (tb1 163 rfl rfl), (tb1 10 rfl rfl)⟩
set_option maxRecDepth 20000 in
theorem bok_24 : BOK (16, 304, 5) := ⟨(tb1 159 rfl rfl), (tb1 160 rfl rfl), (tb1 9 rfl rfl), (tb1 161 rfl rfl)⟩
set_option maxRecDepth 20000 in
theorem bok_25 : BOK (16, 316, 3) := ⟨(tb1 152 rfl rfl), (tb1 153 rfl rfl), (tb1 154 rfl rfl), (tb1 155 rfl rfl), (tb1 156 rfl rfl)⟩
set_option maxRecDepth 20000 in
theorem bok : ∀ e ∈ bltL, BOK e := (List.forall_mem_cons.mpr ⟨bok_0, (List.forall_mem_cons.mpr ⟨bok_1, (List.forall_mem_cons.mpr ⟨bok_2, (List.forall_mem_cons.mpr ⟨bok_3, (List.forall_mem_cons.mpr ⟨bok_4, (List.forall_mem_cons.mpr ⟨bok_5, (List.forall_mem_cons.mpr ⟨bok_6, (List.forall_mem_cons.mpr ⟨bok_7, (List.forall_mem_cons.mpr ⟨bok_8, (List.forall_mem_cons.mpr ⟨bok_9, (List.forall_mem_cons.mpr ⟨bok_10, (List.forall_mem_cons.mpr ⟨bok_11, (List.forall_mem_cons.mpr ⟨bok_12, (List.forall_mem_cons.mpr ⟨bok_13, (List.forall_mem_cons.mpr ⟨bok_14, (List.forall_mem_cons.mpr ⟨bok_15, (List.forall_mem_cons.mpr ⟨bok_16, (List.forall_mem_cons.mpr ⟨bok_17, (List.forall_mem_cons.mpr ⟨bok_18, (List.forall_mem_cons.mpr ⟨bok_19, (List.forall_mem_cons.mpr ⟨bok_20, (List.forall_mem_cons.mpr ⟨bok_21, (List.forall_mem_cons.mpr ⟨bok_22, (List.forall_mem_cons.mpr ⟨bok_23, (List.forall_mem_cons.mpr ⟨bok_24, (List.forall_mem_cons.mpr ⟨bok_25, (fun _ h => absurd h List.not_mem_nil)⟩)⟩)⟩)⟩)⟩)⟩)⟩)⟩)⟩)⟩)⟩)⟩)⟩)⟩)⟩)⟩)⟩)⟩)⟩)⟩)⟩)⟩)⟩)⟩)⟩)⟩)
theorem tb_arr : Cond.arrayClass .int ∈ TB ∧ Cond.arrayClass .long ∈ TB ∧ Cond.arrayClass .boolean ∈ TB := ⟨(tb1 51 rfl rfl), (tb2 36 rfl rfl), (tb1 231 rfl rfl)⟩
