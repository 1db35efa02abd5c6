/-! The code of methods as runs of instructions. Written by gen/code.py. -/
def qD_init_0 : List zIns := [(.aload_n 0, 1, 0, 0, 0, 0, 0, z0), (.invokespecial 3, 3, 0, 0, 1, 0, 0, z0), (.aload_n 0, 1, 0, 0, 0, 0, 0, z0), (.new 9, 3, 0, 2, 0, 0, 0, z0), (.dup, 1, 0, 0, 0, 0, 0, z0), (.bipush (32), 2, 32, 0, 0, 0, 0, z0), (.invokespecial 11, 3, 1, 0, 0, 1, 32, mRow_init), (.putfield 14, 3, 8, 0, 0, 0, 0, z0), (.aload_n 0, 1, 0, 0, 0, 0, 0, z0), (.new 18, 3, 2, 4, 0, 0, 0, z0), (.dup, 1, 0, 0, 0, 0, 0, z0), (.invokespecial 20, 3, 0, 0, 0, 76, 1140, mCat_init), (.putfield 21, 3, 8, 1, 0, 0, 0, z0), (.aload_n 0, 1, 0, 0, 0, 0, 0, z0), (.new 25, 3, 3, 4, 0, 0, 0, z0), (.dup, 1, 0, 0, 0, 0, 0, z0), (.invokespecial 27, 3, 0, 0, 0, 28, 436, mPl_init), (.putfield 28, 3, 8, 2, 0, 0, 0, z0), (.aload_n 0, 1, 0, 0, 0, 0, 0, z0), (.new 32, 3, 6, 7, 0, 0, 0, z0), (.dup, 1, 0, 0, 0, 0, 0, z0), (.invokespecial 34, 3, 0, 0, 0, 41, 642, mSta_init), (.putfield 35, 3, 8, 3, 0, 0, 0, z0), (.aload_n 0, 1, 0, 0, 0, 0, 0, z0), (.new 39, 3, 7, 3, 0, 0, 0, z0), (.dup, 1, 0, 0, 0, 0, 0, z0), (.invokespecial 41, 3, 0, 0, 0, 337, 5200, mJou_init), (.putfield 42, 3, 8, 4, 0, 0, 0, z0), (.return_, 1, 0, 0, 0, 0, 0, z0)]
def cdD_init : zCd := fun a => match a with
  | 0 => some qD_init_0
  | _ => none
set_option maxRecDepth 100000 in
theorem bD_init_0 : zcode (mD_init) 0 qD_init_0 := zcode_of (by decide +kernel) (zoks_cons rfl (zoks_cons (And.intro rfl kL0) (zoks_cons rfl (zoks_cons (And.intro rfl kN0) (zoks_cons rfl (zoks_cons (And.intro rfl (by decide)) (zoks_cons (And.intro rfl kI0) (zoks_cons (And.intro rfl (And.intro rfl kP0)) (zoks_cons rfl (zoks_cons (And.intro rfl kN1) (zoks_cons rfl (zoks_cons (And.intro rfl kI1) (zoks_cons (And.intro rfl (And.intro rfl kP1)) (zoks_cons rfl (zoks_cons (And.intro rfl kN2) (zoks_cons rfl (zoks_cons (And.intro rfl kI2) (zoks_cons (And.intro rfl (And.intro rfl kP2)) (zoks_cons rfl (zoks_cons (And.intro rfl kN3) (zoks_cons rfl (zoks_cons (And.intro rfl kI3) (zoks_cons (And.intro rfl (And.intro rfl kP3)) (zoks_cons rfl (zoks_cons (And.intro rfl kN4) (zoks_cons rfl (zoks_cons (And.intro rfl kI4) (zoks_cons (And.intro rfl (And.intro rfl kP4)) (zoks_cons (And.intro rfl rfl) trivial)))))))))))))))))))))))))))))
theorem kD_init : zcd (mD_init) cdD_init := by
  intro a is h
  unfold cdD_init at h
  split at h
  · cases h; exact bD_init_0
  · cases h
def qD_write_0 : List zIns := [(.iload_n 1, 1, 0, 0, 0, 0, 0, z0), (.bipush (32), 2, 32, 0, 0, 0, 0, z0), (.if_icmp .lt (24), 3, 27, 0, 0, 0, 0, z0), (.iload_n 1, 1, 0, 0, 0, 0, 0, z0), (.bipush (126), 2, 126, 0, 0, 0, 0, z0), (.if_icmp .gt (18), 3, 27, 0, 0, 0, 0, z0), (.aload_n 0, 1, 0, 0, 0, 0, 0, z0), (.getfield 14, 3, 8, 0, 0, 0, 0, z0), (.iload_n 1, 1, 0, 0, 0, 0, 0, z0), (.invokevirtual 46, 3, 1, 0, 0, 0, 0, mRow_append), (.ifCond .eq (7), 3, 27, 0, 0, 0, 0, z0), (.iconst (1), 1, 1, 0, 0, 0, 0, z0), (.goto (4), 3, 28, 0, 0, 0, 0, z0)]
def qD_write_27 : List zIns := [(.iconst (0), 1, 0, 0, 0, 0, 0, z0)]
def qD_write_28 : List zIns := [(.ireturn, 1, 0, 0, 1, 0, 0, z0)]
def cdD_write : zCd := fun a => match a with
  | 0 => some qD_write_0
  | 27 => some qD_write_27
  | 28 => some qD_write_28
  | _ => none
set_option maxRecDepth 100000 in
theorem bD_write_0 : zcode (mD_write) 0 qD_write_0 := zcode_of (by decide +kernel) (zoks_cons rfl (zoks_cons (And.intro rfl (by decide)) (zoks_cons (And.intro rfl (by decide)) (zoks_cons rfl (zoks_cons (And.intro rfl (by decide)) (zoks_cons (And.intro rfl (by decide)) (zoks_cons rfl (zoks_cons (And.intro rfl kF0) (zoks_cons rfl (zoks_cons (And.intro rfl kV0) (zoks_cons (And.intro rfl (by decide)) (zoks_cons (And.intro rfl (by decide)) (zoks_cons (And.intro rfl (by decide)) trivial)))))))))))))
set_option maxRecDepth 100000 in
theorem bD_write_27 : zcode (mD_write) 27 qD_write_27 := zcode_of (by decide +kernel) (zoks_cons (And.intro rfl (by decide)) trivial)
set_option maxRecDepth 100000 in
theorem bD_write_28 : zcode (mD_write) 28 qD_write_28 := zcode_of (by decide +kernel) (zoks_cons (And.intro rfl (Or.inr (Or.inl ⟨rfl, rfl⟩))) trivial)
theorem kD_write : zcd (mD_write) cdD_write := by
  intro a is h
  unfold cdD_write at h
  split at h
  · cases h; exact bD_write_0
  · cases h; exact bD_write_27
  · cases h; exact bD_write_28
  · cases h
def qD_file_0 : List zIns := [(.aload_n 0, 1, 0, 0, 0, 0, 0, z0), (.getfield 21, 3, 8, 1, 0, 0, 0, z0), (.aload_n 0, 1, 0, 0, 0, 0, 0, z0), (.getfield 14, 3, 8, 0, 0, 0, 0, z0), (.invokevirtual 50, 3, 1, 2, 0, 0, 0, mCat_fileFor), (.istore_n 1, 1, 0, 0, 0, 0, 0, z0), (.aload_n 0, 1, 0, 0, 0, 0, 0, z0), (.getfield 14, 3, 8, 0, 0, 0, 0, z0), (.invokevirtual 54, 3, 0, 0, 0, 0, 0, mRow_clear), (.iload_n 1, 1, 0, 0, 0, 0, 0, z0), (.ireturn, 1, 0, 0, 0, 0, 0, z0)]
def cdD_file : zCd := fun a => match a with
  | 0 => some qD_file_0
  | _ => none
set_option maxRecDepth 100000 in
theorem bD_file_0 : zcode (mD_file) 0 qD_file_0 := zcode_of (by decide +kernel) (zoks_cons rfl (zoks_cons (And.intro rfl kF1) (zoks_cons rfl (zoks_cons (And.intro rfl kF0) (zoks_cons (And.intro rfl kV1) (zoks_cons rfl (zoks_cons rfl (zoks_cons (And.intro rfl kF0) (zoks_cons (And.intro rfl kV2) (zoks_cons rfl (zoks_cons (And.intro rfl (Or.inl ⟨rfl, rfl⟩)) trivial)))))))))))
theorem kD_file : zcd (mD_file) cdD_file := by
  intro a is h
  unfold cdD_file at h
  split at h
  · cases h; exact bD_file_0
  · cases h
def qD_line_0 : List zIns := [(.aload_n 0, 1, 0, 0, 0, 0, 0, z0), (.getfield 21, 3, 8, 1, 0, 0, 0, z0), (.aload_n 0, 1, 0, 0, 0, 0, 0, z0), (.getfield 14, 3, 8, 0, 0, 0, 0, z0), (.invokevirtual 57, 3, 1, 2, 0, 0, 0, mCat_newLine), (.istore_n 1, 1, 0, 0, 0, 0, 0, z0), (.aload_n 0, 1, 0, 0, 0, 0, 0, z0), (.getfield 14, 3, 8, 0, 0, 0, 0, z0), (.invokevirtual 54, 3, 0, 0, 0, 0, 0, mRow_clear), (.iload_n 1, 1, 0, 0, 0, 0, 0, z0), (.ireturn, 1, 0, 0, 0, 0, 0, z0)]
def cdD_line : zCd := fun a => match a with
  | 0 => some qD_line_0
  | _ => none
set_option maxRecDepth 100000 in
theorem bD_line_0 : zcode (mD_line) 0 qD_line_0 := zcode_of (by decide +kernel) (zoks_cons rfl (zoks_cons (And.intro rfl kF1) (zoks_cons rfl (zoks_cons (And.intro rfl kF0) (zoks_cons (And.intro rfl kV3) (zoks_cons rfl (zoks_cons rfl (zoks_cons (And.intro rfl kF0) (zoks_cons (And.intro rfl kV2) (zoks_cons rfl (zoks_cons (And.intro rfl (Or.inl ⟨rfl, rfl⟩)) trivial)))))))))))
theorem kD_line : zcd (mD_line) cdD_line := by
  intro a is h
  unfold cdD_line at h
  split at h
  · cases h; exact bD_line_0
  · cases h
def qD_view_0 : List zIns := [(.iload_n 1, 1, 0, 0, 0, 0, 0, z0), (.invokestatic 60, 3, 1, 0, 0, 0, 0, mD_isClient), (.ifCond .eq (12), 3, 16, 0, 0, 0, 0, z0), (.iload_n 2, 1, 0, 0, 0, 0, 0, z0), (.ifCond .lt (8), 3, 16, 0, 0, 0, 0, z0), (.iload_n 2, 1, 0, 0, 0, 0, 0, z0), (.iconst (4), 1, 4, 0, 0, 0, 0, z0), (.if_icmp .lt (5), 3, 18, 0, 0, 0, 0, z0)]
def qD_view_16 : List zIns := [(.iconst (0), 1, 0, 0, 0, 0, 0, z0), (.ireturn, 1, 0, 0, 1, 0, 0, z0)]
def qD_view_18 : List zIns := [(.iload_n 3, 1, 0, 0, 0, 0, 0, z0), (.iconst (-1), 1, 1, 0, 1, 0, 0, z0), (.if_icmp .eq (16), 3, 36, 0, 0, 0, 0, z0), (.aload_n 0, 1, 0, 0, 0, 0, 0, z0), (.getfield 21, 3, 8, 1, 0, 0, 0, z0), (.iload_n 3, 1, 0, 0, 0, 0, 0, z0), (.invokevirtual 64, 3, 1, 2, 0, 0, 0, mCat_hasLine), (.ifCond .ne (5), 3, 36, 0, 0, 0, 0, z0), (.iconst (0), 1, 0, 0, 0, 0, 0, z0), (.ireturn, 1, 0, 0, 1, 0, 0, z0)]
def qD_view_36 : List zIns := [(.aload_n 0, 1, 0, 0, 0, 0, 0, z0), (.getfield 42, 3, 8, 4, 0, 0, 0, z0), (.aload_n 0, 1, 0, 0, 0, 0, 0, z0), (.getfield 35, 3, 8, 3, 0, 0, 0, z0), (.invokevirtual 67, 3, 1, 7, 0, 0, 0, mJou_note), (.aload_n 0, 1, 0, 0, 0, 0, 0, z0), (.getfield 35, 3, 8, 3, 0, 0, 0, z0), (.getfield 71, 3, 6, 0, 0, 0, 0, z0), (.iload_n 1, 1, 0, 0, 0, 0, 0, z0), (.iconst (4), 1, 4, 0, 0, 0, 0, z0), (.imul, 1, 0, 0, 0, 0, 0, z0), (.iload_n 2, 1, 0, 0, 0, 0, 0, z0), (.iadd, 1, 0, 0, 0, 0, 0, z0), (.iload_n 3, 1, 0, 0, 0, 0, 0, z0), (.iastore, 1, 0, 0, 0, 0, 0, z0), (.iconst (1), 1, 1, 0, 0, 0, 0, z0), (.ireturn, 1, 0, 0, 1, 0, 0, z0)]
def cdD_view : zCd := fun a => match a with
  | 0 => some qD_view_0
  | 16 => some qD_view_16
  | 18 => some qD_view_18
  | 36 => some qD_view_36
  | _ => none
set_option maxRecDepth 100000 in
theorem bD_view_0 : zcode (mD_view) 0 qD_view_0 := zcode_of (by decide +kernel) (zoks_cons rfl (zoks_cons (And.intro rfl kS0) (zoks_cons (And.intro rfl (by decide)) (zoks_cons rfl (zoks_cons (And.intro rfl (by decide)) (zoks_cons rfl (zoks_cons (And.intro rfl (by decide)) (zoks_cons (And.intro rfl (by decide)) trivial))))))))
set_option maxRecDepth 100000 in
theorem bD_view_16 : zcode (mD_view) 16 qD_view_16 := zcode_of (by decide +kernel) (zoks_cons (And.intro rfl (by decide)) (zoks_cons (And.intro rfl (Or.inr (Or.inl ⟨rfl, rfl⟩))) trivial))
set_option maxRecDepth 100000 in
theorem bD_view_18 : zcode (mD_view) 18 qD_view_18 := zcode_of (by decide +kernel) (zoks_cons rfl (zoks_cons (And.intro rfl (by decide)) (zoks_cons (And.intro rfl (by decide)) (zoks_cons rfl (zoks_cons (And.intro rfl kF1) (zoks_cons rfl (zoks_cons (And.intro rfl kV4) (zoks_cons (And.intro rfl (by decide)) (zoks_cons (And.intro rfl (by decide)) (zoks_cons (And.intro rfl (Or.inr (Or.inl ⟨rfl, rfl⟩))) trivial))))))))))
set_option maxRecDepth 100000 in
theorem bD_view_36 : zcode (mD_view) 36 qD_view_36 := zcode_of (by decide +kernel) (zoks_cons rfl (zoks_cons (And.intro rfl kF2) (zoks_cons rfl (zoks_cons (And.intro rfl kF3) (zoks_cons (And.intro rfl kV5) (zoks_cons rfl (zoks_cons (And.intro rfl kF3) (zoks_cons (And.intro rfl kF4) (zoks_cons rfl (zoks_cons (And.intro rfl (by decide)) (zoks_cons rfl (zoks_cons rfl (zoks_cons rfl (zoks_cons rfl (zoks_cons (And.intro rfl rfl) (zoks_cons (And.intro rfl (by decide)) (zoks_cons (And.intro rfl (Or.inr (Or.inl ⟨rfl, rfl⟩))) trivial)))))))))))))))))
theorem kD_view : zcd (mD_view) cdD_view := by
  intro a is h
  unfold cdD_view at h
  split at h
  · cases h; exact bD_view_0
  · cases h; exact bD_view_16
  · cases h; exact bD_view_18
  · cases h; exact bD_view_36
  · cases h
def qD_mapped_0 : List zIns := [(.iload_n 1, 1, 0, 0, 0, 0, 0, z0), (.invokestatic 60, 3, 1, 0, 0, 0, 0, mD_isClient), (.ifCond .eq (24), 3, 28, 0, 0, 0, 0, z0), (.aload_n 0, 1, 0, 0, 0, 0, 0, z0), (.iload_n 2, 1, 0, 0, 0, 0, 0, z0), (.invokevirtual 75, 3, 1, 8, 0, 0, 0, mD_isFile), (.ifCond .eq (16), 3, 28, 0, 0, 0, 0, z0), (.aload_n 0, 1, 0, 0, 0, 0, 0, z0), (.iload_n 1, 1, 0, 0, 0, 0, 0, z0), (.iload_n 2, 1, 0, 0, 0, 0, 0, z0), (.invokevirtual 78, 3, 2, 8, 0, 0, 0, mD_isMapped), (.ifCond .eq (7), 3, 28, 0, 0, 0, 0, z0), (.iconst (1), 1, 1, 0, 0, 0, 0, z0), (.goto (4), 3, 29, 0, 0, 0, 0, z0)]
def qD_mapped_28 : List zIns := [(.iconst (0), 1, 0, 0, 0, 0, 0, z0)]
def qD_mapped_29 : List zIns := [(.ireturn, 1, 0, 0, 1, 0, 0, z0)]
def cdD_mapped : zCd := fun a => match a with
  | 0 => some qD_mapped_0
  | 28 => some qD_mapped_28
  | 29 => some qD_mapped_29
  | _ => none
set_option maxRecDepth 100000 in
theorem bD_mapped_0 : zcode (mD_mapped) 0 qD_mapped_0 := zcode_of (by decide +kernel) (zoks_cons rfl (zoks_cons (And.intro rfl kS0) (zoks_cons (And.intro rfl (by decide)) (zoks_cons rfl (zoks_cons rfl (zoks_cons (And.intro rfl kV6) (zoks_cons (And.intro rfl (by decide)) (zoks_cons rfl (zoks_cons rfl (zoks_cons rfl (zoks_cons (And.intro rfl kV7) (zoks_cons (And.intro rfl (by decide)) (zoks_cons (And.intro rfl (by decide)) (zoks_cons (And.intro rfl (by decide)) trivial))))))))))))))
set_option maxRecDepth 100000 in
theorem bD_mapped_28 : zcode (mD_mapped) 28 qD_mapped_28 := zcode_of (by decide +kernel) (zoks_cons (And.intro rfl (by decide)) trivial)
set_option maxRecDepth 100000 in
theorem bD_mapped_29 : zcode (mD_mapped) 29 qD_mapped_29 := zcode_of (by decide +kernel) (zoks_cons (And.intro rfl (Or.inr (Or.inl ⟨rfl, rfl⟩))) trivial)
theorem kD_mapped : zcd (mD_mapped) cdD_mapped := by
  intro a is h
  unfold cdD_mapped at h
  split at h
  · cases h; exact bD_mapped_0
  · cases h; exact bD_mapped_28
  · cases h; exact bD_mapped_29
  · cases h
def qD_place_0 : List zIns := [(.iload_n 1, 1, 0, 0, 0, 0, 0, z0), (.invokestatic 60, 3, 1, 0, 0, 0, 0, mD_isClient), (.ifCond .eq (11), 3, 15, 0, 0, 0, 0, z0), (.aload_n 0, 1, 0, 0, 0, 0, 0, z0), (.iload_n 2, 1, 0, 0, 0, 0, 0, z0), (.invokevirtual 75, 3, 1, 8, 0, 0, 0, mD_isFile), (.ifCond .ne (5), 3, 17, 0, 0, 0, 0, z0)]
def qD_place_15 : List zIns := [(.iconst (-1), 1, 1, 0, 1, 0, 0, z0), (.ireturn, 1, 0, 0, 0, 0, 0, z0)]
def qD_place_17 : List zIns := [(.aload_n 0, 1, 0, 0, 0, 0, 0, z0), (.getfield 28, 3, 8, 2, 0, 0, 0, z0), (.aload_n 0, 1, 0, 0, 0, 0, 0, z0), (.getfield 35, 3, 8, 3, 0, 0, 0, z0), (.iload_n 1, 1, 0, 0, 0, 0, 0, z0), (.aload_n 0, 1, 0, 0, 0, 0, 0, z0), (.getfield 21, 3, 8, 1, 0, 0, 0, z0), (.iload_n 2, 1, 0, 0, 0, 0, 0, z0), (.invokevirtual 82, 3, 4, 3, 0, 0, 0, mPl_layOne), (.aload_n 0, 1, 0, 0, 0, 0, 0, z0), (.getfield 28, 3, 8, 2, 0, 0, 0, z0), (.getfield 86, 3, 3, 1, 0, 0, 0, z0), (.iload_n 2, 1, 0, 0, 0, 0, 0, z0), (.baload, 1, 2, 0, 0, 0, 0, z0), (.ifCond .ne (5), 3, 48, 0, 0, 0, 0, z0), (.iconst (-1), 1, 1, 0, 1, 0, 0, z0), (.ireturn, 1, 0, 0, 0, 0, 0, z0)]
def qD_place_48 : List zIns := [(.aload_n 0, 1, 0, 0, 0, 0, 0, z0), (.getfield 28, 3, 8, 2, 0, 0, 0, z0), (.getfield 90, 3, 3, 0, 0, 0, 0, z0), (.iload_n 2, 1, 0, 0, 0, 0, 0, z0), (.aaload, 1, 3, 0, 0, 0, 0, z0), (.astore 4, 2, 0, 0, 0, 0, 0, z0), (.iload_n 3, 1, 0, 0, 0, 0, 0, z0), (.iconst (-1), 1, 1, 0, 1, 0, 0, z0), (.if_icmp .ne (9), 3, 70, 0, 0, 0, 0, z0), (.aload 4, 2, 0, 0, 0, 0, 0, z0), (.invokevirtual 94, 3, 0, 0, 0, 0, 0, mRow_size), (.ireturn, 1, 0, 0, 0, 0, 0, z0)]
def qD_place_70 : List zIns := [(.iload_n 3, 1, 0, 0, 0, 0, 0, z0), (.ifCond .lt (21), 3, 92, 0, 0, 0, 0, z0), (.iload_n 3, 1, 0, 0, 0, 0, 0, z0), (.aload 4, 2, 0, 0, 0, 0, 0, z0), (.invokevirtual 94, 3, 0, 0, 0, 0, 0, mRow_size), (.if_icmp .ge (12), 3, 92, 0, 0, 0, 0, z0), (.aload 4, 2, 0, 0, 0, 0, 0, z0), (.iload_n 3, 1, 0, 0, 0, 0, 0, z0), (.invokevirtual 98, 3, 1, 0, 0, 0, 0, mRow_at), (.goto (4), 3, 93, 0, 0, 0, 0, z0)]
def qD_place_92 : List zIns := [(.iconst (-1), 1, 1, 0, 1, 0, 0, z0)]
def qD_place_93 : List zIns := [(.ireturn, 1, 0, 0, 0, 0, 0, z0)]
def cdD_place : zCd := fun a => match a with
  | 0 => some qD_place_0
  | 15 => some qD_place_15
  | 17 => some qD_place_17
  | 48 => some qD_place_48
  | 70 => some qD_place_70
  | 92 => some qD_place_92
  | 93 => some qD_place_93
  | _ => none
set_option maxRecDepth 100000 in
theorem bD_place_0 : zcode (mD_place) 0 qD_place_0 := zcode_of (by decide +kernel) (zoks_cons rfl (zoks_cons (And.intro rfl kS0) (zoks_cons (And.intro rfl (by decide)) (zoks_cons rfl (zoks_cons rfl (zoks_cons (And.intro rfl kV6) (zoks_cons (And.intro rfl (by decide)) trivial)))))))
set_option maxRecDepth 100000 in
theorem bD_place_15 : zcode (mD_place) 15 qD_place_15 := zcode_of (by decide +kernel) (zoks_cons (And.intro rfl (by decide)) (zoks_cons (And.intro rfl (Or.inl ⟨rfl, rfl⟩)) trivial))
set_option maxRecDepth 100000 in
theorem bD_place_17 : zcode (mD_place) 17 qD_place_17 := zcode_of (by decide +kernel) (zoks_cons rfl (zoks_cons (And.intro rfl kF5) (zoks_cons rfl (zoks_cons (And.intro rfl kF3) (zoks_cons rfl (zoks_cons rfl (zoks_cons (And.intro rfl kF1) (zoks_cons rfl (zoks_cons (And.intro rfl kV8) (zoks_cons rfl (zoks_cons (And.intro rfl kF5) (zoks_cons (And.intro rfl kF6) (zoks_cons rfl (zoks_cons (And.intro rfl rfl) (zoks_cons (And.intro rfl (by decide)) (zoks_cons (And.intro rfl (by decide)) (zoks_cons (And.intro rfl (Or.inl ⟨rfl, rfl⟩)) trivial)))))))))))))))))
set_option maxRecDepth 100000 in
theorem bD_place_48 : zcode (mD_place) 48 qD_place_48 := zcode_of (by decide +kernel) (zoks_cons rfl (zoks_cons (And.intro rfl kF5) (zoks_cons (And.intro rfl kF7) (zoks_cons rfl (zoks_cons (And.intro rfl ⟨_, rfl⟩) (zoks_cons rfl (zoks_cons rfl (zoks_cons (And.intro rfl (by decide)) (zoks_cons (And.intro rfl (by decide)) (zoks_cons rfl (zoks_cons (And.intro rfl kV9) (zoks_cons (And.intro rfl (Or.inl ⟨rfl, rfl⟩)) trivial))))))))))))
set_option maxRecDepth 100000 in
theorem bD_place_70 : zcode (mD_place) 70 qD_place_70 := zcode_of (by decide +kernel) (zoks_cons rfl (zoks_cons (And.intro rfl (by decide)) (zoks_cons rfl (zoks_cons rfl (zoks_cons (And.intro rfl kV9) (zoks_cons (And.intro rfl (by decide)) (zoks_cons rfl (zoks_cons rfl (zoks_cons (And.intro rfl kV10) (zoks_cons (And.intro rfl (by decide)) trivial))))))))))
set_option maxRecDepth 100000 in
theorem bD_place_92 : zcode (mD_place) 92 qD_place_92 := zcode_of (by decide +kernel) (zoks_cons (And.intro rfl (by decide)) trivial)
set_option maxRecDepth 100000 in
theorem bD_place_93 : zcode (mD_place) 93 qD_place_93 := zcode_of (by decide +kernel) (zoks_cons (And.intro rfl (Or.inl ⟨rfl, rfl⟩)) trivial)
theorem kD_place : zcd (mD_place) cdD_place := by
  intro a is h
  unfold cdD_place at h
  split at h
  · cases h; exact bD_place_0
  · cases h; exact bD_place_15
  · cases h; exact bD_place_17
  · cases h; exact bD_place_48
  · cases h; exact bD_place_70
  · cases h; exact bD_place_92
  · cases h; exact bD_place_93
  · cases h
def qD_where_0 : List zIns := [(.iload_n 1, 1, 0, 0, 0, 0, 0, z0), (.invokestatic 60, 3, 1, 0, 0, 0, 0, mD_isClient), (.ifCond .eq (11), 3, 15, 0, 0, 0, 0, z0), (.aload_n 0, 1, 0, 0, 0, 0, 0, z0), (.iload_n 1, 1, 0, 0, 0, 0, 0, z0), (.invokevirtual 102, 3, 1, 8, 0, 0, 0, mD_fileAt), (.goto (4), 3, 16, 0, 0, 0, 0, z0)]
def qD_where_15 : List zIns := [(.iconst (-1), 1, 1, 0, 1, 0, 0, z0)]
def qD_where_16 : List zIns := [(.istore_n 2, 1, 0, 0, 0, 0, 0, z0), (.aload_n 0, 1, 0, 0, 0, 0, 0, z0), (.getfield 14, 3, 8, 0, 0, 0, 0, z0), (.invokevirtual 54, 3, 0, 0, 0, 0, 0, mRow_clear), (.iload_n 2, 1, 0, 0, 0, 0, 0, z0), (.ireturn, 1, 0, 0, 0, 0, 0, z0)]
def cdD_where : zCd := fun a => match a with
  | 0 => some qD_where_0
  | 15 => some qD_where_15
  | 16 => some qD_where_16
  | _ => none
set_option maxRecDepth 100000 in
theorem bD_where_0 : zcode (mD_where) 0 qD_where_0 := zcode_of (by decide +kernel) (zoks_cons rfl (zoks_cons (And.intro rfl kS0) (zoks_cons (And.intro rfl (by decide)) (zoks_cons rfl (zoks_cons rfl (zoks_cons (And.intro rfl kV11) (zoks_cons (And.intro rfl (by decide)) trivial)))))))
set_option maxRecDepth 100000 in
theorem bD_where_15 : zcode (mD_where) 15 qD_where_15 := zcode_of (by decide +kernel) (zoks_cons (And.intro rfl (by decide)) trivial)
set_option maxRecDepth 100000 in
theorem bD_where_16 : zcode (mD_where) 16 qD_where_16 := zcode_of (by decide +kernel) (zoks_cons rfl (zoks_cons rfl (zoks_cons (And.intro rfl kF0) (zoks_cons (And.intro rfl kV2) (zoks_cons rfl (zoks_cons (And.intro rfl (Or.inl ⟨rfl, rfl⟩)) trivial))))))
theorem kD_where : zcd (mD_where) cdD_where := by
  intro a is h
  unfold cdD_where at h
  split at h
  · cases h; exact bD_where_0
  · cases h; exact bD_where_15
  · cases h; exact bD_where_16
  · cases h
def qD_add_0 : List zIns := [(.iload_n 1, 1, 0, 0, 0, 0, 0, z0), (.invokestatic 60, 3, 1, 0, 0, 0, 0, mD_isClient), (.ifCond .eq (18), 3, 22, 0, 0, 0, 0, z0), (.aload_n 0, 1, 0, 0, 0, 0, 0, z0), (.iload_n 2, 1, 0, 0, 0, 0, 0, z0), (.invokevirtual 75, 3, 1, 8, 0, 0, 0, mD_isFile), (.ifCond .eq (10), 3, 22, 0, 0, 0, 0, z0), (.iload_n 3, 1, 0, 0, 0, 0, 0, z0), (.invokestatic 106, 3, 1, 0, 0, 0, 0, mD_isList), (.ifCond .ne (5), 3, 24, 0, 0, 0, 0, z0)]
def qD_add_22 : List zIns := [(.iconst (-1), 1, 1, 0, 1, 0, 0, z0), (.ireturn, 1, 0, 0, 0, 0, 0, z0)]
def qD_add_24 : List zIns := [(.aload_n 0, 1, 0, 0, 0, 0, 0, z0), (.iload_n 1, 1, 0, 0, 0, 0, 0, z0), (.iload_n 2, 1, 0, 0, 0, 0, 0, z0), (.invokevirtual 78, 3, 2, 8, 0, 0, 0, mD_isMapped), (.ifCond .ne (6), 3, 36, 0, 0, 0, 0, z0), (.bipush (-2), 2, 2, 0, 1, 0, 0, z0), (.ireturn, 1, 0, 0, 0, 0, 0, z0)]
def qD_add_36 : List zIns := [(.aload_n 0, 1, 0, 0, 0, 0, 0, z0), (.getfield 35, 3, 8, 3, 0, 0, 0, z0), (.iload_n 1, 1, 0, 0, 0, 0, 0, z0), (.iload_n 2, 1, 0, 0, 0, 0, 0, z0), (.invokevirtual 109, 3, 2, 6, 0, 0, 0, mSta_work), (.astore 5, 2, 0, 0, 0, 0, 0, z0), (.aload_n 0, 1, 0, 0, 0, 0, 0, z0), (.iload_n 2, 1, 0, 0, 0, 0, 0, z0), (.invokevirtual 113, 3, 1, 8, 0, 0, 0, mD_isGone), (.ifCond .eq (11), 3, 63, 0, 0, 0, 0, z0), (.aload 5, 2, 0, 0, 0, 0, 0, z0), (.getfield 116, 3, 5, 0, 0, 0, 0, z0), (.ifCond .eq (6), 3, 66, 0, 0, 0, 0, z0)]
def qD_add_63 : List zIns := [(.bipush (-3), 2, 3, 0, 1, 0, 0, z0), (.ireturn, 1, 0, 0, 0, 0, 0, z0)]
def qD_add_66 : List zIns := [(.aload 5, 2, 0, 0, 0, 0, 0, z0), (.invokevirtual 122, 3, 0, 5, 0, 0, 0, mWork_isOpen), (.ifCond .eq (6), 3, 77, 0, 0, 0, 0, z0), (.bipush (-4), 2, 4, 0, 1, 0, 0, z0), (.ireturn, 1, 0, 0, 0, 0, 0, z0)]
def qD_add_77 : List zIns := [(.aload_n 0, 1, 0, 0, 0, 0, 0, z0), (.iload_n 1, 1, 0, 0, 0, 0, 0, z0), (.iload_n 2, 1, 0, 0, 0, 0, 0, z0), (.iload 4, 2, 0, 0, 0, 0, 0, z0), (.invokevirtual 126, 3, 3, 8, 0, 0, 0, mD_isHindered), (.ifCond .eq (6), 3, 91, 0, 0, 0, 0, z0), (.bipush (-5), 2, 5, 0, 1, 0, 0, z0), (.ireturn, 1, 0, 0, 0, 0, 0, z0)]
def qD_add_91 : List zIns := [(.aload_n 0, 1, 0, 0, 0, 0, 0, z0), (.getfield 42, 3, 8, 4, 0, 0, 0, z0), (.aload_n 0, 1, 0, 0, 0, 0, 0, z0), (.getfield 35, 3, 8, 3, 0, 0, 0, z0), (.invokevirtual 67, 3, 1, 7, 0, 0, 0, mJou_note), (.aload 5, 2, 0, 0, 0, 0, 0, z0), (.iload_n 3, 1, 0, 0, 0, 0, 0, z0), (.iload 4, 2, 0, 0, 0, 0, 0, z0), (.iconst (0), 1, 0, 0, 0, 0, 0, z0), (.invokevirtual 130, 3, 3, 5, 0, 0, 0, mWork_openForAdd), (.iconst (0), 1, 0, 0, 0, 0, 0, z0), (.ireturn, 1, 0, 0, 0, 0, 0, z0)]
def cdD_add : zCd := fun a => match a with
  | 0 => some qD_add_0
  | 22 => some qD_add_22
  | 24 => some qD_add_24
  | 36 => some qD_add_36
  | 63 => some qD_add_63
  | 66 => some qD_add_66
  | 77 => some qD_add_77
  | 91 => some qD_add_91
  | _ => none
set_option maxRecDepth 100000 in
theorem bD_add_0 : zcode (mD_add) 0 qD_add_0 := zcode_of (by decide +kernel) (zoks_cons rfl (zoks_cons (And.intro rfl kS0) (zoks_cons (And.intro rfl (by decide)) (zoks_cons rfl (zoks_cons rfl (zoks_cons (And.intro rfl kV6) (zoks_cons (And.intro rfl (by decide)) (zoks_cons rfl (zoks_cons (And.intro rfl kS1) (zoks_cons (And.intro rfl (by decide)) trivial))))))))))
set_option maxRecDepth 100000 in
theorem bD_add_22 : zcode (mD_add) 22 qD_add_22 := zcode_of (by decide +kernel) (zoks_cons (And.intro rfl (by decide)) (zoks_cons (And.intro rfl (Or.inl ⟨rfl, rfl⟩)) trivial))
set_option maxRecDepth 100000 in
theorem bD_add_24 : zcode (mD_add) 24 qD_add_24 := zcode_of (by decide +kernel) (zoks_cons rfl (zoks_cons rfl (zoks_cons rfl (zoks_cons (And.intro rfl kV7) (zoks_cons (And.intro rfl (by decide)) (zoks_cons (And.intro rfl (by decide)) (zoks_cons (And.intro rfl (Or.inl ⟨rfl, rfl⟩)) trivial)))))))
set_option maxRecDepth 100000 in
theorem bD_add_36 : zcode (mD_add) 36 qD_add_36 := zcode_of (by decide +kernel) (zoks_cons rfl (zoks_cons (And.intro rfl kF3) (zoks_cons rfl (zoks_cons rfl (zoks_cons (And.intro rfl kV12) (zoks_cons rfl (zoks_cons rfl (zoks_cons rfl (zoks_cons (And.intro rfl kV13) (zoks_cons (And.intro rfl (by decide)) (zoks_cons rfl (zoks_cons (And.intro rfl kF8) (zoks_cons (And.intro rfl (by decide)) trivial)))))))))))))
set_option maxRecDepth 100000 in
theorem bD_add_63 : zcode (mD_add) 63 qD_add_63 := zcode_of (by decide +kernel) (zoks_cons (And.intro rfl (by decide)) (zoks_cons (And.intro rfl (Or.inl ⟨rfl, rfl⟩)) trivial))
set_option maxRecDepth 100000 in
theorem bD_add_66 : zcode (mD_add) 66 qD_add_66 := zcode_of (by decide +kernel) (zoks_cons rfl (zoks_cons (And.intro rfl kV14) (zoks_cons (And.intro rfl (by decide)) (zoks_cons (And.intro rfl (by decide)) (zoks_cons (And.intro rfl (Or.inl ⟨rfl, rfl⟩)) trivial)))))
set_option maxRecDepth 100000 in
theorem bD_add_77 : zcode (mD_add) 77 qD_add_77 := zcode_of (by decide +kernel) (zoks_cons rfl (zoks_cons rfl (zoks_cons rfl (zoks_cons rfl (zoks_cons (And.intro rfl kV15) (zoks_cons (And.intro rfl (by decide)) (zoks_cons (And.intro rfl (by decide)) (zoks_cons (And.intro rfl (Or.inl ⟨rfl, rfl⟩)) trivial))))))))
set_option maxRecDepth 100000 in
theorem bD_add_91 : zcode (mD_add) 91 qD_add_91 := zcode_of (by decide +kernel) (zoks_cons rfl (zoks_cons (And.intro rfl kF2) (zoks_cons rfl (zoks_cons (And.intro rfl kF3) (zoks_cons (And.intro rfl kV5) (zoks_cons rfl (zoks_cons rfl (zoks_cons rfl (zoks_cons (And.intro rfl (by decide)) (zoks_cons (And.intro rfl kV16) (zoks_cons (And.intro rfl (by decide)) (zoks_cons (And.intro rfl (Or.inl ⟨rfl, rfl⟩)) trivial))))))))))))
theorem kD_add : zcd (mD_add) cdD_add := by
  intro a is h
  unfold cdD_add at h
  split at h
  · cases h; exact bD_add_0
  · cases h; exact bD_add_22
  · cases h; exact bD_add_24
  · cases h; exact bD_add_36
  · cases h; exact bD_add_63
  · cases h; exact bD_add_66
  · cases h; exact bD_add_77
  · cases h; exact bD_add_91
  · cases h
def qD_edit_0 : List zIns := [(.aload_n 0, 1, 0, 0, 0, 0, 0, z0), (.iconst (2), 1, 2, 0, 0, 0, 0, z0), (.iload_n 1, 1, 0, 0, 0, 0, 0, z0), (.iload_n 2, 1, 0, 0, 0, 0, 0, z0), (.iload_n 3, 1, 0, 0, 0, 0, 0, z0), (.invokevirtual 134, 3, 4, 8, 0, 0, 0, mD_openHeldFor), (.ireturn, 1, 0, 0, 0, 0, 0, z0)]
def cdD_edit : zCd := fun a => match a with
  | 0 => some qD_edit_0
  | _ => none
set_option maxRecDepth 100000 in
theorem bD_edit_0 : zcode (mD_edit) 0 qD_edit_0 := zcode_of (by decide +kernel) (zoks_cons rfl (zoks_cons (And.intro rfl (by decide)) (zoks_cons rfl (zoks_cons rfl (zoks_cons rfl (zoks_cons (And.intro rfl kV17) (zoks_cons (And.intro rfl (Or.inl ⟨rfl, rfl⟩)) trivial)))))))
theorem kD_edit : zcd (mD_edit) cdD_edit := by
  intro a is h
  unfold cdD_edit at h
  split at h
  · cases h; exact bD_edit_0
  · cases h
def qD_remove_0 : List zIns := [(.aload_n 0, 1, 0, 0, 0, 0, 0, z0), (.iconst (3), 1, 3, 0, 0, 0, 0, z0), (.iload_n 1, 1, 0, 0, 0, 0, 0, z0), (.iload_n 2, 1, 0, 0, 0, 0, 0, z0), (.iload_n 3, 1, 0, 0, 0, 0, 0, z0), (.invokevirtual 134, 3, 4, 8, 0, 0, 0, mD_openHeldFor), (.ireturn, 1, 0, 0, 0, 0, 0, z0)]
def cdD_remove : zCd := fun a => match a with
  | 0 => some qD_remove_0
  | _ => none
set_option maxRecDepth 100000 in
theorem bD_remove_0 : zcode (mD_remove) 0 qD_remove_0 := zcode_of (by decide +kernel) (zoks_cons rfl (zoks_cons (And.intro rfl (by decide)) (zoks_cons rfl (zoks_cons rfl (zoks_cons rfl (zoks_cons (And.intro rfl kV17) (zoks_cons (And.intro rfl (Or.inl ⟨rfl, rfl⟩)) trivial)))))))
theorem kD_remove : zcd (mD_remove) cdD_remove := by
  intro a is h
  unfold cdD_remove at h
  split at h
  · cases h; exact bD_remove_0
  · cases h
def qD_store_0 : List zIns := [(.aload_n 0, 1, 0, 0, 0, 0, 0, z0), (.iload_n 1, 1, 0, 0, 0, 0, 0, z0), (.iload_n 2, 1, 0, 0, 0, 0, 0, z0), (.invokevirtual 138, 3, 2, 8, 0, 0, 0, mD_isOpenAt), (.ifCond .ne (5), 3, 11, 0, 0, 0, 0, z0), (.iconst (0), 1, 0, 0, 0, 0, 0, z0), (.ireturn, 1, 0, 0, 1, 0, 0, z0)]
def qD_store_11 : List zIns := [(.aload_n 0, 1, 0, 0, 0, 0, 0, z0), (.getfield 35, 3, 8, 3, 0, 0, 0, z0), (.iload_n 1, 1, 0, 0, 0, 0, 0, z0), (.iload_n 2, 1, 0, 0, 0, 0, 0, z0), (.invokevirtual 109, 3, 2, 6, 0, 0, 0, mSta_work), (.astore 4, 2, 0, 0, 0, 0, 0, z0), (.aload 4, 2, 0, 0, 0, 0, 0, z0), (.getfield 141, 3, 5, 2, 0, 0, 0, z0), (.iconst (3), 1, 3, 0, 0, 0, 0, z0), (.if_icmp .ne (5), 3, 33, 0, 0, 0, 0, z0), (.iconst (0), 1, 0, 0, 0, 0, 0, z0), (.ireturn, 1, 0, 0, 1, 0, 0, z0)]
def qD_store_33 : List zIns := [(.aload_n 0, 1, 0, 0, 0, 0, 0, z0), (.getfield 42, 3, 8, 4, 0, 0, 0, z0), (.aload_n 0, 1, 0, 0, 0, 0, 0, z0), (.getfield 35, 3, 8, 3, 0, 0, 0, z0), (.invokevirtual 67, 3, 1, 7, 0, 0, 0, mJou_note), (.aload 4, 2, 0, 0, 0, 0, 0, z0), (.iload_n 3, 1, 0, 0, 0, 0, 0, z0), (.putfield 144, 3, 5, 1, 0, 0, 0, z0), (.iconst (1), 1, 1, 0, 0, 0, 0, z0), (.ireturn, 1, 0, 0, 1, 0, 0, z0)]
def cdD_store : zCd := fun a => match a with
  | 0 => some qD_store_0
  | 11 => some qD_store_11
  | 33 => some qD_store_33
  | _ => none
set_option maxRecDepth 100000 in
theorem bD_store_0 : zcode (mD_store) 0 qD_store_0 := zcode_of (by decide +kernel) (zoks_cons rfl (zoks_cons rfl (zoks_cons rfl (zoks_cons (And.intro rfl kV18) (zoks_cons (And.intro rfl (by decide)) (zoks_cons (And.intro rfl (by decide)) (zoks_cons (And.intro rfl (Or.inr (Or.inl ⟨rfl, rfl⟩))) trivial)))))))
set_option maxRecDepth 100000 in
theorem bD_store_11 : zcode (mD_store) 11 qD_store_11 := zcode_of (by decide +kernel) (zoks_cons rfl (zoks_cons (And.intro rfl kF3) (zoks_cons rfl (zoks_cons rfl (zoks_cons (And.intro rfl kV12) (zoks_cons rfl (zoks_cons rfl (zoks_cons (And.intro rfl kF9) (zoks_cons (And.intro rfl (by decide)) (zoks_cons (And.intro rfl (by decide)) (zoks_cons (And.intro rfl (by decide)) (zoks_cons (And.intro rfl (Or.inr (Or.inl ⟨rfl, rfl⟩))) trivial))))))))))))
set_option maxRecDepth 100000 in
theorem bD_store_33 : zcode (mD_store) 33 qD_store_33 := zcode_of (by decide +kernel) (zoks_cons rfl (zoks_cons (And.intro rfl kF2) (zoks_cons rfl (zoks_cons (And.intro rfl kF3) (zoks_cons (And.intro rfl kV5) (zoks_cons rfl (zoks_cons rfl (zoks_cons (And.intro rfl (And.intro rfl (kP5 rfl))) (zoks_cons (And.intro rfl (by decide)) (zoks_cons (And.intro rfl (Or.inr (Or.inl ⟨rfl, rfl⟩))) trivial))))))))))
theorem kD_store : zcd (mD_store) cdD_store := by
  intro a is h
  unfold cdD_store at h
  split at h
  · cases h; exact bD_store_0
  · cases h; exact bD_store_11
  · cases h; exact bD_store_33
  · cases h
def qD_reopen_0 : List zIns := [(.aload_n 0, 1, 0, 0, 0, 0, 0, z0), (.iload_n 1, 1, 0, 0, 0, 0, 0, z0), (.iload_n 2, 1, 0, 0, 0, 0, 0, z0), (.invokevirtual 138, 3, 2, 8, 0, 0, 0, mD_isOpenAt), (.ifCond .eq (10), 3, 16, 0, 0, 0, 0, z0), (.iload_n 3, 1, 0, 0, 0, 0, 0, z0), (.invokestatic 106, 3, 1, 0, 0, 0, 0, mD_isList), (.ifCond .ne (5), 3, 18, 0, 0, 0, 0, z0)]
def qD_reopen_16 : List zIns := [(.iconst (0), 1, 0, 0, 0, 0, 0, z0), (.ireturn, 1, 0, 0, 1, 0, 0, z0)]
def qD_reopen_18 : List zIns := [(.aload_n 0, 1, 0, 0, 0, 0, 0, z0), (.getfield 42, 3, 8, 4, 0, 0, 0, z0), (.aload_n 0, 1, 0, 0, 0, 0, 0, z0), (.getfield 35, 3, 8, 3, 0, 0, 0, z0), (.invokevirtual 67, 3, 1, 7, 0, 0, 0, mJou_note), (.aload_n 0, 1, 0, 0, 0, 0, 0, z0), (.getfield 35, 3, 8, 3, 0, 0, 0, z0), (.iload_n 1, 1, 0, 0, 0, 0, 0, z0), (.iload_n 2, 1, 0, 0, 0, 0, 0, z0), (.invokevirtual 109, 3, 2, 6, 0, 0, 0, mSta_work), (.iload_n 3, 1, 0, 0, 0, 0, 0, z0), (.putfield 147, 3, 5, 3, 0, 0, 0, z0), (.iconst (1), 1, 1, 0, 0, 0, 0, z0), (.ireturn, 1, 0, 0, 1, 0, 0, z0)]
def cdD_reopen : zCd := fun a => match a with
  | 0 => some qD_reopen_0
  | 16 => some qD_reopen_16
  | 18 => some qD_reopen_18
  | _ => none
set_option maxRecDepth 100000 in
theorem bD_reopen_0 : zcode (mD_reopen) 0 qD_reopen_0 := zcode_of (by decide +kernel) (zoks_cons rfl (zoks_cons rfl (zoks_cons rfl (zoks_cons (And.intro rfl kV18) (zoks_cons (And.intro rfl (by decide)) (zoks_cons rfl (zoks_cons (And.intro rfl kS1) (zoks_cons (And.intro rfl (by decide)) trivial))))))))
set_option maxRecDepth 100000 in
theorem bD_reopen_16 : zcode (mD_reopen) 16 qD_reopen_16 := zcode_of (by decide +kernel) (zoks_cons (And.intro rfl (by decide)) (zoks_cons (And.intro rfl (Or.inr (Or.inl ⟨rfl, rfl⟩))) trivial))
set_option maxRecDepth 100000 in
theorem bD_reopen_18 : zcode (mD_reopen) 18 qD_reopen_18 := zcode_of (by decide +kernel) (zoks_cons rfl (zoks_cons (And.intro rfl kF2) (zoks_cons rfl (zoks_cons (And.intro rfl kF3) (zoks_cons (And.intro rfl kV5) (zoks_cons rfl (zoks_cons (And.intro rfl kF3) (zoks_cons rfl (zoks_cons rfl (zoks_cons (And.intro rfl kV12) (zoks_cons rfl (zoks_cons (And.intro rfl (And.intro rfl (kP6 rfl))) (zoks_cons (And.intro rfl (by decide)) (zoks_cons (And.intro rfl (Or.inr (Or.inl ⟨rfl, rfl⟩))) trivial))))))))))))))
theorem kD_reopen : zcd (mD_reopen) cdD_reopen := by
  intro a is h
  unfold cdD_reopen at h
  split at h
  · cases h; exact bD_reopen_0
  · cases h; exact bD_reopen_16
  · cases h; exact bD_reopen_18
  · cases h
def qD_revert_0 : List zIns := [(.aload_n 0, 1, 0, 0, 0, 0, 0, z0), (.iload_n 1, 1, 0, 0, 0, 0, 0, z0), (.iload_n 2, 1, 0, 0, 0, 0, 0, z0), (.invokevirtual 138, 3, 2, 8, 0, 0, 0, mD_isOpenAt), (.ifCond .ne (5), 3, 11, 0, 0, 0, 0, z0), (.iconst (0), 1, 0, 0, 0, 0, 0, z0), (.ireturn, 1, 0, 0, 1, 0, 0, z0)]
def qD_revert_11 : List zIns := [(.aload_n 0, 1, 0, 0, 0, 0, 0, z0), (.getfield 42, 3, 8, 4, 0, 0, 0, z0), (.aload_n 0, 1, 0, 0, 0, 0, 0, z0), (.getfield 35, 3, 8, 3, 0, 0, 0, z0), (.invokevirtual 67, 3, 1, 7, 0, 0, 0, mJou_note), (.aload_n 0, 1, 0, 0, 0, 0, 0, z0), (.getfield 35, 3, 8, 3, 0, 0, 0, z0), (.iload_n 1, 1, 0, 0, 0, 0, 0, z0), (.iload_n 2, 1, 0, 0, 0, 0, 0, z0), (.invokevirtual 109, 3, 2, 6, 0, 0, 0, mSta_work), (.astore_n 3, 1, 0, 0, 0, 0, 0, z0), (.aload_n 3, 1, 0, 0, 0, 0, 0, z0), (.invokevirtual 150, 3, 0, 5, 0, 0, 0, mWork_close), (.aload_n 3, 1, 0, 0, 0, 0, 0, z0), (.aload_n 0, 1, 0, 0, 0, 0, 0, z0), (.iload_n 2, 1, 0, 0, 0, 0, 0, z0), (.aload_n 3, 1, 0, 0, 0, 0, 0, z0), (.getfield 116, 3, 5, 0, 0, 0, 0, z0), (.invokevirtual 153, 3, 2, 8, 0, 0, 0, mD_contentOf), (.putfield 144, 3, 5, 1, 0, 0, 0, z0), (.iconst (1), 1, 1, 0, 0, 0, 0, z0), (.ireturn, 1, 0, 0, 1, 0, 0, z0)]
def cdD_revert : zCd := fun a => match a with
  | 0 => some qD_revert_0
  | 11 => some qD_revert_11
  | _ => none
set_option maxRecDepth 100000 in
theorem bD_revert_0 : zcode (mD_revert) 0 qD_revert_0 := zcode_of (by decide +kernel) (zoks_cons rfl (zoks_cons rfl (zoks_cons rfl (zoks_cons (And.intro rfl kV18) (zoks_cons (And.intro rfl (by decide)) (zoks_cons (And.intro rfl (by decide)) (zoks_cons (And.intro rfl (Or.inr (Or.inl ⟨rfl, rfl⟩))) trivial)))))))
set_option maxRecDepth 100000 in
theorem bD_revert_11 : zcode (mD_revert) 11 qD_revert_11 := zcode_of (by decide +kernel) (zoks_cons rfl (zoks_cons (And.intro rfl kF2) (zoks_cons rfl (zoks_cons (And.intro rfl kF3) (zoks_cons (And.intro rfl kV5) (zoks_cons rfl (zoks_cons (And.intro rfl kF3) (zoks_cons rfl (zoks_cons rfl (zoks_cons (And.intro rfl kV12) (zoks_cons rfl (zoks_cons rfl (zoks_cons (And.intro rfl kV19) (zoks_cons rfl (zoks_cons rfl (zoks_cons rfl (zoks_cons rfl (zoks_cons (And.intro rfl kF8) (zoks_cons (And.intro rfl kV20) (zoks_cons (And.intro rfl (And.intro rfl (kP5 rfl))) (zoks_cons (And.intro rfl (by decide)) (zoks_cons (And.intro rfl (Or.inr (Or.inl ⟨rfl, rfl⟩))) trivial))))))))))))))))))))))
theorem kD_revert : zcd (mD_revert) cdD_revert := by
  intro a is h
  unfold cdD_revert at h
  split at h
  · cases h; exact bD_revert_0
  · cases h; exact bD_revert_11
  · cases h
def qD_sync_0 : List zIns := [(.iload_n 1, 1, 0, 0, 0, 0, 0, z0), (.invokestatic 60, 3, 1, 0, 0, 0, 0, mD_isClient), (.ifCond .ne (5), 3, 9, 0, 0, 0, 0, z0), (.iconst (-1), 1, 1, 0, 1, 0, 0, z0), (.ireturn, 1, 0, 0, 0, 0, 0, z0)]
def qD_sync_9 : List zIns := [(.aload_n 0, 1, 0, 0, 0, 0, 0, z0), (.getfield 42, 3, 8, 4, 0, 0, 0, z0), (.aload_n 0, 1, 0, 0, 0, 0, 0, z0), (.getfield 35, 3, 8, 3, 0, 0, 0, z0), (.invokevirtual 67, 3, 1, 7, 0, 0, 0, mJou_note), (.aload_n 0, 1, 0, 0, 0, 0, 0, z0), (.getfield 28, 3, 8, 2, 0, 0, 0, z0), (.aload_n 0, 1, 0, 0, 0, 0, 0, z0), (.getfield 35, 3, 8, 3, 0, 0, 0, z0), (.iload_n 1, 1, 0, 0, 0, 0, 0, z0), (.aload_n 0, 1, 0, 0, 0, 0, 0, z0), (.getfield 21, 3, 8, 1, 0, 0, 0, z0), (.invokevirtual 157, 3, 3, 3, 0, 0, 0, mPl_layAll), (.iload_n 2, 1, 0, 0, 0, 0, 0, z0), (.ifCond .ge (13), 3, 50, 0, 0, 0, 0, z0), (.aload_n 0, 1, 0, 0, 0, 0, 0, z0), (.getfield 35, 3, 8, 3, 0, 0, 0, z0), (.getfield 161, 3, 6, 3, 0, 0, 0, z0), (.goto (4), 3, 51, 0, 0, 0, 0, z0)]
def qD_sync_50 : List zIns := [(.iload_n 2, 1, 0, 0, 0, 0, 0, z0)]
def qD_sync_51 : List zIns := [(.istore_n 3, 1, 0, 0, 0, 0, 0, z0), (.iconst (0), 1, 0, 0, 0, 0, 0, z0), (.istore 4, 2, 0, 0, 0, 0, 0, z0), (.iconst (0), 1, 0, 0, 0, 0, 0, z0), (.istore 5, 2, 0, 0, 0, 0, 0, z0)]
def qD_sync_58 : List zIns := [(.iload 5, 2, 0, 0, 0, 0, 0, z0), (.aload_n 0, 1, 0, 0, 0, 0, 0, z0), (.getfield 21, 3, 8, 1, 0, 0, 0, z0), (.getfield 164, 3, 2, 2, 0, 0, 0, z0), (.if_icmp .ge (38), 3, 105, 0, 0, 0, 0, z0), (.aload_n 0, 1, 0, 0, 0, 0, 0, z0), (.aload_n 0, 1, 0, 0, 0, 0, 0, z0), (.getfield 35, 3, 8, 3, 0, 0, 0, z0), (.iload_n 1, 1, 0, 0, 0, 0, 0, z0), (.iload 5, 2, 0, 0, 0, 0, 0, z0), (.invokevirtual 109, 3, 2, 6, 0, 0, 0, mSta_work), (.iload 5, 2, 0, 0, 0, 0, 0, z0), (.aload_n 0, 1, 0, 0, 0, 0, 0, z0), (.iload 5, 2, 0, 0, 0, 0, 0, z0), (.iload_n 3, 1, 0, 0, 0, 0, 0, z0), (.invokevirtual 167, 3, 2, 8, 0, 0, 0, mD_wanted), (.invokevirtual 170, 3, 3, 8, 0, 0, 0, mD_bring), (.ifCond .eq (6), 3, 99, 0, 0, 0, 0, z0), (.iinc 4 (1), 3, 1, 0, 0, 0, 0, z0)]
def qD_sync_99 : List zIns := [(.iinc 5 (1), 3, 1, 0, 0, 0, 0, z0), (.goto (-44), 3, 58, 0, 0, 0, 0, z0)]
def qD_sync_105 : List zIns := [(.iload 4, 2, 0, 0, 0, 0, 0, z0), (.ireturn, 1, 0, 0, 0, 0, 0, z0)]
def cdD_sync : zCd := fun a => match a with
  | 0 => some qD_sync_0
  | 9 => some qD_sync_9
  | 50 => some qD_sync_50
  | 51 => some qD_sync_51
  | 58 => some qD_sync_58
  | 99 => some qD_sync_99
  | 105 => some qD_sync_105
  | _ => none
set_option maxRecDepth 100000 in
theorem bD_sync_0 : zcode (mD_sync) 0 qD_sync_0 := zcode_of (by decide +kernel) (zoks_cons rfl (zoks_cons (And.intro rfl kS0) (zoks_cons (And.intro rfl (by decide)) (zoks_cons (And.intro rfl (by decide)) (zoks_cons (And.intro rfl (Or.inl ⟨rfl, rfl⟩)) trivial)))))
set_option maxRecDepth 100000 in
theorem bD_sync_9 : zcode (mD_sync) 9 qD_sync_9 := zcode_of (by decide +kernel) (zoks_cons rfl (zoks_cons (And.intro rfl kF2) (zoks_cons rfl (zoks_cons (And.intro rfl kF3) (zoks_cons (And.intro rfl kV5) (zoks_cons rfl (zoks_cons (And.intro rfl kF5) (zoks_cons rfl (zoks_cons (And.intro rfl kF3) (zoks_cons rfl (zoks_cons rfl (zoks_cons (And.intro rfl kF1) (zoks_cons (And.intro rfl kV21) (zoks_cons rfl (zoks_cons (And.intro rfl (by decide)) (zoks_cons rfl (zoks_cons (And.intro rfl kF3) (zoks_cons (And.intro rfl kF10) (zoks_cons (And.intro rfl (by decide)) trivial)))))))))))))))))))
set_option maxRecDepth 100000 in
theorem bD_sync_50 : zcode (mD_sync) 50 qD_sync_50 := zcode_of (by decide +kernel) (zoks_cons rfl trivial)
set_option maxRecDepth 100000 in
theorem bD_sync_51 : zcode (mD_sync) 51 qD_sync_51 := zcode_of (by decide +kernel) (zoks_cons rfl (zoks_cons (And.intro rfl (by decide)) (zoks_cons rfl (zoks_cons (And.intro rfl (by decide)) (zoks_cons rfl trivial)))))
set_option maxRecDepth 100000 in
theorem bD_sync_58 : zcode (mD_sync) 58 qD_sync_58 := zcode_of (by decide +kernel) (zoks_cons rfl (zoks_cons rfl (zoks_cons (And.intro rfl kF1) (zoks_cons (And.intro rfl kF11) (zoks_cons (And.intro rfl (by decide)) (zoks_cons rfl (zoks_cons rfl (zoks_cons (And.intro rfl kF3) (zoks_cons rfl (zoks_cons rfl (zoks_cons (And.intro rfl kV12) (zoks_cons rfl (zoks_cons rfl (zoks_cons rfl (zoks_cons rfl (zoks_cons (And.intro rfl kV22) (zoks_cons (And.intro rfl kV23) (zoks_cons (And.intro rfl (by decide)) (zoks_cons (And.intro rfl (by decide)) trivial)))))))))))))))))))
set_option maxRecDepth 100000 in
theorem bD_sync_99 : zcode (mD_sync) 99 qD_sync_99 := zcode_of (by decide +kernel) (zoks_cons (And.intro rfl (by decide)) (zoks_cons (And.intro rfl (by decide)) trivial))
set_option maxRecDepth 100000 in
theorem bD_sync_105 : zcode (mD_sync) 105 qD_sync_105 := zcode_of (by decide +kernel) (zoks_cons rfl (zoks_cons (And.intro rfl (Or.inl ⟨rfl, rfl⟩)) trivial))
theorem kD_sync : zcd (mD_sync) cdD_sync := by
  intro a is h
  unfold cdD_sync at h
  split at h
  · cases h; exact bD_sync_0
  · cases h; exact bD_sync_9
  · cases h; exact bD_sync_50
  · cases h; exact bD_sync_51
  · cases h; exact bD_sync_58
  · cases h; exact bD_sync_99
  · cases h; exact bD_sync_105
  · cases h
def qD_join_0 : List zIns := [(.iload_n 1, 1, 0, 0, 0, 0, 0, z0), (.invokestatic 60, 3, 1, 0, 0, 0, 0, mD_isClient), (.ifCond .eq (32), 3, 36, 0, 0, 0, 0, z0), (.aload_n 0, 1, 0, 0, 0, 0, 0, z0), (.iload_n 2, 1, 0, 0, 0, 0, 0, z0), (.invokevirtual 75, 3, 1, 8, 0, 0, 0, mD_isFile), (.ifCond .eq (24), 3, 36, 0, 0, 0, 0, z0), (.aload_n 0, 1, 0, 0, 0, 0, 0, z0), (.iload_n 3, 1, 0, 0, 0, 0, 0, z0), (.invokevirtual 75, 3, 1, 8, 0, 0, 0, mD_isFile), (.ifCond .eq (16), 3, 36, 0, 0, 0, 0, z0), (.iload 4, 2, 0, 0, 0, 0, 0, z0), (.invokestatic 106, 3, 1, 0, 0, 0, 0, mD_isList), (.ifCond .eq (8), 3, 36, 0, 0, 0, 0, z0), (.iload_n 2, 1, 0, 0, 0, 0, 0, z0), (.iload_n 3, 1, 0, 0, 0, 0, 0, z0), (.if_icmp .ne (5), 3, 38, 0, 0, 0, 0, z0)]
def qD_join_36 : List zIns := [(.iconst (-1), 1, 1, 0, 1, 0, 0, z0), (.ireturn, 1, 0, 0, 0, 0, 0, z0)]
def qD_join_38 : List zIns := [(.aload_n 0, 1, 0, 0, 0, 0, 0, z0), (.iload_n 1, 1, 0, 0, 0, 0, 0, z0), (.iload_n 2, 1, 0, 0, 0, 0, 0, z0), (.iload_n 3, 1, 0, 0, 0, 0, 0, z0), (.invokevirtual 174, 3, 3, 8, 0, 0, 0, mD_refusalToJoin), (.istore 5, 2, 0, 0, 0, 0, 0, z0), (.iload 5, 2, 0, 0, 0, 0, 0, z0), (.ifCond .eq (6), 3, 55, 0, 0, 0, 0, z0), (.iload 5, 2, 0, 0, 0, 0, 0, z0), (.ireturn, 1, 0, 0, 0, 0, 0, z0)]
def qD_join_55 : List zIns := [(.aload_n 0, 1, 0, 0, 0, 0, 0, z0), (.getfield 42, 3, 8, 4, 0, 0, 0, z0), (.aload_n 0, 1, 0, 0, 0, 0, 0, z0), (.getfield 35, 3, 8, 3, 0, 0, 0, z0), (.invokevirtual 67, 3, 1, 7, 0, 0, 0, mJou_note), (.aload_n 0, 1, 0, 0, 0, 0, 0, z0), (.getfield 35, 3, 8, 3, 0, 0, 0, z0), (.iload_n 1, 1, 0, 0, 0, 0, 0, z0), (.iload_n 3, 1, 0, 0, 0, 0, 0, z0), (.invokevirtual 109, 3, 2, 6, 0, 0, 0, mSta_work), (.astore 6, 2, 0, 0, 0, 0, 0, z0), (.aload_n 0, 1, 0, 0, 0, 0, 0, z0), (.getfield 35, 3, 8, 3, 0, 0, 0, z0), (.getfield 178, 3, 6, 1, 0, 0, 0, z0), (.iload_n 2, 1, 0, 0, 0, 0, 0, z0), (.aaload, 1, 5, 0, 0, 0, 0, z0), (.astore 7, 2, 0, 0, 0, 0, 0, z0), (.aload 6, 2, 0, 0, 0, 0, 0, z0), (.invokevirtual 122, 3, 0, 5, 0, 0, 0, mWork_isOpen), (.ifCond .ne (42), 3, 135, 0, 0, 0, 0, z0), (.aload_n 0, 1, 0, 0, 0, 0, 0, z0), (.iload_n 3, 1, 0, 0, 0, 0, 0, z0), (.invokevirtual 113, 3, 1, 8, 0, 0, 0, mD_isGone), (.ifCond .eq (34), 3, 135, 0, 0, 0, 0, z0), (.aload 6, 2, 0, 0, 0, 0, 0, z0), (.iload 4, 2, 0, 0, 0, 0, 0, z0), (.aload 7, 2, 0, 0, 0, 0, 0, z0), (.getfield 182, 3, 4, 4, 0, 0, 0, z0), (.aload 7, 2, 0, 0, 0, 0, 0, z0), (.getfield 188, 3, 4, 2, 0, 0, 0, z0), (.invokevirtual 130, 3, 3, 5, 0, 0, 0, mWork_openForAdd), (.aload 6, 2, 0, 0, 0, 0, 0, z0), (.iload_n 2, 1, 0, 0, 0, 0, 0, z0), (.aload 7, 2, 0, 0, 0, 0, 0, z0), (.getfield 191, 3, 4, 0, 0, 0, 0, z0), (.iconst (1), 1, 1, 0, 0, 0, 0, z0), (.invokevirtual 194, 3, 3, 5, 0, 0, 0, mWork_giveCredit), (.iconst (1), 1, 1, 0, 0, 0, 0, z0), (.ireturn, 1, 0, 0, 0, 0, 0, z0)]
def qD_join_135 : List zIns := [(.aload 6, 2, 0, 0, 0, 0, 0, z0), (.invokevirtual 122, 3, 0, 5, 0, 0, 0, mWork_isOpen), (.ifCond .ne (11), 3, 151, 0, 0, 0, 0, z0), (.aload 6, 2, 0, 0, 0, 0, 0, z0), (.iconst (2), 1, 2, 0, 0, 0, 0, z0), (.iload 4, 2, 0, 0, 0, 0, 0, z0), (.invokevirtual 198, 3, 2, 5, 0, 0, 0, mWork_openHeld)]
def qD_join_151 : List zIns := [(.aload 6, 2, 0, 0, 0, 0, 0, z0), (.iload_n 2, 1, 0, 0, 0, 0, 0, z0), (.putfield 202, 3, 5, 7, 0, 0, 0, z0), (.aload 6, 2, 0, 0, 0, 0, 0, z0), (.aload 7, 2, 0, 0, 0, 0, 0, z0), (.getfield 191, 3, 4, 0, 0, 0, 0, z0), (.putfield 205, 3, 5, 8, 0, 0, 0, z0), (.iconst (2), 1, 2, 0, 0, 0, 0, z0), (.ireturn, 1, 0, 0, 0, 0, 0, z0)]
def cdD_join : zCd := fun a => match a with
  | 0 => some qD_join_0
  | 36 => some qD_join_36
  | 38 => some qD_join_38
  | 55 => some qD_join_55
  | 135 => some qD_join_135
  | 151 => some qD_join_151
  | _ => none
set_option maxRecDepth 100000 in
theorem bD_join_0 : zcode (mD_join) 0 qD_join_0 := zcode_of (by decide +kernel) (zoks_cons rfl (zoks_cons (And.intro rfl kS0) (zoks_cons (And.intro rfl (by decide)) (zoks_cons rfl (zoks_cons rfl (zoks_cons (And.intro rfl kV6) (zoks_cons (And.intro rfl (by decide)) (zoks_cons rfl (zoks_cons rfl (zoks_cons (And.intro rfl kV6) (zoks_cons (And.intro rfl (by decide)) (zoks_cons rfl (zoks_cons (And.intro rfl kS1) (zoks_cons (And.intro rfl (by decide)) (zoks_cons rfl (zoks_cons rfl (zoks_cons (And.intro rfl (by decide)) trivial)))))))))))))))))
set_option maxRecDepth 100000 in
theorem bD_join_36 : zcode (mD_join) 36 qD_join_36 := zcode_of (by decide +kernel) (zoks_cons (And.intro rfl (by decide)) (zoks_cons (And.intro rfl (Or.inl ⟨rfl, rfl⟩)) trivial))
set_option maxRecDepth 100000 in
theorem bD_join_38 : zcode (mD_join) 38 qD_join_38 := zcode_of (by decide +kernel) (zoks_cons rfl (zoks_cons rfl (zoks_cons rfl (zoks_cons rfl (zoks_cons (And.intro rfl kV24) (zoks_cons rfl (zoks_cons rfl (zoks_cons (And.intro rfl (by decide)) (zoks_cons rfl (zoks_cons (And.intro rfl (Or.inl ⟨rfl, rfl⟩)) trivial))))))))))
set_option maxRecDepth 100000 in
theorem bD_join_55 : zcode (mD_join) 55 qD_join_55 := zcode_of (by decide +kernel) (zoks_cons rfl (zoks_cons (And.intro rfl kF2) (zoks_cons rfl (zoks_cons (And.intro rfl kF3) (zoks_cons (And.intro rfl kV5) (zoks_cons rfl (zoks_cons (And.intro rfl kF3) (zoks_cons rfl (zoks_cons rfl (zoks_cons (And.intro rfl kV12) (zoks_cons rfl (zoks_cons rfl (zoks_cons (And.intro rfl kF3) (zoks_cons (And.intro rfl kF12) (zoks_cons rfl (zoks_cons (And.intro rfl ⟨_, rfl⟩) (zoks_cons rfl (zoks_cons rfl (zoks_cons (And.intro rfl kV14) (zoks_cons (And.intro rfl (by decide)) (zoks_cons rfl (zoks_cons rfl (zoks_cons (And.intro rfl kV13) (zoks_cons (And.intro rfl (by decide)) (zoks_cons rfl (zoks_cons rfl (zoks_cons rfl (zoks_cons (And.intro rfl kF13) (zoks_cons rfl (zoks_cons (And.intro rfl kF14) (zoks_cons (And.intro rfl kV16) (zoks_cons rfl (zoks_cons rfl (zoks_cons rfl (zoks_cons (And.intro rfl kF15) (zoks_cons (And.intro rfl (by decide)) (zoks_cons (And.intro rfl kV25) (zoks_cons (And.intro rfl (by decide)) (zoks_cons (And.intro rfl (Or.inl ⟨rfl, rfl⟩)) trivial)))))))))))))))))))))))))))))))))))))))
set_option maxRecDepth 100000 in
theorem bD_join_135 : zcode (mD_join) 135 qD_join_135 := zcode_of (by decide +kernel) (zoks_cons rfl (zoks_cons (And.intro rfl kV14) (zoks_cons (And.intro rfl (by decide)) (zoks_cons rfl (zoks_cons (And.intro rfl (by decide)) (zoks_cons rfl (zoks_cons (And.intro rfl kV26) trivial)))))))
set_option maxRecDepth 100000 in
theorem bD_join_151 : zcode (mD_join) 151 qD_join_151 := zcode_of (by decide +kernel) (zoks_cons rfl (zoks_cons rfl (zoks_cons (And.intro rfl (And.intro rfl (kP7 rfl))) (zoks_cons rfl (zoks_cons rfl (zoks_cons (And.intro rfl kF15) (zoks_cons (And.intro rfl (And.intro rfl (kP8 rfl))) (zoks_cons (And.intro rfl (by decide)) (zoks_cons (And.intro rfl (Or.inl ⟨rfl, rfl⟩)) trivial)))))))))
theorem kD_join : zcd (mD_join) cdD_join := by
  intro a is h
  unfold cdD_join at h
  split at h
  · cases h; exact bD_join_0
  · cases h; exact bD_join_36
  · cases h; exact bD_join_38
  · cases h; exact bD_join_55
  · cases h; exact bD_join_135
  · cases h; exact bD_join_151
  · cases h
def qD_resolve_0 : List zIns := [(.iload_n 1, 1, 0, 0, 0, 0, 0, z0), (.invokestatic 60, 3, 1, 0, 0, 0, 0, mD_isClient), (.ifCond .eq (20), 3, 24, 0, 0, 0, 0, z0), (.aload_n 0, 1, 0, 0, 0, 0, 0, z0), (.iload_n 2, 1, 0, 0, 0, 0, 0, z0), (.invokevirtual 75, 3, 1, 8, 0, 0, 0, mD_isFile), (.ifCond .eq (12), 3, 24, 0, 0, 0, 0, z0), (.iload_n 3, 1, 0, 0, 0, 0, 0, z0), (.ifCond .lt (8), 3, 24, 0, 0, 0, 0, z0), (.iload_n 3, 1, 0, 0, 0, 0, 0, z0), (.iconst (2), 1, 2, 0, 0, 0, 0, z0), (.if_icmp .le (5), 3, 26, 0, 0, 0, 0, z0)]
def qD_resolve_24 : List zIns := [(.iconst (-1), 1, 1, 0, 1, 0, 0, z0), (.ireturn, 1, 0, 0, 0, 0, 0, z0)]
def qD_resolve_26 : List zIns := [(.aload_n 0, 1, 0, 0, 0, 0, 0, z0), (.getfield 35, 3, 8, 3, 0, 0, 0, z0), (.iload_n 1, 1, 0, 0, 0, 0, 0, z0), (.iload_n 2, 1, 0, 0, 0, 0, 0, z0), (.invokevirtual 109, 3, 2, 6, 0, 0, 0, mSta_work), (.astore 4, 2, 0, 0, 0, 0, 0, z0), (.aload 4, 2, 0, 0, 0, 0, 0, z0), (.invokevirtual 122, 3, 0, 5, 0, 0, 0, mWork_isOpen), (.ifCond .eq (11), 3, 53, 0, 0, 0, 0, z0), (.aload 4, 2, 0, 0, 0, 0, 0, z0), (.invokevirtual 208, 3, 0, 5, 0, 0, 0, mWork_owes), (.ifCond .ne (6), 3, 56, 0, 0, 0, 0, z0)]
def qD_resolve_53 : List zIns := [(.bipush (-2), 2, 2, 0, 1, 0, 0, z0), (.ireturn, 1, 0, 0, 0, 0, 0, z0)]
def qD_resolve_56 : List zIns := [(.aload_n 0, 1, 0, 0, 0, 0, 0, z0), (.aload 4, 2, 0, 0, 0, 0, 0, z0), (.iload_n 2, 1, 0, 0, 0, 0, 0, z0), (.invokevirtual 211, 3, 2, 8, 0, 0, 0, mD_theirContent), (.istore 5, 2, 0, 0, 0, 0, 0, z0), (.aload_n 0, 1, 0, 0, 0, 0, 0, z0), (.aload 4, 2, 0, 0, 0, 0, 0, z0), (.iload_n 2, 1, 0, 0, 0, 0, 0, z0), (.invokevirtual 215, 3, 2, 8, 0, 0, 0, mD_mergeBase), (.istore 6, 2, 0, 0, 0, 0, 0, z0), (.iload_n 3, 1, 0, 0, 0, 0, 0, z0), (.ifCond .ne (21), 3, 96, 0, 0, 0, 0, z0), (.aload 4, 2, 0, 0, 0, 0, 0, z0), (.getfield 144, 3, 5, 1, 0, 0, 0, z0), (.iload 5, 2, 0, 0, 0, 0, 0, z0), (.iload 6, 2, 0, 0, 0, 0, 0, z0), (.invokestatic 218, 3, 3, 0, 0, 0, 0, mD_clash), (.ifCond .eq (6), 3, 96, 0, 0, 0, 0, z0), (.bipush (-3), 2, 3, 0, 1, 0, 0, z0), (.ireturn, 1, 0, 0, 0, 0, 0, z0)]
def qD_resolve_96 : List zIns := [(.aload_n 0, 1, 0, 0, 0, 0, 0, z0), (.getfield 42, 3, 8, 4, 0, 0, 0, z0), (.aload_n 0, 1, 0, 0, 0, 0, 0, z0), (.getfield 35, 3, 8, 3, 0, 0, 0, z0), (.invokevirtual 67, 3, 1, 7, 0, 0, 0, mJou_note), (.iload_n 3, 1, 0, 0, 0, 0, 0, z0), (.ifCond .ne (23), 3, 131, 0, 0, 0, 0, z0), (.aload 4, 2, 0, 0, 0, 0, 0, z0), (.aload 4, 2, 0, 0, 0, 0, 0, z0), (.getfield 144, 3, 5, 1, 0, 0, 0, z0), (.iload 5, 2, 0, 0, 0, 0, 0, z0), (.iload 6, 2, 0, 0, 0, 0, 0, z0), (.invokestatic 222, 3, 3, 0, 0, 0, 0, mD_merged), (.putfield 144, 3, 5, 1, 0, 0, 0, z0), (.goto (15), 3, 143, 0, 0, 0, 0, z0)]
def qD_resolve_131 : List zIns := [(.iload_n 3, 1, 0, 0, 0, 0, 0, z0), (.iconst (1), 1, 1, 0, 0, 0, 0, z0), (.if_icmp .ne (10), 3, 143, 0, 0, 0, 0, z0), (.aload 4, 2, 0, 0, 0, 0, 0, z0), (.iload 5, 2, 0, 0, 0, 0, 0, z0), (.putfield 144, 3, 5, 1, 0, 0, 0, z0)]
def qD_resolve_143 : List zIns := [(.aload 4, 2, 0, 0, 0, 0, 0, z0), (.iload_n 3, 1, 0, 0, 0, 0, 0, z0), (.iconst (1), 1, 1, 0, 0, 0, 0, z0), (.if_icmp .ne (7), 3, 154, 0, 0, 0, 0, z0), (.iconst (1), 1, 1, 0, 0, 0, 0, z0), (.goto (4), 3, 155, 0, 0, 0, 0, z0)]
def qD_resolve_154 : List zIns := [(.iconst (0), 1, 0, 0, 0, 0, 0, z0)]
def qD_resolve_155 : List zIns := [(.invokevirtual 225, 3, 1, 5, 0, 0, 0, mWork_settle), (.iconst (0), 1, 0, 0, 0, 0, 0, z0), (.ireturn, 1, 0, 0, 0, 0, 0, z0)]
def cdD_resolve : zCd := fun a => match a with
  | 0 => some qD_resolve_0
  | 24 => some qD_resolve_24
  | 26 => some qD_resolve_26
  | 53 => some qD_resolve_53
  | 56 => some qD_resolve_56
  | 96 => some qD_resolve_96
  | 131 => some qD_resolve_131
  | 143 => some qD_resolve_143
  | 154 => some qD_resolve_154
  | 155 => some qD_resolve_155
  | _ => none
set_option maxRecDepth 100000 in
theorem bD_resolve_0 : zcode (mD_resolve) 0 qD_resolve_0 := zcode_of (by decide +kernel) (zoks_cons rfl (zoks_cons (And.intro rfl kS0) (zoks_cons (And.intro rfl (by decide)) (zoks_cons rfl (zoks_cons rfl (zoks_cons (And.intro rfl kV6) (zoks_cons (And.intro rfl (by decide)) (zoks_cons rfl (zoks_cons (And.intro rfl (by decide)) (zoks_cons rfl (zoks_cons (And.intro rfl (by decide)) (zoks_cons (And.intro rfl (by decide)) trivial))))))))))))
set_option maxRecDepth 100000 in
theorem bD_resolve_24 : zcode (mD_resolve) 24 qD_resolve_24 := zcode_of (by decide +kernel) (zoks_cons (And.intro rfl (by decide)) (zoks_cons (And.intro rfl (Or.inl ⟨rfl, rfl⟩)) trivial))
set_option maxRecDepth 100000 in
theorem bD_resolve_26 : zcode (mD_resolve) 26 qD_resolve_26 := zcode_of (by decide +kernel) (zoks_cons rfl (zoks_cons (And.intro rfl kF3) (zoks_cons rfl (zoks_cons rfl (zoks_cons (And.intro rfl kV12) (zoks_cons rfl (zoks_cons rfl (zoks_cons (And.intro rfl kV14) (zoks_cons (And.intro rfl (by decide)) (zoks_cons rfl (zoks_cons (And.intro rfl kV27) (zoks_cons (And.intro rfl (by decide)) trivial))))))))))))
set_option maxRecDepth 100000 in
theorem bD_resolve_53 : zcode (mD_resolve) 53 qD_resolve_53 := zcode_of (by decide +kernel) (zoks_cons (And.intro rfl (by decide)) (zoks_cons (And.intro rfl (Or.inl ⟨rfl, rfl⟩)) trivial))
set_option maxRecDepth 100000 in
theorem bD_resolve_56 : zcode (mD_resolve) 56 qD_resolve_56 := zcode_of (by decide +kernel) (zoks_cons rfl (zoks_cons rfl (zoks_cons rfl (zoks_cons (And.intro rfl kV28) (zoks_cons rfl (zoks_cons rfl (zoks_cons rfl (zoks_cons rfl (zoks_cons (And.intro rfl kV29) (zoks_cons rfl (zoks_cons rfl (zoks_cons (And.intro rfl (by decide)) (zoks_cons rfl (zoks_cons (And.intro rfl kF16) (zoks_cons rfl (zoks_cons rfl (zoks_cons (And.intro rfl kS2) (zoks_cons (And.intro rfl (by decide)) (zoks_cons (And.intro rfl (by decide)) (zoks_cons (And.intro rfl (Or.inl ⟨rfl, rfl⟩)) trivial))))))))))))))))))))
set_option maxRecDepth 100000 in
theorem bD_resolve_96 : zcode (mD_resolve) 96 qD_resolve_96 := zcode_of (by decide +kernel) (zoks_cons rfl (zoks_cons (And.intro rfl kF2) (zoks_cons rfl (zoks_cons (And.intro rfl kF3) (zoks_cons (And.intro rfl kV5) (zoks_cons rfl (zoks_cons (And.intro rfl (by decide)) (zoks_cons rfl (zoks_cons rfl (zoks_cons (And.intro rfl kF16) (zoks_cons rfl (zoks_cons rfl (zoks_cons (And.intro rfl kS3) (zoks_cons (And.intro rfl (And.intro rfl (kP5 rfl))) (zoks_cons (And.intro rfl (by decide)) trivial)))))))))))))))
set_option maxRecDepth 100000 in
theorem bD_resolve_131 : zcode (mD_resolve) 131 qD_resolve_131 := zcode_of (by decide +kernel) (zoks_cons rfl (zoks_cons (And.intro rfl (by decide)) (zoks_cons (And.intro rfl (by decide)) (zoks_cons rfl (zoks_cons rfl (zoks_cons (And.intro rfl (And.intro rfl (kP5 rfl))) trivial))))))
set_option maxRecDepth 100000 in
theorem bD_resolve_143 : zcode (mD_resolve) 143 qD_resolve_143 := zcode_of (by decide +kernel) (zoks_cons rfl (zoks_cons rfl (zoks_cons (And.intro rfl (by decide)) (zoks_cons (And.intro rfl (by decide)) (zoks_cons (And.intro rfl (by decide)) (zoks_cons (And.intro rfl (by decide)) trivial))))))
set_option maxRecDepth 100000 in
theorem bD_resolve_154 : zcode (mD_resolve) 154 qD_resolve_154 := zcode_of (by decide +kernel) (zoks_cons (And.intro rfl (by decide)) trivial)
set_option maxRecDepth 100000 in
theorem bD_resolve_155 : zcode (mD_resolve) 155 qD_resolve_155 := zcode_of (by decide +kernel) (zoks_cons (And.intro rfl kV30) (zoks_cons (And.intro rfl (by decide)) (zoks_cons (And.intro rfl (Or.inl ⟨rfl, rfl⟩)) trivial)))
theorem kD_resolve : zcd (mD_resolve) cdD_resolve := by
  intro a is h
  unfold cdD_resolve at h
  split at h
  · cases h; exact bD_resolve_0
  · cases h; exact bD_resolve_24
  · cases h; exact bD_resolve_26
  · cases h; exact bD_resolve_53
  · cases h; exact bD_resolve_56
  · cases h; exact bD_resolve_96
  · cases h; exact bD_resolve_131
  · cases h; exact bD_resolve_143
  · cases h; exact bD_resolve_154
  · cases h; exact bD_resolve_155
  · cases h
def qD_submit_0 : List zIns := [(.iload_n 1, 1, 0, 0, 0, 0, 0, z0), (.invokestatic 60, 3, 1, 0, 0, 0, 0, mD_isClient), (.ifCond .eq (10), 3, 14, 0, 0, 0, 0, z0), (.iload_n 2, 1, 0, 0, 0, 0, 0, z0), (.invokestatic 106, 3, 1, 0, 0, 0, 0, mD_isList), (.ifCond .ne (5), 3, 16, 0, 0, 0, 0, z0)]
def qD_submit_14 : List zIns := [(.iconst (-1), 1, 1, 0, 1, 0, 0, z0), (.ireturn, 1, 0, 0, 0, 0, 0, z0)]
def qD_submit_16 : List zIns := [(.aload_n 0, 1, 0, 0, 0, 0, 0, z0), (.iload_n 1, 1, 0, 0, 0, 0, 0, z0), (.iload_n 2, 1, 0, 0, 0, 0, 0, z0), (.invokevirtual 229, 3, 2, 8, 0, 0, 0, mD_refusalToSubmit), (.istore_n 3, 1, 0, 0, 0, 0, 0, z0), (.iload_n 3, 1, 0, 0, 0, 0, 0, z0), (.ifCond .eq (5), 3, 29, 0, 0, 0, 0, z0), (.iload_n 3, 1, 0, 0, 0, 0, 0, z0), (.ireturn, 1, 0, 0, 0, 0, 0, z0)]
def qD_submit_29 : List zIns := [(.aload_n 0, 1, 0, 0, 0, 0, 0, z0), (.getfield 42, 3, 8, 4, 0, 0, 0, z0), (.aload_n 0, 1, 0, 0, 0, 0, 0, z0), (.getfield 35, 3, 8, 3, 0, 0, 0, z0), (.invokevirtual 67, 3, 1, 7, 0, 0, 0, mJou_note), (.aload_n 0, 1, 0, 0, 0, 0, 0, z0), (.getfield 35, 3, 8, 3, 0, 0, 0, z0), (.dup, 1, 0, 0, 0, 0, 0, z0), (.getfield 161, 3, 6, 3, 0, 0, 0, z0), (.iconst (1), 1, 1, 0, 0, 0, 0, z0), (.iadd, 1, 0, 0, 0, 0, 0, z0), (.putfield 161, 3, 6, 3, 0, 0, 0, z0), (.iconst (0), 1, 0, 0, 0, 0, 0, z0), (.istore 4, 2, 0, 0, 0, 0, 0, z0)]
def qD_submit_56 : List zIns := [(.iload 4, 2, 0, 0, 0, 0, 0, z0), (.aload_n 0, 1, 0, 0, 0, 0, 0, z0), (.getfield 21, 3, 8, 1, 0, 0, 0, z0), (.getfield 164, 3, 2, 2, 0, 0, 0, z0), (.if_icmp .ge (38), 3, 103, 0, 0, 0, 0, z0), (.aload_n 0, 1, 0, 0, 0, 0, 0, z0), (.getfield 35, 3, 8, 3, 0, 0, 0, z0), (.iload_n 1, 1, 0, 0, 0, 0, 0, z0), (.iload 4, 2, 0, 0, 0, 0, 0, z0), (.invokevirtual 109, 3, 2, 6, 0, 0, 0, mSta_work), (.astore 5, 2, 0, 0, 0, 0, 0, z0), (.aload 5, 2, 0, 0, 0, 0, 0, z0), (.iload_n 2, 1, 0, 0, 0, 0, 0, z0), (.invokevirtual 232, 3, 1, 5, 0, 0, 0, mWork_isOn), (.ifCond .eq (11), 3, 97, 0, 0, 0, 0, z0), (.aload_n 0, 1, 0, 0, 0, 0, 0, z0), (.aload 5, 2, 0, 0, 0, 0, 0, z0), (.iload 4, 2, 0, 0, 0, 0, 0, z0), (.invokevirtual 235, 3, 2, 8, 0, 1, 6, mD_submitFile)]
def qD_submit_97 : List zIns := [(.iinc 4 (1), 3, 1, 0, 0, 0, 0, z0), (.goto (-44), 3, 56, 0, 0, 0, 0, z0)]
def qD_submit_103 : List zIns := [(.aload_n 0, 1, 0, 0, 0, 0, 0, z0), (.getfield 35, 3, 8, 3, 0, 0, 0, z0), (.getfield 161, 3, 6, 3, 0, 0, 0, z0), (.ireturn, 1, 0, 0, 0, 0, 0, z0)]
def cdD_submit : zCd := fun a => match a with
  | 0 => some qD_submit_0
  | 14 => some qD_submit_14
  | 16 => some qD_submit_16
  | 29 => some qD_submit_29
  | 56 => some qD_submit_56
  | 97 => some qD_submit_97
  | 103 => some qD_submit_103
  | _ => none
set_option maxRecDepth 100000 in
theorem bD_submit_0 : zcode (mD_submit) 0 qD_submit_0 := zcode_of (by decide +kernel) (zoks_cons rfl (zoks_cons (And.intro rfl kS0) (zoks_cons (And.intro rfl (by decide)) (zoks_cons rfl (zoks_cons (And.intro rfl kS1) (zoks_cons (And.intro rfl (by decide)) trivial))))))
set_option maxRecDepth 100000 in
theorem bD_submit_14 : zcode (mD_submit) 14 qD_submit_14 := zcode_of (by decide +kernel) (zoks_cons (And.intro rfl (by decide)) (zoks_cons (And.intro rfl (Or.inl ⟨rfl, rfl⟩)) trivial))
set_option maxRecDepth 100000 in
theorem bD_submit_16 : zcode (mD_submit) 16 qD_submit_16 := zcode_of (by decide +kernel) (zoks_cons rfl (zoks_cons rfl (zoks_cons rfl (zoks_cons (And.intro rfl kV31) (zoks_cons rfl (zoks_cons rfl (zoks_cons (And.intro rfl (by decide)) (zoks_cons rfl (zoks_cons (And.intro rfl (Or.inl ⟨rfl, rfl⟩)) trivial)))))))))
set_option maxRecDepth 100000 in
theorem bD_submit_29 : zcode (mD_submit) 29 qD_submit_29 := zcode_of (by decide +kernel) (zoks_cons rfl (zoks_cons (And.intro rfl kF2) (zoks_cons rfl (zoks_cons (And.intro rfl kF3) (zoks_cons (And.intro rfl kV5) (zoks_cons rfl (zoks_cons (And.intro rfl kF3) (zoks_cons rfl (zoks_cons (And.intro rfl kF10) (zoks_cons (And.intro rfl (by decide)) (zoks_cons rfl (zoks_cons (And.intro rfl (And.intro rfl (kP9 rfl))) (zoks_cons (And.intro rfl (by decide)) (zoks_cons rfl trivial))))))))))))))
set_option maxRecDepth 100000 in
theorem bD_submit_56 : zcode (mD_submit) 56 qD_submit_56 := zcode_of (by decide +kernel) (zoks_cons rfl (zoks_cons rfl (zoks_cons (And.intro rfl kF1) (zoks_cons (And.intro rfl kF11) (zoks_cons (And.intro rfl (by decide)) (zoks_cons rfl (zoks_cons (And.intro rfl kF3) (zoks_cons rfl (zoks_cons rfl (zoks_cons (And.intro rfl kV12) (zoks_cons rfl (zoks_cons rfl (zoks_cons rfl (zoks_cons (And.intro rfl kV32) (zoks_cons (And.intro rfl (by decide)) (zoks_cons rfl (zoks_cons rfl (zoks_cons rfl (zoks_cons (And.intro rfl kV33) trivial)))))))))))))))))))
set_option maxRecDepth 100000 in
theorem bD_submit_97 : zcode (mD_submit) 97 qD_submit_97 := zcode_of (by decide +kernel) (zoks_cons (And.intro rfl (by decide)) (zoks_cons (And.intro rfl (by decide)) trivial))
set_option maxRecDepth 100000 in
theorem bD_submit_103 : zcode (mD_submit) 103 qD_submit_103 := zcode_of (by decide +kernel) (zoks_cons rfl (zoks_cons (And.intro rfl kF3) (zoks_cons (And.intro rfl kF10) (zoks_cons (And.intro rfl (Or.inl ⟨rfl, rfl⟩)) trivial))))
theorem kD_submit : zcd (mD_submit) cdD_submit := by
  intro a is h
  unfold cdD_submit at h
  split at h
  · cases h; exact bD_submit_0
  · cases h; exact bD_submit_14
  · cases h; exact bD_submit_16
  · cases h; exact bD_submit_29
  · cases h; exact bD_submit_56
  · cases h; exact bD_submit_97
  · cases h; exact bD_submit_103
  · cases h
def qD_crash_0 : List zIns := [(.iload_n 1, 1, 0, 0, 0, 0, 0, z0), (.ifCond .lt (9), 3, 10, 0, 0, 0, 0, z0), (.iload_n 1, 1, 0, 0, 0, 0, 0, z0), (.bipush (8), 2, 8, 0, 0, 0, 0, z0), (.if_icmp .le (5), 3, 12, 0, 0, 0, 0, z0)]
def qD_crash_10 : List zIns := [(.iconst (-1), 1, 1, 0, 1, 0, 0, z0), (.ireturn, 1, 0, 0, 0, 0, 0, z0)]
def qD_crash_12 : List zIns := [(.iload_n 1, 1, 0, 0, 0, 0, 0, z0), (.aload_n 0, 1, 0, 0, 0, 0, 0, z0), (.getfield 42, 3, 8, 4, 0, 0, 0, z0), (.getfield 239, 3, 7, 1, 0, 0, 0, z0), (.if_icmp .le (6), 3, 26, 0, 0, 0, 0, z0), (.bipush (-2), 2, 2, 0, 1, 0, 0, z0), (.ireturn, 1, 0, 0, 0, 0, 0, z0)]
def qD_crash_26 : List zIns := [(.aload_n 0, 1, 0, 0, 0, 0, 0, z0), (.getfield 42, 3, 8, 4, 0, 0, 0, z0), (.iload_n 1, 1, 0, 0, 0, 0, 0, z0), (.aload_n 0, 1, 0, 0, 0, 0, 0, z0), (.getfield 35, 3, 8, 3, 0, 0, 0, z0), (.invokevirtual 242, 3, 2, 7, 0, 0, 0, mJou_lose), (.aload_n 0, 1, 0, 0, 0, 0, 0, z0), (.getfield 42, 3, 8, 4, 0, 0, 0, z0), (.getfield 246, 3, 7, 0, 0, 0, 0, z0), (.ireturn, 1, 0, 0, 0, 0, 0, z0)]
def cdD_crash : zCd := fun a => match a with
  | 0 => some qD_crash_0
  | 10 => some qD_crash_10
  | 12 => some qD_crash_12
  | 26 => some qD_crash_26
  | _ => none
set_option maxRecDepth 100000 in
theorem bD_crash_0 : zcode (mD_crash) 0 qD_crash_0 := zcode_of (by decide +kernel) (zoks_cons rfl (zoks_cons (And.intro rfl (by decide)) (zoks_cons rfl (zoks_cons (And.intro rfl (by decide)) (zoks_cons (And.intro rfl (by decide)) trivial)))))
set_option maxRecDepth 100000 in
theorem bD_crash_10 : zcode (mD_crash) 10 qD_crash_10 := zcode_of (by decide +kernel) (zoks_cons (And.intro rfl (by decide)) (zoks_cons (And.intro rfl (Or.inl ⟨rfl, rfl⟩)) trivial))
set_option maxRecDepth 100000 in
theorem bD_crash_12 : zcode (mD_crash) 12 qD_crash_12 := zcode_of (by decide +kernel) (zoks_cons rfl (zoks_cons rfl (zoks_cons (And.intro rfl kF2) (zoks_cons (And.intro rfl kF17) (zoks_cons (And.intro rfl (by decide)) (zoks_cons (And.intro rfl (by decide)) (zoks_cons (And.intro rfl (Or.inl ⟨rfl, rfl⟩)) trivial)))))))
set_option maxRecDepth 100000 in
theorem bD_crash_26 : zcode (mD_crash) 26 qD_crash_26 := zcode_of (by decide +kernel) (zoks_cons rfl (zoks_cons (And.intro rfl kF2) (zoks_cons rfl (zoks_cons rfl (zoks_cons (And.intro rfl kF3) (zoks_cons (And.intro rfl kV34) (zoks_cons rfl (zoks_cons (And.intro rfl kF2) (zoks_cons (And.intro rfl kF18) (zoks_cons (And.intro rfl (Or.inl ⟨rfl, rfl⟩)) trivial))))))))))
theorem kD_crash : zcd (mD_crash) cdD_crash := by
  intro a is h
  unfold cdD_crash at h
  split at h
  · cases h; exact bD_crash_0
  · cases h; exact bD_crash_10
  · cases h; exact bD_crash_12
  · cases h; exact bD_crash_26
  · cases h
def qD_journal_0 : List zIns := [(.aload_n 0, 1, 0, 0, 0, 0, 0, z0), (.getfield 42, 3, 8, 4, 0, 0, 0, z0), (.getfield 246, 3, 7, 0, 0, 0, 0, z0), (.ireturn, 1, 0, 0, 0, 0, 0, z0)]
def cdD_journal : zCd := fun a => match a with
  | 0 => some qD_journal_0
  | _ => none
set_option maxRecDepth 100000 in
theorem bD_journal_0 : zcode (mD_journal) 0 qD_journal_0 := zcode_of (by decide +kernel) (zoks_cons rfl (zoks_cons (And.intro rfl kF2) (zoks_cons (And.intro rfl kF18) (zoks_cons (And.intro rfl (Or.inl ⟨rfl, rfl⟩)) trivial))))
theorem kD_journal : zcd (mD_journal) cdD_journal := by
  intro a is h
  unfold cdD_journal at h
  split at h
  · cases h; exact bD_journal_0
  · cases h
def qD_changes_0 : List zIns := [(.aload_n 0, 1, 0, 0, 0, 0, 0, z0), (.getfield 35, 3, 8, 3, 0, 0, 0, z0), (.getfield 161, 3, 6, 3, 0, 0, 0, z0), (.ireturn, 1, 0, 0, 0, 0, 0, z0)]
def cdD_changes : zCd := fun a => match a with
  | 0 => some qD_changes_0
  | _ => none
set_option maxRecDepth 100000 in
theorem bD_changes_0 : zcode (mD_changes) 0 qD_changes_0 := zcode_of (by decide +kernel) (zoks_cons rfl (zoks_cons (And.intro rfl kF3) (zoks_cons (And.intro rfl kF10) (zoks_cons (And.intro rfl (Or.inl ⟨rfl, rfl⟩)) trivial))))
theorem kD_changes : zcd (mD_changes) cdD_changes := by
  intro a is h
  unfold cdD_changes at h
  split at h
  · cases h; exact bD_changes_0
  · cases h
def qD_joins_0 : List zIns := [(.aload_n 0, 1, 0, 0, 0, 0, 0, z0), (.getfield 35, 3, 8, 3, 0, 0, 0, z0), (.getfield 249, 3, 6, 4, 0, 0, 0, z0), (.ireturn, 1, 0, 0, 0, 0, 0, z0)]
def cdD_joins : zCd := fun a => match a with
  | 0 => some qD_joins_0
  | _ => none
set_option maxRecDepth 100000 in
theorem bD_joins_0 : zcode (mD_joins) 0 qD_joins_0 := zcode_of (by decide +kernel) (zoks_cons rfl (zoks_cons (And.intro rfl kF3) (zoks_cons (And.intro rfl kF19) (zoks_cons (And.intro rfl (Or.inl ⟨rfl, rfl⟩)) trivial))))
theorem kD_joins : zcd (mD_joins) cdD_joins := by
  intro a is h
  unfold cdD_joins at h
  split at h
  · cases h; exact bD_joins_0
  · cases h
def qD_head_0 : List zIns := [(.aload_n 0, 1, 0, 0, 0, 0, 0, z0), (.iload_n 1, 1, 0, 0, 0, 0, 0, z0), (.invokevirtual 75, 3, 1, 8, 0, 0, 0, mD_isFile), (.ifCond .eq (18), 3, 23, 0, 0, 0, 0, z0), (.aload_n 0, 1, 0, 0, 0, 0, 0, z0), (.getfield 35, 3, 8, 3, 0, 0, 0, z0), (.getfield 178, 3, 6, 1, 0, 0, 0, z0), (.iload_n 1, 1, 0, 0, 0, 0, 0, z0), (.aaload, 1, 5, 0, 0, 0, 0, z0), (.getfield 191, 3, 4, 0, 0, 0, 0, z0), (.goto (4), 3, 24, 0, 0, 0, 0, z0)]
def qD_head_23 : List zIns := [(.iconst (-1), 1, 1, 0, 1, 0, 0, z0)]
def qD_head_24 : List zIns := [(.ireturn, 1, 0, 0, 0, 0, 0, z0)]
def cdD_head : zCd := fun a => match a with
  | 0 => some qD_head_0
  | 23 => some qD_head_23
  | 24 => some qD_head_24
  | _ => none
set_option maxRecDepth 100000 in
theorem bD_head_0 : zcode (mD_head) 0 qD_head_0 := zcode_of (by decide +kernel) (zoks_cons rfl (zoks_cons rfl (zoks_cons (And.intro rfl kV6) (zoks_cons (And.intro rfl (by decide)) (zoks_cons rfl (zoks_cons (And.intro rfl kF3) (zoks_cons (And.intro rfl kF12) (zoks_cons rfl (zoks_cons (And.intro rfl ⟨_, rfl⟩) (zoks_cons (And.intro rfl kF15) (zoks_cons (And.intro rfl (by decide)) trivial)))))))))))
set_option maxRecDepth 100000 in
theorem bD_head_23 : zcode (mD_head) 23 qD_head_23 := zcode_of (by decide +kernel) (zoks_cons (And.intro rfl (by decide)) trivial)
set_option maxRecDepth 100000 in
theorem bD_head_24 : zcode (mD_head) 24 qD_head_24 := zcode_of (by decide +kernel) (zoks_cons (And.intro rfl (Or.inl ⟨rfl, rfl⟩)) trivial)
theorem kD_head : zcd (mD_head) cdD_head := by
  intro a is h
  unfold cdD_head at h
  split at h
  · cases h; exact bD_head_0
  · cases h; exact bD_head_23
  · cases h; exact bD_head_24
  · cases h
def qD_revision_0 : List zIns := [(.aload_n 0, 1, 0, 0, 0, 0, 0, z0), (.iload_n 1, 1, 0, 0, 0, 0, 0, z0), (.invokevirtual 75, 3, 1, 8, 0, 0, 0, mD_isFile), (.ifCond .eq (8), 3, 13, 0, 0, 0, 0, z0), (.iload_n 2, 1, 0, 0, 0, 0, 0, z0), (.iconst (1), 1, 1, 0, 0, 0, 0, z0), (.if_icmp .ge (5), 3, 15, 0, 0, 0, 0, z0)]
def qD_revision_13 : List zIns := [(.iconst (-1), 1, 1, 0, 1, 0, 0, z0), (.ireturn, 1, 0, 0, 0, 0, 0, z0)]
def qD_revision_15 : List zIns := [(.aload_n 0, 1, 0, 0, 0, 0, 0, z0), (.getfield 35, 3, 8, 3, 0, 0, 0, z0), (.getfield 178, 3, 6, 1, 0, 0, 0, z0), (.iload_n 1, 1, 0, 0, 0, 0, 0, z0), (.aaload, 1, 5, 0, 0, 0, 0, z0), (.iload_n 2, 1, 0, 0, 0, 0, 0, z0), (.invokevirtual 252, 3, 1, 4, 0, 0, 0, mRev_find), (.astore 4, 2, 0, 0, 0, 0, 0, z0), (.aload 4, 2, 0, 0, 0, 0, 0, z0), (.ifnonnull (7), 3, 39, 0, 0, 0, 0, z0), (.iconst (-1), 1, 1, 0, 1, 0, 0, z0), (.goto (9), 3, 45, 0, 0, 0, 0, z0)]
def qD_revision_39 : List zIns := [(.aload 4, 2, 0, 0, 0, 0, 0, z0), (.iload_n 3, 1, 0, 0, 0, 0, 0, z0), (.invokevirtual 256, 3, 1, 4, 0, 0, 0, mRev_tell)]
def qD_revision_45 : List zIns := [(.ireturn, 1, 0, 0, 0, 0, 0, z0)]
def cdD_revision : zCd := fun a => match a with
  | 0 => some qD_revision_0
  | 13 => some qD_revision_13
  | 15 => some qD_revision_15
  | 39 => some qD_revision_39
  | 45 => some qD_revision_45
  | _ => none
set_option maxRecDepth 100000 in
theorem bD_revision_0 : zcode (mD_revision) 0 qD_revision_0 := zcode_of (by decide +kernel) (zoks_cons rfl (zoks_cons rfl (zoks_cons (And.intro rfl kV6) (zoks_cons (And.intro rfl (by decide)) (zoks_cons rfl (zoks_cons (And.intro rfl (by decide)) (zoks_cons (And.intro rfl (by decide)) trivial)))))))
set_option maxRecDepth 100000 in
theorem bD_revision_13 : zcode (mD_revision) 13 qD_revision_13 := zcode_of (by decide +kernel) (zoks_cons (And.intro rfl (by decide)) (zoks_cons (And.intro rfl (Or.inl ⟨rfl, rfl⟩)) trivial))
set_option maxRecDepth 100000 in
theorem bD_revision_15 : zcode (mD_revision) 15 qD_revision_15 := zcode_of (by decide +kernel) (zoks_cons rfl (zoks_cons (And.intro rfl kF3) (zoks_cons (And.intro rfl kF12) (zoks_cons rfl (zoks_cons (And.intro rfl ⟨_, rfl⟩) (zoks_cons rfl (zoks_cons (And.intro rfl kV35) (zoks_cons rfl (zoks_cons rfl (zoks_cons (And.intro rfl (by decide)) (zoks_cons (And.intro rfl (by decide)) (zoks_cons (And.intro rfl (by decide)) trivial))))))))))))
set_option maxRecDepth 100000 in
theorem bD_revision_39 : zcode (mD_revision) 39 qD_revision_39 := zcode_of (by decide +kernel) (zoks_cons rfl (zoks_cons rfl (zoks_cons (And.intro rfl kV36) trivial)))
set_option maxRecDepth 100000 in
theorem bD_revision_45 : zcode (mD_revision) 45 qD_revision_45 := zcode_of (by decide +kernel) (zoks_cons (And.intro rfl (Or.inl ⟨rfl, rfl⟩)) trivial)
theorem kD_revision : zcd (mD_revision) cdD_revision := by
  intro a is h
  unfold cdD_revision at h
  split at h
  · cases h; exact bD_revision_0
  · cases h; exact bD_revision_13
  · cases h; exact bD_revision_15
  · cases h; exact bD_revision_39
  · cases h; exact bD_revision_45
  · cases h
def qD_have_0 : List zIns := [(.iload_n 1, 1, 0, 0, 0, 0, 0, z0), (.invokestatic 60, 3, 1, 0, 0, 0, 0, mD_isClient), (.ifCond .eq (26), 3, 30, 0, 0, 0, 0, z0), (.aload_n 0, 1, 0, 0, 0, 0, 0, z0), (.iload_n 2, 1, 0, 0, 0, 0, 0, z0), (.invokevirtual 75, 3, 1, 8, 0, 0, 0, mD_isFile), (.ifCond .eq (18), 3, 30, 0, 0, 0, 0, z0), (.aload_n 0, 1, 0, 0, 0, 0, 0, z0), (.getfield 35, 3, 8, 3, 0, 0, 0, z0), (.iload_n 1, 1, 0, 0, 0, 0, 0, z0), (.iload_n 2, 1, 0, 0, 0, 0, 0, z0), (.invokevirtual 109, 3, 2, 6, 0, 0, 0, mSta_work), (.getfield 116, 3, 5, 0, 0, 0, 0, z0), (.goto (4), 3, 31, 0, 0, 0, 0, z0)]
def qD_have_30 : List zIns := [(.iconst (-1), 1, 1, 0, 1, 0, 0, z0)]
def qD_have_31 : List zIns := [(.ireturn, 1, 0, 0, 0, 0, 0, z0)]
def cdD_have : zCd := fun a => match a with
  | 0 => some qD_have_0
  | 30 => some qD_have_30
  | 31 => some qD_have_31
  | _ => none
set_option maxRecDepth 100000 in
theorem bD_have_0 : zcode (mD_have) 0 qD_have_0 := zcode_of (by decide +kernel) (zoks_cons rfl (zoks_cons (And.intro rfl kS0) (zoks_cons (And.intro rfl (by decide)) (zoks_cons rfl (zoks_cons rfl (zoks_cons (And.intro rfl kV6) (zoks_cons (And.intro rfl (by decide)) (zoks_cons rfl (zoks_cons (And.intro rfl kF3) (zoks_cons rfl (zoks_cons rfl (zoks_cons (And.intro rfl kV12) (zoks_cons (And.intro rfl kF8) (zoks_cons (And.intro rfl (by decide)) trivial))))))))))))))
set_option maxRecDepth 100000 in
theorem bD_have_30 : zcode (mD_have) 30 qD_have_30 := zcode_of (by decide +kernel) (zoks_cons (And.intro rfl (by decide)) trivial)
set_option maxRecDepth 100000 in
theorem bD_have_31 : zcode (mD_have) 31 qD_have_31 := zcode_of (by decide +kernel) (zoks_cons (And.intro rfl (Or.inl ⟨rfl, rfl⟩)) trivial)
theorem kD_have : zcd (mD_have) cdD_have := by
  intro a is h
  unfold cdD_have at h
  split at h
  · cases h; exact bD_have_0
  · cases h; exact bD_have_30
  · cases h; exact bD_have_31
  · cases h
def qD_text_0 : List zIns := [(.iload_n 1, 1, 0, 0, 0, 0, 0, z0), (.invokestatic 60, 3, 1, 0, 0, 0, 0, mD_isClient), (.ifCond .eq (26), 3, 30, 0, 0, 0, 0, z0), (.aload_n 0, 1, 0, 0, 0, 0, 0, z0), (.iload_n 2, 1, 0, 0, 0, 0, 0, z0), (.invokevirtual 75, 3, 1, 8, 0, 0, 0, mD_isFile), (.ifCond .eq (18), 3, 30, 0, 0, 0, 0, z0), (.aload_n 0, 1, 0, 0, 0, 0, 0, z0), (.getfield 35, 3, 8, 3, 0, 0, 0, z0), (.iload_n 1, 1, 0, 0, 0, 0, 0, z0), (.iload_n 2, 1, 0, 0, 0, 0, 0, z0), (.invokevirtual 109, 3, 2, 6, 0, 0, 0, mSta_work), (.getfield 144, 3, 5, 1, 0, 0, 0, z0), (.goto (4), 3, 31, 0, 0, 0, 0, z0)]
def qD_text_30 : List zIns := [(.iconst (0), 1, 0, 0, 0, 0, 0, z0)]
def qD_text_31 : List zIns := [(.ireturn, 1, 0, 0, 0, 0, 0, z0)]
def cdD_text : zCd := fun a => match a with
  | 0 => some qD_text_0
  | 30 => some qD_text_30
  | 31 => some qD_text_31
  | _ => none
set_option maxRecDepth 100000 in
theorem bD_text_0 : zcode (mD_text) 0 qD_text_0 := zcode_of (by decide +kernel) (zoks_cons rfl (zoks_cons (And.intro rfl kS0) (zoks_cons (And.intro rfl (by decide)) (zoks_cons rfl (zoks_cons rfl (zoks_cons (And.intro rfl kV6) (zoks_cons (And.intro rfl (by decide)) (zoks_cons rfl (zoks_cons (And.intro rfl kF3) (zoks_cons rfl (zoks_cons rfl (zoks_cons (And.intro rfl kV12) (zoks_cons (And.intro rfl kF16) (zoks_cons (And.intro rfl (by decide)) trivial))))))))))))))
set_option maxRecDepth 100000 in
theorem bD_text_30 : zcode (mD_text) 30 qD_text_30 := zcode_of (by decide +kernel) (zoks_cons (And.intro rfl (by decide)) trivial)
set_option maxRecDepth 100000 in
theorem bD_text_31 : zcode (mD_text) 31 qD_text_31 := zcode_of (by decide +kernel) (zoks_cons (And.intro rfl (Or.inl ⟨rfl, rfl⟩)) trivial)
theorem kD_text : zcd (mD_text) cdD_text := by
  intro a is h
  unfold cdD_text at h
  split at h
  · cases h; exact bD_text_0
  · cases h; exact bD_text_30
  · cases h; exact bD_text_31
  · cases h
def qD_opened_0 : List zIns := [(.iload_n 1, 1, 0, 0, 0, 0, 0, z0), (.invokestatic 60, 3, 1, 0, 0, 0, 0, mD_isClient), (.ifCond .eq (27), 3, 31, 0, 0, 0, 0, z0), (.aload_n 0, 1, 0, 0, 0, 0, 0, z0), (.iload_n 2, 1, 0, 0, 0, 0, 0, z0), (.invokevirtual 75, 3, 1, 8, 0, 0, 0, mD_isFile), (.ifCond .eq (19), 3, 31, 0, 0, 0, 0, z0), (.aload_n 0, 1, 0, 0, 0, 0, 0, z0), (.getfield 35, 3, 8, 3, 0, 0, 0, z0), (.iload_n 1, 1, 0, 0, 0, 0, 0, z0), (.iload_n 2, 1, 0, 0, 0, 0, 0, z0), (.invokevirtual 109, 3, 2, 6, 0, 0, 0, mSta_work), (.iload_n 3, 1, 0, 0, 0, 0, 0, z0), (.invokevirtual 259, 3, 1, 5, 0, 0, 0, mWork_tell), (.goto (4), 3, 32, 0, 0, 0, 0, z0)]
def qD_opened_31 : List zIns := [(.iconst (-1), 1, 1, 0, 1, 0, 0, z0)]
def qD_opened_32 : List zIns := [(.ireturn, 1, 0, 0, 0, 0, 0, z0)]
def cdD_opened : zCd := fun a => match a with
  | 0 => some qD_opened_0
  | 31 => some qD_opened_31
  | 32 => some qD_opened_32
  | _ => none
set_option maxRecDepth 100000 in
theorem bD_opened_0 : zcode (mD_opened) 0 qD_opened_0 := zcode_of (by decide +kernel) (zoks_cons rfl (zoks_cons (And.intro rfl kS0) (zoks_cons (And.intro rfl (by decide)) (zoks_cons rfl (zoks_cons rfl (zoks_cons (And.intro rfl kV6) (zoks_cons (And.intro rfl (by decide)) (zoks_cons rfl (zoks_cons (And.intro rfl kF3) (zoks_cons rfl (zoks_cons rfl (zoks_cons (And.intro rfl kV12) (zoks_cons rfl (zoks_cons (And.intro rfl kV37) (zoks_cons (And.intro rfl (by decide)) trivial)))))))))))))))
set_option maxRecDepth 100000 in
theorem bD_opened_31 : zcode (mD_opened) 31 qD_opened_31 := zcode_of (by decide +kernel) (zoks_cons (And.intro rfl (by decide)) trivial)
set_option maxRecDepth 100000 in
theorem bD_opened_32 : zcode (mD_opened) 32 qD_opened_32 := zcode_of (by decide +kernel) (zoks_cons (And.intro rfl (Or.inl ⟨rfl, rfl⟩)) trivial)
theorem kD_opened : zcd (mD_opened) cdD_opened := by
  intro a is h
  unfold cdD_opened at h
  split at h
  · cases h; exact bD_opened_0
  · cases h; exact bD_opened_31
  · cases h; exact bD_opened_32
  · cases h
def qD_joined_0 : List zIns := [(.aload_n 0, 1, 0, 0, 0, 0, 0, z0), (.iload_n 1, 1, 0, 0, 0, 0, 0, z0), (.invokevirtual 75, 3, 1, 8, 0, 0, 0, mD_isFile), (.ifCond .eq (28), 3, 33, 0, 0, 0, 0, z0), (.aload_n 0, 1, 0, 0, 0, 0, 0, z0), (.iload_n 2, 1, 0, 0, 0, 0, 0, z0), (.invokevirtual 75, 3, 1, 8, 0, 0, 0, mD_isFile), (.ifCond .eq (20), 3, 33, 0, 0, 0, 0, z0), (.iload_n 1, 1, 0, 0, 0, 0, 0, z0), (.iload_n 2, 1, 0, 0, 0, 0, 0, z0), (.if_icmp .eq (15), 3, 33, 0, 0, 0, 0, z0), (.aload_n 0, 1, 0, 0, 0, 0, 0, z0), (.getfield 35, 3, 8, 3, 0, 0, 0, z0), (.iload_n 1, 1, 0, 0, 0, 0, 0, z0), (.iload_n 2, 1, 0, 0, 0, 0, 0, z0), (.invokevirtual 260, 3, 2, 6, 0, 0, 0, mSta_joinedUpTo), (.goto (4), 3, 34, 0, 0, 0, 0, z0)]
def qD_joined_33 : List zIns := [(.iconst (-1), 1, 1, 0, 1, 0, 0, z0)]
def qD_joined_34 : List zIns := [(.ireturn, 1, 0, 0, 0, 0, 0, z0)]
def cdD_joined : zCd := fun a => match a with
  | 0 => some qD_joined_0
  | 33 => some qD_joined_33
  | 34 => some qD_joined_34
  | _ => none
set_option maxRecDepth 100000 in
theorem bD_joined_0 : zcode (mD_joined) 0 qD_joined_0 := zcode_of (by decide +kernel) (zoks_cons rfl (zoks_cons rfl (zoks_cons (And.intro rfl kV6) (zoks_cons (And.intro rfl (by decide)) (zoks_cons rfl (zoks_cons rfl (zoks_cons (And.intro rfl kV6) (zoks_cons (And.intro rfl (by decide)) (zoks_cons rfl (zoks_cons rfl (zoks_cons (And.intro rfl (by decide)) (zoks_cons rfl (zoks_cons (And.intro rfl kF3) (zoks_cons rfl (zoks_cons rfl (zoks_cons (And.intro rfl kV38) (zoks_cons (And.intro rfl (by decide)) trivial)))))))))))))))))
set_option maxRecDepth 100000 in
theorem bD_joined_33 : zcode (mD_joined) 33 qD_joined_33 := zcode_of (by decide +kernel) (zoks_cons (And.intro rfl (by decide)) trivial)
set_option maxRecDepth 100000 in
theorem bD_joined_34 : zcode (mD_joined) 34 qD_joined_34 := zcode_of (by decide +kernel) (zoks_cons (And.intro rfl (Or.inl ⟨rfl, rfl⟩)) trivial)
theorem kD_joined : zcd (mD_joined) cdD_joined := by
  intro a is h
  unfold cdD_joined at h
  split at h
  · cases h; exact bD_joined_0
  · cases h; exact bD_joined_33
  · cases h; exact bD_joined_34
  · cases h
def qD_isClient_0 : List zIns := [(.iload_n 0, 1, 0, 0, 0, 0, 0, z0), (.ifCond .lt (12), 3, 13, 0, 0, 0, 0, z0), (.iload_n 0, 1, 0, 0, 0, 0, 0, z0), (.iconst (3), 1, 3, 0, 0, 0, 0, z0), (.if_icmp .ge (7), 3, 13, 0, 0, 0, 0, z0), (.iconst (1), 1, 1, 0, 0, 0, 0, z0), (.goto (4), 3, 14, 0, 0, 0, 0, z0)]
def qD_isClient_13 : List zIns := [(.iconst (0), 1, 0, 0, 0, 0, 0, z0)]
def qD_isClient_14 : List zIns := [(.ireturn, 1, 0, 0, 1, 0, 0, z0)]
def cdD_isClient : zCd := fun a => match a with
  | 0 => some qD_isClient_0
  | 13 => some qD_isClient_13
  | 14 => some qD_isClient_14
  | _ => none
set_option maxRecDepth 100000 in
theorem bD_isClient_0 : zcode (mD_isClient) 0 qD_isClient_0 := zcode_of (by decide +kernel) (zoks_cons rfl (zoks_cons (And.intro rfl (by decide)) (zoks_cons rfl (zoks_cons (And.intro rfl (by decide)) (zoks_cons (And.intro rfl (by decide)) (zoks_cons (And.intro rfl (by decide)) (zoks_cons (And.intro rfl (by decide)) trivial)))))))
set_option maxRecDepth 100000 in
theorem bD_isClient_13 : zcode (mD_isClient) 13 qD_isClient_13 := zcode_of (by decide +kernel) (zoks_cons (And.intro rfl (by decide)) trivial)
set_option maxRecDepth 100000 in
theorem bD_isClient_14 : zcode (mD_isClient) 14 qD_isClient_14 := zcode_of (by decide +kernel) (zoks_cons (And.intro rfl (Or.inr (Or.inl ⟨rfl, rfl⟩))) trivial)
theorem kD_isClient : zcd (mD_isClient) cdD_isClient := by
  intro a is h
  unfold cdD_isClient at h
  split at h
  · cases h; exact bD_isClient_0
  · cases h; exact bD_isClient_13
  · cases h; exact bD_isClient_14
  · cases h
def qD_isList_0 : List zIns := [(.iload_n 0, 1, 0, 0, 0, 0, 0, z0), (.ifCond .lt (12), 3, 13, 0, 0, 0, 0, z0), (.iload_n 0, 1, 0, 0, 0, 0, 0, z0), (.iconst (2), 1, 2, 0, 0, 0, 0, z0), (.if_icmp .ge (7), 3, 13, 0, 0, 0, 0, z0), (.iconst (1), 1, 1, 0, 0, 0, 0, z0), (.goto (4), 3, 14, 0, 0, 0, 0, z0)]
def qD_isList_13 : List zIns := [(.iconst (0), 1, 0, 0, 0, 0, 0, z0)]
def qD_isList_14 : List zIns := [(.ireturn, 1, 0, 0, 1, 0, 0, z0)]
def cdD_isList : zCd := fun a => match a with
  | 0 => some qD_isList_0
  | 13 => some qD_isList_13
  | 14 => some qD_isList_14
  | _ => none
set_option maxRecDepth 100000 in
theorem bD_isList_0 : zcode (mD_isList) 0 qD_isList_0 := zcode_of (by decide +kernel) (zoks_cons rfl (zoks_cons (And.intro rfl (by decide)) (zoks_cons rfl (zoks_cons (And.intro rfl (by decide)) (zoks_cons (And.intro rfl (by decide)) (zoks_cons (And.intro rfl (by decide)) (zoks_cons (And.intro rfl (by decide)) trivial)))))))
set_option maxRecDepth 100000 in
theorem bD_isList_13 : zcode (mD_isList) 13 qD_isList_13 := zcode_of (by decide +kernel) (zoks_cons (And.intro rfl (by decide)) trivial)
set_option maxRecDepth 100000 in
theorem bD_isList_14 : zcode (mD_isList) 14 qD_isList_14 := zcode_of (by decide +kernel) (zoks_cons (And.intro rfl (Or.inr (Or.inl ⟨rfl, rfl⟩))) trivial)
theorem kD_isList : zcd (mD_isList) cdD_isList := by
  intro a is h
  unfold cdD_isList at h
  split at h
  · cases h; exact bD_isList_0
  · cases h; exact bD_isList_13
  · cases h; exact bD_isList_14
  · cases h
def qD_isFile_0 : List zIns := [(.iload_n 1, 1, 0, 0, 0, 0, 0, z0), (.ifCond .lt (18), 3, 19, 0, 0, 0, 0, z0), (.iload_n 1, 1, 0, 0, 0, 0, 0, z0), (.aload_n 0, 1, 0, 0, 0, 0, 0, z0), (.getfield 21, 3, 8, 1, 0, 0, 0, z0), (.getfield 164, 3, 2, 2, 0, 0, 0, z0), (.if_icmp .ge (7), 3, 19, 0, 0, 0, 0, z0), (.iconst (1), 1, 1, 0, 0, 0, 0, z0), (.goto (4), 3, 20, 0, 0, 0, 0, z0)]
def qD_isFile_19 : List zIns := [(.iconst (0), 1, 0, 0, 0, 0, 0, z0)]
def qD_isFile_20 : List zIns := [(.ireturn, 1, 0, 0, 1, 0, 0, z0)]
def cdD_isFile : zCd := fun a => match a with
  | 0 => some qD_isFile_0
  | 19 => some qD_isFile_19
  | 20 => some qD_isFile_20
  | _ => none
set_option maxRecDepth 100000 in
theorem bD_isFile_0 : zcode (mD_isFile) 0 qD_isFile_0 := zcode_of (by decide +kernel) (zoks_cons rfl (zoks_cons (And.intro rfl (by decide)) (zoks_cons rfl (zoks_cons rfl (zoks_cons (And.intro rfl kF1) (zoks_cons (And.intro rfl kF11) (zoks_cons (And.intro rfl (by decide)) (zoks_cons (And.intro rfl (by decide)) (zoks_cons (And.intro rfl (by decide)) trivial)))))))))
set_option maxRecDepth 100000 in
theorem bD_isFile_19 : zcode (mD_isFile) 19 qD_isFile_19 := zcode_of (by decide +kernel) (zoks_cons (And.intro rfl (by decide)) trivial)
set_option maxRecDepth 100000 in
theorem bD_isFile_20 : zcode (mD_isFile) 20 qD_isFile_20 := zcode_of (by decide +kernel) (zoks_cons (And.intro rfl (Or.inr (Or.inl ⟨rfl, rfl⟩))) trivial)
theorem kD_isFile : zcd (mD_isFile) cdD_isFile := by
  intro a is h
  unfold cdD_isFile at h
  split at h
  · cases h; exact bD_isFile_0
  · cases h; exact bD_isFile_19
  · cases h; exact bD_isFile_20
  · cases h
def qD_isMapped_0 : List zIns := [(.aload_n 0, 1, 0, 0, 0, 0, 0, z0), (.getfield 28, 3, 8, 2, 0, 0, 0, z0), (.aload_n 0, 1, 0, 0, 0, 0, 0, z0), (.getfield 35, 3, 8, 3, 0, 0, 0, z0), (.iload_n 1, 1, 0, 0, 0, 0, 0, z0), (.aload_n 0, 1, 0, 0, 0, 0, 0, z0), (.getfield 21, 3, 8, 1, 0, 0, 0, z0), (.invokevirtual 157, 3, 3, 3, 0, 0, 0, mPl_layAll), (.aload_n 0, 1, 0, 0, 0, 0, 0, z0), (.getfield 28, 3, 8, 2, 0, 0, 0, z0), (.iload_n 2, 1, 0, 0, 0, 0, 0, z0), (.invokevirtual 263, 3, 1, 3, 0, 0, 0, mPl_isFirst), (.ireturn, 1, 0, 0, 1, 0, 0, z0)]
def cdD_isMapped : zCd := fun a => match a with
  | 0 => some qD_isMapped_0
  | _ => none
set_option maxRecDepth 100000 in
theorem bD_isMapped_0 : zcode (mD_isMapped) 0 qD_isMapped_0 := zcode_of (by decide +kernel) (zoks_cons rfl (zoks_cons (And.intro rfl kF5) (zoks_cons rfl (zoks_cons (And.intro rfl kF3) (zoks_cons rfl (zoks_cons rfl (zoks_cons (And.intro rfl kF1) (zoks_cons (And.intro rfl kV21) (zoks_cons rfl (zoks_cons (And.intro rfl kF5) (zoks_cons rfl (zoks_cons (And.intro rfl kV39) (zoks_cons (And.intro rfl (Or.inr (Or.inl ⟨rfl, rfl⟩))) trivial)))))))))))))
theorem kD_isMapped : zcd (mD_isMapped) cdD_isMapped := by
  intro a is h
  unfold cdD_isMapped at h
  split at h
  · cases h; exact bD_isMapped_0
  · cases h
def qD_isOpenAt_0 : List zIns := [(.iload_n 1, 1, 0, 0, 0, 0, 0, z0), (.invokestatic 60, 3, 1, 0, 0, 0, 0, mD_isClient), (.ifCond .eq (30), 3, 34, 0, 0, 0, 0, z0), (.aload_n 0, 1, 0, 0, 0, 0, 0, z0), (.iload_n 2, 1, 0, 0, 0, 0, 0, z0), (.invokevirtual 75, 3, 1, 8, 0, 0, 0, mD_isFile), (.ifCond .eq (22), 3, 34, 0, 0, 0, 0, z0), (.aload_n 0, 1, 0, 0, 0, 0, 0, z0), (.getfield 35, 3, 8, 3, 0, 0, 0, z0), (.iload_n 1, 1, 0, 0, 0, 0, 0, z0), (.iload_n 2, 1, 0, 0, 0, 0, 0, z0), (.invokevirtual 109, 3, 2, 6, 0, 0, 0, mSta_work), (.invokevirtual 122, 3, 0, 5, 0, 0, 0, mWork_isOpen), (.ifCond .eq (7), 3, 34, 0, 0, 0, 0, z0), (.iconst (1), 1, 1, 0, 0, 0, 0, z0), (.goto (4), 3, 35, 0, 0, 0, 0, z0)]
def qD_isOpenAt_34 : List zIns := [(.iconst (0), 1, 0, 0, 0, 0, 0, z0)]
def qD_isOpenAt_35 : List zIns := [(.ireturn, 1, 0, 0, 1, 0, 0, z0)]
def cdD_isOpenAt : zCd := fun a => match a with
  | 0 => some qD_isOpenAt_0
  | 34 => some qD_isOpenAt_34
  | 35 => some qD_isOpenAt_35
  | _ => none
set_option maxRecDepth 100000 in
theorem bD_isOpenAt_0 : zcode (mD_isOpenAt) 0 qD_isOpenAt_0 := zcode_of (by decide +kernel) (zoks_cons rfl (zoks_cons (And.intro rfl kS0) (zoks_cons (And.intro rfl (by decide)) (zoks_cons rfl (zoks_cons rfl (zoks_cons (And.intro rfl kV6) (zoks_cons (And.intro rfl (by decide)) (zoks_cons rfl (zoks_cons (And.intro rfl kF3) (zoks_cons rfl (zoks_cons rfl (zoks_cons (And.intro rfl kV12) (zoks_cons (And.intro rfl kV14) (zoks_cons (And.intro rfl (by decide)) (zoks_cons (And.intro rfl (by decide)) (zoks_cons (And.intro rfl (by decide)) trivial))))))))))))))))
set_option maxRecDepth 100000 in
theorem bD_isOpenAt_34 : zcode (mD_isOpenAt) 34 qD_isOpenAt_34 := zcode_of (by decide +kernel) (zoks_cons (And.intro rfl (by decide)) trivial)
set_option maxRecDepth 100000 in
theorem bD_isOpenAt_35 : zcode (mD_isOpenAt) 35 qD_isOpenAt_35 := zcode_of (by decide +kernel) (zoks_cons (And.intro rfl (Or.inr (Or.inl ⟨rfl, rfl⟩))) trivial)
theorem kD_isOpenAt : zcd (mD_isOpenAt) cdD_isOpenAt := by
  intro a is h
  unfold cdD_isOpenAt at h
  split at h
  · cases h; exact bD_isOpenAt_0
  · cases h; exact bD_isOpenAt_34
  · cases h; exact bD_isOpenAt_35
  · cases h
def qD_isGone_0 : List zIns := [(.aload_n 0, 1, 0, 0, 0, 0, 0, z0), (.getfield 35, 3, 8, 3, 0, 0, 0, z0), (.getfield 178, 3, 6, 1, 0, 0, 0, z0), (.iload_n 1, 1, 0, 0, 0, 0, 0, z0), (.aaload, 1, 5, 0, 0, 0, 0, z0), (.getfield 266, 3, 4, 3, 0, 0, 0, z0), (.ireturn, 1, 0, 0, 1, 0, 0, z0)]
def cdD_isGone : zCd := fun a => match a with
  | 0 => some qD_isGone_0
  | _ => none
set_option maxRecDepth 100000 in
theorem bD_isGone_0 : zcode (mD_isGone) 0 qD_isGone_0 := zcode_of (by decide +kernel) (zoks_cons rfl (zoks_cons (And.intro rfl kF3) (zoks_cons (And.intro rfl kF12) (zoks_cons rfl (zoks_cons (And.intro rfl ⟨_, rfl⟩) (zoks_cons (And.intro rfl kF20) (zoks_cons (And.intro rfl (Or.inr (Or.inl ⟨rfl, rfl⟩))) trivial)))))))
theorem kD_isGone : zcd (mD_isGone) cdD_isGone := by
  intro a is h
  unfold cdD_isGone at h
  split at h
  · cases h; exact bD_isGone_0
  · cases h
def qD_isHindered_0 : List zIns := [(.iconst (0), 1, 0, 0, 0, 0, 0, z0), (.istore 4, 2, 0, 0, 0, 0, 0, z0)]
def qD_isHindered_3 : List zIns := [(.iload 4, 2, 0, 0, 0, 0, 0, z0), (.iconst (3), 1, 3, 0, 0, 0, 0, z0), (.if_icmp .ge (64), 3, 70, 0, 0, 0, 0, z0), (.aload_n 0, 1, 0, 0, 0, 0, 0, z0), (.getfield 35, 3, 8, 3, 0, 0, 0, z0), (.iload 4, 2, 0, 0, 0, 0, 0, z0), (.iload_n 2, 1, 0, 0, 0, 0, 0, z0), (.invokevirtual 109, 3, 2, 6, 0, 0, 0, mSta_work), (.astore 5, 2, 0, 0, 0, 0, 0, z0), (.iload 4, 2, 0, 0, 0, 0, 0, z0), (.iload_n 1, 1, 0, 0, 0, 0, 0, z0), (.if_icmp .eq (40), 3, 64, 0, 0, 0, 0, z0), (.aload 5, 2, 0, 0, 0, 0, 0, z0), (.invokevirtual 122, 3, 0, 5, 0, 0, 0, mWork_isOpen), (.ifCond .eq (32), 3, 64, 0, 0, 0, 0, z0), (.iload_n 3, 1, 0, 0, 0, 0, 0, z0), (.ifCond .ne (26), 3, 62, 0, 0, 0, 0, z0), (.aload 5, 2, 0, 0, 0, 0, 0, z0), (.getfield 269, 3, 5, 5, 0, 0, 0, z0), (.ifCond .ne (18), 3, 62, 0, 0, 0, 0, z0), (.aload_n 0, 1, 0, 0, 0, 0, 0, z0), (.getfield 35, 3, 8, 3, 0, 0, 0, z0), (.getfield 178, 3, 6, 1, 0, 0, 0, z0), (.iload_n 2, 1, 0, 0, 0, 0, 0, z0), (.aaload, 1, 5, 0, 0, 0, 0, z0), (.getfield 182, 3, 4, 4, 0, 0, 0, z0), (.ifCond .eq (5), 3, 64, 0, 0, 0, 0, z0)]
def qD_isHindered_62 : List zIns := [(.iconst (1), 1, 1, 0, 0, 0, 0, z0), (.ireturn, 1, 0, 0, 1, 0, 0, z0)]
def qD_isHindered_64 : List zIns := [(.iinc 4 (1), 3, 1, 0, 0, 0, 0, z0), (.goto (-64), 3, 3, 0, 0, 0, 0, z0)]
def qD_isHindered_70 : List zIns := [(.iconst (0), 1, 0, 0, 0, 0, 0, z0), (.ireturn, 1, 0, 0, 1, 0, 0, z0)]
def cdD_isHindered : zCd := fun a => match a with
  | 0 => some qD_isHindered_0
  | 3 => some qD_isHindered_3
  | 62 => some qD_isHindered_62
  | 64 => some qD_isHindered_64
  | 70 => some qD_isHindered_70
  | _ => none
set_option maxRecDepth 100000 in
theorem bD_isHindered_0 : zcode (mD_isHindered) 0 qD_isHindered_0 := zcode_of (by decide +kernel) (zoks_cons (And.intro rfl (by decide)) (zoks_cons rfl trivial))
set_option maxRecDepth 100000 in
theorem bD_isHindered_3 : zcode (mD_isHindered) 3 qD_isHindered_3 := zcode_of (by decide +kernel) (zoks_cons rfl (zoks_cons (And.intro rfl (by decide)) (zoks_cons (And.intro rfl (by decide)) (zoks_cons rfl (zoks_cons (And.intro rfl kF3) (zoks_cons rfl (zoks_cons rfl (zoks_cons (And.intro rfl kV12) (zoks_cons rfl (zoks_cons rfl (zoks_cons rfl (zoks_cons (And.intro rfl (by decide)) (zoks_cons rfl (zoks_cons (And.intro rfl kV14) (zoks_cons (And.intro rfl (by decide)) (zoks_cons rfl (zoks_cons (And.intro rfl (by decide)) (zoks_cons rfl (zoks_cons (And.intro rfl kF21) (zoks_cons (And.intro rfl (by decide)) (zoks_cons rfl (zoks_cons (And.intro rfl kF3) (zoks_cons (And.intro rfl kF12) (zoks_cons rfl (zoks_cons (And.intro rfl ⟨_, rfl⟩) (zoks_cons (And.intro rfl kF13) (zoks_cons (And.intro rfl (by decide)) trivial)))))))))))))))))))))))))))
set_option maxRecDepth 100000 in
theorem bD_isHindered_62 : zcode (mD_isHindered) 62 qD_isHindered_62 := zcode_of (by decide +kernel) (zoks_cons (And.intro rfl (by decide)) (zoks_cons (And.intro rfl (Or.inr (Or.inl ⟨rfl, rfl⟩))) trivial))
set_option maxRecDepth 100000 in
theorem bD_isHindered_64 : zcode (mD_isHindered) 64 qD_isHindered_64 := zcode_of (by decide +kernel) (zoks_cons (And.intro rfl (by decide)) (zoks_cons (And.intro rfl (by decide)) trivial))
set_option maxRecDepth 100000 in
theorem bD_isHindered_70 : zcode (mD_isHindered) 70 qD_isHindered_70 := zcode_of (by decide +kernel) (zoks_cons (And.intro rfl (by decide)) (zoks_cons (And.intro rfl (Or.inr (Or.inl ⟨rfl, rfl⟩))) trivial))
theorem kD_isHindered : zcd (mD_isHindered) cdD_isHindered := by
  intro a is h
  unfold cdD_isHindered at h
  split at h
  · cases h; exact bD_isHindered_0
  · cases h; exact bD_isHindered_3
  · cases h; exact bD_isHindered_62
  · cases h; exact bD_isHindered_64
  · cases h; exact bD_isHindered_70
  · cases h
def qD_contentOf_0 : List zIns := [(.aload_n 0, 1, 0, 0, 0, 0, 0, z0), (.getfield 35, 3, 8, 3, 0, 0, 0, z0), (.getfield 178, 3, 6, 1, 0, 0, 0, z0), (.iload_n 1, 1, 0, 0, 0, 0, 0, z0), (.aaload, 1, 5, 0, 0, 0, 0, z0), (.iload_n 2, 1, 0, 0, 0, 0, 0, z0), (.invokevirtual 252, 3, 1, 4, 0, 0, 0, mRev_find), (.astore_n 3, 1, 0, 0, 0, 0, 0, z0), (.aload_n 3, 1, 0, 0, 0, 0, 0, z0), (.ifnonnull (7), 3, 22, 0, 0, 0, 0, z0), (.iconst (0), 1, 0, 0, 0, 0, 0, z0), (.goto (7), 3, 26, 0, 0, 0, 0, z0)]
def qD_contentOf_22 : List zIns := [(.aload_n 3, 1, 0, 0, 0, 0, 0, z0), (.getfield 188, 3, 4, 2, 0, 0, 0, z0)]
def qD_contentOf_26 : List zIns := [(.ireturn, 1, 0, 0, 0, 0, 0, z0)]
def cdD_contentOf : zCd := fun a => match a with
  | 0 => some qD_contentOf_0
  | 22 => some qD_contentOf_22
  | 26 => some qD_contentOf_26
  | _ => none
set_option maxRecDepth 100000 in
theorem bD_contentOf_0 : zcode (mD_contentOf) 0 qD_contentOf_0 := zcode_of (by decide +kernel) (zoks_cons rfl (zoks_cons (And.intro rfl kF3) (zoks_cons (And.intro rfl kF12) (zoks_cons rfl (zoks_cons (And.intro rfl ⟨_, rfl⟩) (zoks_cons rfl (zoks_cons (And.intro rfl kV35) (zoks_cons rfl (zoks_cons rfl (zoks_cons (And.intro rfl (by decide)) (zoks_cons (And.intro rfl (by decide)) (zoks_cons (And.intro rfl (by decide)) trivial))))))))))))
set_option maxRecDepth 100000 in
theorem bD_contentOf_22 : zcode (mD_contentOf) 22 qD_contentOf_22 := zcode_of (by decide +kernel) (zoks_cons rfl (zoks_cons (And.intro rfl kF14) trivial))
set_option maxRecDepth 100000 in
theorem bD_contentOf_26 : zcode (mD_contentOf) 26 qD_contentOf_26 := zcode_of (by decide +kernel) (zoks_cons (And.intro rfl (Or.inl ⟨rfl, rfl⟩)) trivial)
theorem kD_contentOf : zcd (mD_contentOf) cdD_contentOf := by
  intro a is h
  unfold cdD_contentOf at h
  split at h
  · cases h; exact bD_contentOf_0
  · cases h; exact bD_contentOf_22
  · cases h; exact bD_contentOf_26
  · cases h
def qD_fileAt_0 : List zIns := [(.aload_n 0, 1, 0, 0, 0, 0, 0, z0), (.getfield 28, 3, 8, 2, 0, 0, 0, z0), (.aload_n 0, 1, 0, 0, 0, 0, 0, z0), (.getfield 35, 3, 8, 3, 0, 0, 0, z0), (.iload_n 1, 1, 0, 0, 0, 0, 0, z0), (.aload_n 0, 1, 0, 0, 0, 0, 0, z0), (.getfield 21, 3, 8, 1, 0, 0, 0, z0), (.invokevirtual 157, 3, 3, 3, 0, 0, 0, mPl_layAll), (.iconst (0), 1, 0, 0, 0, 0, 0, z0), (.istore_n 2, 1, 0, 0, 0, 0, 0, z0)]
def qD_fileAt_18 : List zIns := [(.iload_n 2, 1, 0, 0, 0, 0, 0, z0), (.aload_n 0, 1, 0, 0, 0, 0, 0, z0), (.getfield 21, 3, 8, 1, 0, 0, 0, z0), (.getfield 164, 3, 2, 2, 0, 0, 0, z0), (.if_icmp .ge (42), 3, 68, 0, 0, 0, 0, z0), (.aload_n 0, 1, 0, 0, 0, 0, 0, z0), (.getfield 28, 3, 8, 2, 0, 0, 0, z0), (.getfield 86, 3, 3, 1, 0, 0, 0, z0), (.iload_n 2, 1, 0, 0, 0, 0, 0, z0), (.baload, 1, 2, 0, 0, 0, 0, z0), (.ifCond .eq (24), 3, 62, 0, 0, 0, 0, z0), (.aload_n 0, 1, 0, 0, 0, 0, 0, z0), (.getfield 28, 3, 8, 2, 0, 0, 0, z0), (.getfield 90, 3, 3, 0, 0, 0, 0, z0), (.iload_n 2, 1, 0, 0, 0, 0, 0, z0), (.aaload, 1, 3, 0, 0, 0, 0, z0), (.aload_n 0, 1, 0, 0, 0, 0, 0, z0), (.getfield 14, 3, 8, 0, 0, 0, 0, z0), (.invokevirtual 270, 3, 1, 0, 0, 0, 0, mRow_same), (.ifCond .eq (5), 3, 62, 0, 0, 0, 0, z0), (.iload_n 2, 1, 0, 0, 0, 0, 0, z0), (.ireturn, 1, 0, 0, 0, 0, 0, z0)]
def qD_fileAt_62 : List zIns := [(.iinc 2 (1), 3, 1, 0, 0, 0, 0, z0), (.goto (-47), 3, 18, 0, 0, 0, 0, z0)]
def qD_fileAt_68 : List zIns := [(.iconst (-1), 1, 1, 0, 1, 0, 0, z0), (.ireturn, 1, 0, 0, 0, 0, 0, z0)]
def cdD_fileAt : zCd := fun a => match a with
  | 0 => some qD_fileAt_0
  | 18 => some qD_fileAt_18
  | 62 => some qD_fileAt_62
  | 68 => some qD_fileAt_68
  | _ => none
set_option maxRecDepth 100000 in
theorem bD_fileAt_0 : zcode (mD_fileAt) 0 qD_fileAt_0 := zcode_of (by decide +kernel) (zoks_cons rfl (zoks_cons (And.intro rfl kF5) (zoks_cons rfl (zoks_cons (And.intro rfl kF3) (zoks_cons rfl (zoks_cons rfl (zoks_cons (And.intro rfl kF1) (zoks_cons (And.intro rfl kV21) (zoks_cons (And.intro rfl (by decide)) (zoks_cons rfl trivial))))))))))
set_option maxRecDepth 100000 in
theorem bD_fileAt_18 : zcode (mD_fileAt) 18 qD_fileAt_18 := zcode_of (by decide +kernel) (zoks_cons rfl (zoks_cons rfl (zoks_cons (And.intro rfl kF1) (zoks_cons (And.intro rfl kF11) (zoks_cons (And.intro rfl (by decide)) (zoks_cons rfl (zoks_cons (And.intro rfl kF5) (zoks_cons (And.intro rfl kF6) (zoks_cons rfl (zoks_cons (And.intro rfl rfl) (zoks_cons (And.intro rfl (by decide)) (zoks_cons rfl (zoks_cons (And.intro rfl kF5) (zoks_cons (And.intro rfl kF7) (zoks_cons rfl (zoks_cons (And.intro rfl ⟨_, rfl⟩) (zoks_cons rfl (zoks_cons (And.intro rfl kF0) (zoks_cons (And.intro rfl kV40) (zoks_cons (And.intro rfl (by decide)) (zoks_cons rfl (zoks_cons (And.intro rfl (Or.inl ⟨rfl, rfl⟩)) trivial))))))))))))))))))))))
set_option maxRecDepth 100000 in
theorem bD_fileAt_62 : zcode (mD_fileAt) 62 qD_fileAt_62 := zcode_of (by decide +kernel) (zoks_cons (And.intro rfl (by decide)) (zoks_cons (And.intro rfl (by decide)) trivial))
set_option maxRecDepth 100000 in
theorem bD_fileAt_68 : zcode (mD_fileAt) 68 qD_fileAt_68 := zcode_of (by decide +kernel) (zoks_cons (And.intro rfl (by decide)) (zoks_cons (And.intro rfl (Or.inl ⟨rfl, rfl⟩)) trivial))
theorem kD_fileAt : zcd (mD_fileAt) cdD_fileAt := by
  intro a is h
  unfold cdD_fileAt at h
  split at h
  · cases h; exact bD_fileAt_0
  · cases h; exact bD_fileAt_18
  · cases h; exact bD_fileAt_62
  · cases h; exact bD_fileAt_68
  · cases h
def qD_refusalToJoin_0 : List zIns := [(.aload_n 0, 1, 0, 0, 0, 0, 0, z0), (.iload_n 1, 1, 0, 0, 0, 0, 0, z0), (.iload_n 3, 1, 0, 0, 0, 0, 0, z0), (.invokevirtual 78, 3, 2, 8, 0, 0, 0, mD_isMapped), (.ifCond .ne (6), 3, 12, 0, 0, 0, 0, z0), (.bipush (-2), 2, 2, 0, 1, 0, 0, z0), (.ireturn, 1, 0, 0, 0, 0, 0, z0)]
def qD_refusalToJoin_12 : List zIns := [(.aload_n 0, 1, 0, 0, 0, 0, 0, z0), (.getfield 35, 3, 8, 3, 0, 0, 0, z0), (.getfield 178, 3, 6, 1, 0, 0, 0, z0), (.iload_n 2, 1, 0, 0, 0, 0, 0, z0), (.aaload, 1, 5, 0, 0, 0, 0, z0), (.astore 4, 2, 0, 0, 0, 0, 0, z0), (.aload_n 0, 1, 0, 0, 0, 0, 0, z0), (.iload_n 2, 1, 0, 0, 0, 0, 0, z0), (.invokevirtual 113, 3, 1, 8, 0, 0, 0, mD_isGone), (.ifCond .eq (6), 3, 34, 0, 0, 0, 0, z0), (.bipush (-3), 2, 3, 0, 1, 0, 0, z0), (.ireturn, 1, 0, 0, 0, 0, 0, z0)]
def qD_refusalToJoin_34 : List zIns := [(.aload_n 0, 1, 0, 0, 0, 0, 0, z0), (.getfield 35, 3, 8, 3, 0, 0, 0, z0), (.iload_n 2, 1, 0, 0, 0, 0, 0, z0), (.iload_n 3, 1, 0, 0, 0, 0, 0, z0), (.invokevirtual 260, 3, 2, 6, 0, 0, 0, mSta_joinedUpTo), (.aload 4, 2, 0, 0, 0, 0, 0, z0), (.getfield 191, 3, 4, 0, 0, 0, 0, z0), (.if_icmp .ne (6), 3, 54, 0, 0, 0, 0, z0), (.bipush (-4), 2, 4, 0, 1, 0, 0, z0), (.ireturn, 1, 0, 0, 0, 0, 0, z0)]
def qD_refusalToJoin_54 : List zIns := [(.aload_n 0, 1, 0, 0, 0, 0, 0, z0), (.getfield 35, 3, 8, 3, 0, 0, 0, z0), (.iload_n 1, 1, 0, 0, 0, 0, 0, z0), (.iload_n 3, 1, 0, 0, 0, 0, 0, z0), (.invokevirtual 109, 3, 2, 6, 0, 0, 0, mSta_work), (.astore 5, 2, 0, 0, 0, 0, 0, z0), (.aload 5, 2, 0, 0, 0, 0, 0, z0), (.invokevirtual 122, 3, 0, 5, 0, 0, 0, mWork_isOpen), (.ifCond .eq (37), 3, 107, 0, 0, 0, 0, z0), (.aload 5, 2, 0, 0, 0, 0, 0, z0), (.getfield 141, 3, 5, 2, 0, 0, 0, z0), (.iconst (2), 1, 2, 0, 0, 0, 0, z0), (.if_icmp .ne (25), 3, 104, 0, 0, 0, 0, z0), (.aload 5, 2, 0, 0, 0, 0, 0, z0), (.getfield 202, 3, 5, 7, 0, 0, 0, z0), (.iconst (-1), 1, 1, 0, 1, 0, 0, z0), (.if_icmp .ne (16), 3, 104, 0, 0, 0, 0, z0), (.aload 5, 2, 0, 0, 0, 0, 0, z0), (.getfield 274, 3, 5, 9, 0, 0, 0, z0), (.iconst (-1), 1, 1, 0, 1, 0, 0, z0), (.if_icmp .ne (7), 3, 104, 0, 0, 0, 0, z0), (.iconst (0), 1, 0, 0, 0, 0, 0, z0), (.goto (5), 3, 106, 0, 0, 0, 0, z0)]
def qD_refusalToJoin_104 : List zIns := [(.bipush (-5), 2, 5, 0, 1, 0, 0, z0)]
def qD_refusalToJoin_106 : List zIns := [(.ireturn, 1, 0, 0, 0, 0, 0, z0)]
def qD_refusalToJoin_107 : List zIns := [(.aload_n 0, 1, 0, 0, 0, 0, 0, z0), (.iload_n 3, 1, 0, 0, 0, 0, 0, z0), (.invokevirtual 113, 3, 1, 8, 0, 0, 0, mD_isGone), (.ifCond .eq (7), 3, 119, 0, 0, 0, 0, z0), (.iconst (0), 1, 0, 0, 0, 0, 0, z0), (.goto (15), 3, 131, 0, 0, 0, 0, z0)]
def qD_refusalToJoin_119 : List zIns := [(.aload_n 0, 1, 0, 0, 0, 0, 0, z0), (.getfield 35, 3, 8, 3, 0, 0, 0, z0), (.getfield 178, 3, 6, 1, 0, 0, 0, z0), (.iload_n 3, 1, 0, 0, 0, 0, 0, z0), (.aaload, 1, 5, 0, 0, 0, 0, z0), (.getfield 191, 3, 4, 0, 0, 0, 0, z0)]
def qD_refusalToJoin_131 : List zIns := [(.istore 6, 2, 0, 0, 0, 0, 0, z0), (.aload 5, 2, 0, 0, 0, 0, 0, z0), (.getfield 116, 3, 5, 0, 0, 0, 0, z0), (.iload 6, 2, 0, 0, 0, 0, 0, z0), (.if_icmp .eq (6), 3, 146, 0, 0, 0, 0, z0), (.bipush (-6), 2, 6, 0, 1, 0, 0, z0), (.ireturn, 1, 0, 0, 0, 0, 0, z0)]
def qD_refusalToJoin_146 : List zIns := [(.aload_n 0, 1, 0, 0, 0, 0, 0, z0), (.iload_n 1, 1, 0, 0, 0, 0, 0, z0), (.iload_n 3, 1, 0, 0, 0, 0, 0, z0), (.aload_n 0, 1, 0, 0, 0, 0, 0, z0), (.iload_n 3, 1, 0, 0, 0, 0, 0, z0), (.invokevirtual 113, 3, 1, 8, 0, 0, 0, mD_isGone), (.ifCond .eq (15), 3, 169, 0, 0, 0, 0, z0), (.aload 4, 2, 0, 0, 0, 0, 0, z0), (.getfield 182, 3, 4, 4, 0, 0, 0, z0), (.ifCond .eq (7), 3, 169, 0, 0, 0, 0, z0), (.iconst (1), 1, 1, 0, 0, 0, 0, z0), (.goto (4), 3, 170, 0, 0, 0, 0, z0)]
def qD_refusalToJoin_169 : List zIns := [(.iconst (0), 1, 0, 0, 0, 0, 0, z0)]
def qD_refusalToJoin_170 : List zIns := [(.invokevirtual 126, 3, 3, 8, 0, 0, 0, mD_isHindered), (.ifCond .eq (8), 3, 181, 0, 0, 0, 0, z0), (.bipush (-7), 2, 7, 0, 1, 0, 0, z0), (.goto (4), 3, 182, 0, 0, 0, 0, z0)]
def qD_refusalToJoin_181 : List zIns := [(.iconst (0), 1, 0, 0, 0, 0, 0, z0)]
def qD_refusalToJoin_182 : List zIns := [(.ireturn, 1, 0, 0, 0, 0, 0, z0)]
def cdD_refusalToJoin : zCd := fun a => match a with
  | 0 => some qD_refusalToJoin_0
  | 12 => some qD_refusalToJoin_12
  | 34 => some qD_refusalToJoin_34
  | 54 => some qD_refusalToJoin_54
  | 104 => some qD_refusalToJoin_104
  | 106 => some qD_refusalToJoin_106
  | 107 => some qD_refusalToJoin_107
  | 119 => some qD_refusalToJoin_119
  | 131 => some qD_refusalToJoin_131
  | 146 => some qD_refusalToJoin_146
  | 169 => some qD_refusalToJoin_169
  | 170 => some qD_refusalToJoin_170
  | 181 => some qD_refusalToJoin_181
  | 182 => some qD_refusalToJoin_182
  | _ => none
set_option maxRecDepth 100000 in
theorem bD_refusalToJoin_0 : zcode (mD_refusalToJoin) 0 qD_refusalToJoin_0 := zcode_of (by decide +kernel) (zoks_cons rfl (zoks_cons rfl (zoks_cons rfl (zoks_cons (And.intro rfl kV7) (zoks_cons (And.intro rfl (by decide)) (zoks_cons (And.intro rfl (by decide)) (zoks_cons (And.intro rfl (Or.inl ⟨rfl, rfl⟩)) trivial)))))))
set_option maxRecDepth 100000 in
theorem bD_refusalToJoin_12 : zcode (mD_refusalToJoin) 12 qD_refusalToJoin_12 := zcode_of (by decide +kernel) (zoks_cons rfl (zoks_cons (And.intro rfl kF3) (zoks_cons (And.intro rfl kF12) (zoks_cons rfl (zoks_cons (And.intro rfl ⟨_, rfl⟩) (zoks_cons rfl (zoks_cons rfl (zoks_cons rfl (zoks_cons (And.intro rfl kV13) (zoks_cons (And.intro rfl (by decide)) (zoks_cons (And.intro rfl (by decide)) (zoks_cons (And.intro rfl (Or.inl ⟨rfl, rfl⟩)) trivial))))))))))))
set_option maxRecDepth 100000 in
theorem bD_refusalToJoin_34 : zcode (mD_refusalToJoin) 34 qD_refusalToJoin_34 := zcode_of (by decide +kernel) (zoks_cons rfl (zoks_cons (And.intro rfl kF3) (zoks_cons rfl (zoks_cons rfl (zoks_cons (And.intro rfl kV38) (zoks_cons rfl (zoks_cons (And.intro rfl kF15) (zoks_cons (And.intro rfl (by decide)) (zoks_cons (And.intro rfl (by decide)) (zoks_cons (And.intro rfl (Or.inl ⟨rfl, rfl⟩)) trivial))))))))))
set_option maxRecDepth 100000 in
theorem bD_refusalToJoin_54 : zcode (mD_refusalToJoin) 54 qD_refusalToJoin_54 := zcode_of (by decide +kernel) (zoks_cons rfl (zoks_cons (And.intro rfl kF3) (zoks_cons rfl (zoks_cons rfl (zoks_cons (And.intro rfl kV12) (zoks_cons rfl (zoks_cons rfl (zoks_cons (And.intro rfl kV14) (zoks_cons (And.intro rfl (by decide)) (zoks_cons rfl (zoks_cons (And.intro rfl kF9) (zoks_cons (And.intro rfl (by decide)) (zoks_cons (And.intro rfl (by decide)) (zoks_cons rfl (zoks_cons (And.intro rfl kF22) (zoks_cons (And.intro rfl (by decide)) (zoks_cons (And.intro rfl (by decide)) (zoks_cons rfl (zoks_cons (And.intro rfl kF23) (zoks_cons (And.intro rfl (by decide)) (zoks_cons (And.intro rfl (by decide)) (zoks_cons (And.intro rfl (by decide)) (zoks_cons (And.intro rfl (by decide)) trivial)))))))))))))))))))))))
set_option maxRecDepth 100000 in
theorem bD_refusalToJoin_104 : zcode (mD_refusalToJoin) 104 qD_refusalToJoin_104 := zcode_of (by decide +kernel) (zoks_cons (And.intro rfl (by decide)) trivial)
set_option maxRecDepth 100000 in
theorem bD_refusalToJoin_106 : zcode (mD_refusalToJoin) 106 qD_refusalToJoin_106 := zcode_of (by decide +kernel) (zoks_cons (And.intro rfl (Or.inl ⟨rfl, rfl⟩)) trivial)
set_option maxRecDepth 100000 in
theorem bD_refusalToJoin_107 : zcode (mD_refusalToJoin) 107 qD_refusalToJoin_107 := zcode_of (by decide +kernel) (zoks_cons rfl (zoks_cons rfl (zoks_cons (And.intro rfl kV13) (zoks_cons (And.intro rfl (by decide)) (zoks_cons (And.intro rfl (by decide)) (zoks_cons (And.intro rfl (by decide)) trivial))))))
set_option maxRecDepth 100000 in
theorem bD_refusalToJoin_119 : zcode (mD_refusalToJoin) 119 qD_refusalToJoin_119 := zcode_of (by decide +kernel) (zoks_cons rfl (zoks_cons (And.intro rfl kF3) (zoks_cons (And.intro rfl kF12) (zoks_cons rfl (zoks_cons (And.intro rfl ⟨_, rfl⟩) (zoks_cons (And.intro rfl kF15) trivial))))))
set_option maxRecDepth 100000 in
theorem bD_refusalToJoin_131 : zcode (mD_refusalToJoin) 131 qD_refusalToJoin_131 := zcode_of (by decide +kernel) (zoks_cons rfl (zoks_cons rfl (zoks_cons (And.intro rfl kF8) (zoks_cons rfl (zoks_cons (And.intro rfl (by decide)) (zoks_cons (And.intro rfl (by decide)) (zoks_cons (And.intro rfl (Or.inl ⟨rfl, rfl⟩)) trivial)))))))
set_option maxRecDepth 100000 in
theorem bD_refusalToJoin_146 : zcode (mD_refusalToJoin) 146 qD_refusalToJoin_146 := zcode_of (by decide +kernel) (zoks_cons rfl (zoks_cons rfl (zoks_cons rfl (zoks_cons rfl (zoks_cons rfl (zoks_cons (And.intro rfl kV13) (zoks_cons (And.intro rfl (by decide)) (zoks_cons rfl (zoks_cons (And.intro rfl kF13) (zoks_cons (And.intro rfl (by decide)) (zoks_cons (And.intro rfl (by decide)) (zoks_cons (And.intro rfl (by decide)) trivial))))))))))))
set_option maxRecDepth 100000 in
theorem bD_refusalToJoin_169 : zcode (mD_refusalToJoin) 169 qD_refusalToJoin_169 := zcode_of (by decide +kernel) (zoks_cons (And.intro rfl (by decide)) trivial)
set_option maxRecDepth 100000 in
theorem bD_refusalToJoin_170 : zcode (mD_refusalToJoin) 170 qD_refusalToJoin_170 := zcode_of (by decide +kernel) (zoks_cons (And.intro rfl kV15) (zoks_cons (And.intro rfl (by decide)) (zoks_cons (And.intro rfl (by decide)) (zoks_cons (And.intro rfl (by decide)) trivial))))
set_option maxRecDepth 100000 in
theorem bD_refusalToJoin_181 : zcode (mD_refusalToJoin) 181 qD_refusalToJoin_181 := zcode_of (by decide +kernel) (zoks_cons (And.intro rfl (by decide)) trivial)
set_option maxRecDepth 100000 in
theorem bD_refusalToJoin_182 : zcode (mD_refusalToJoin) 182 qD_refusalToJoin_182 := zcode_of (by decide +kernel) (zoks_cons (And.intro rfl (Or.inl ⟨rfl, rfl⟩)) trivial)
theorem kD_refusalToJoin : zcd (mD_refusalToJoin) cdD_refusalToJoin := by
  intro a is h
  unfold cdD_refusalToJoin at h
  split at h
  · cases h; exact bD_refusalToJoin_0
  · cases h; exact bD_refusalToJoin_12
  · cases h; exact bD_refusalToJoin_34
  · cases h; exact bD_refusalToJoin_54
  · cases h; exact bD_refusalToJoin_104
  · cases h; exact bD_refusalToJoin_106
  · cases h; exact bD_refusalToJoin_107
  · cases h; exact bD_refusalToJoin_119
  · cases h; exact bD_refusalToJoin_131
  · cases h; exact bD_refusalToJoin_146
  · cases h; exact bD_refusalToJoin_169
  · cases h; exact bD_refusalToJoin_170
  · cases h; exact bD_refusalToJoin_181
  · cases h; exact bD_refusalToJoin_182
  · cases h
def qD_refusalToSubmit_0 : List zIns := [(.iconst (0), 1, 0, 0, 0, 0, 0, z0), (.istore_n 3, 1, 0, 0, 0, 0, 0, z0), (.iconst (0), 1, 0, 0, 0, 0, 0, z0), (.istore 4, 2, 0, 0, 0, 0, 0, z0), (.iconst (0), 1, 0, 0, 0, 0, 0, z0), (.istore 5, 2, 0, 0, 0, 0, 0, z0), (.iconst (0), 1, 0, 0, 0, 0, 0, z0), (.istore 6, 2, 0, 0, 0, 0, 0, z0)]
def qD_refusalToSubmit_11 : List zIns := [(.iload 6, 2, 0, 0, 0, 0, 0, z0), (.aload_n 0, 1, 0, 0, 0, 0, 0, z0), (.getfield 21, 3, 8, 1, 0, 0, 0, z0), (.getfield 164, 3, 2, 2, 0, 0, 0, z0), (.if_icmp .ge (76), 3, 96, 0, 0, 0, 0, z0), (.aload_n 0, 1, 0, 0, 0, 0, 0, z0), (.getfield 35, 3, 8, 3, 0, 0, 0, z0), (.iload_n 1, 1, 0, 0, 0, 0, 0, z0), (.iload 6, 2, 0, 0, 0, 0, 0, z0), (.invokevirtual 109, 3, 2, 6, 0, 0, 0, mSta_work), (.astore 7, 2, 0, 0, 0, 0, 0, z0), (.aload 7, 2, 0, 0, 0, 0, 0, z0), (.iload_n 2, 1, 0, 0, 0, 0, 0, z0), (.invokevirtual 232, 3, 1, 5, 0, 0, 0, mWork_isOn), (.ifCond .eq (49), 3, 90, 0, 0, 0, 0, z0), (.iinc 3 (1), 3, 1, 0, 0, 0, 0, z0), (.iload 4, 2, 0, 0, 0, 0, 0, z0), (.ifCond .ne (14), 3, 63, 0, 0, 0, 0, z0), (.aload_n 0, 1, 0, 0, 0, 0, 0, z0), (.aload 7, 2, 0, 0, 0, 0, 0, z0), (.iload 6, 2, 0, 0, 0, 0, 0, z0), (.invokevirtual 277, 3, 2, 8, 0, 0, 0, mD_isOutdated), (.ifCond .eq (7), 3, 67, 0, 0, 0, 0, z0)]
def qD_refusalToSubmit_63 : List zIns := [(.iconst (1), 1, 1, 0, 0, 0, 0, z0), (.goto (4), 3, 68, 0, 0, 0, 0, z0)]
def qD_refusalToSubmit_67 : List zIns := [(.iconst (0), 1, 0, 0, 0, 0, 0, z0)]
def qD_refusalToSubmit_68 : List zIns := [(.istore 4, 2, 0, 0, 0, 0, 0, z0), (.iload 5, 2, 0, 0, 0, 0, 0, z0), (.ifCond .ne (11), 3, 83, 0, 0, 0, 0, z0), (.aload 7, 2, 0, 0, 0, 0, 0, z0), (.invokevirtual 208, 3, 0, 5, 0, 0, 0, mWork_owes), (.ifCond .eq (7), 3, 87, 0, 0, 0, 0, z0)]
def qD_refusalToSubmit_83 : List zIns := [(.iconst (1), 1, 1, 0, 0, 0, 0, z0), (.goto (4), 3, 88, 0, 0, 0, 0, z0)]
def qD_refusalToSubmit_87 : List zIns := [(.iconst (0), 1, 0, 0, 0, 0, 0, z0)]
def qD_refusalToSubmit_88 : List zIns := [(.istore 5, 2, 0, 0, 0, 0, 0, z0)]
def qD_refusalToSubmit_90 : List zIns := [(.iinc 6 (1), 3, 1, 0, 0, 0, 0, z0), (.goto (-82), 3, 11, 0, 0, 0, 0, z0)]
def qD_refusalToSubmit_96 : List zIns := [(.iload_n 3, 1, 0, 0, 0, 0, 0, z0), (.ifCond .ne (6), 3, 103, 0, 0, 0, 0, z0), (.bipush (-2), 2, 2, 0, 1, 0, 0, z0), (.ireturn, 1, 0, 0, 0, 0, 0, z0)]
def qD_refusalToSubmit_103 : List zIns := [(.iload 4, 2, 0, 0, 0, 0, 0, z0), (.ifCond .eq (6), 3, 111, 0, 0, 0, 0, z0), (.bipush (-3), 2, 3, 0, 1, 0, 0, z0), (.ireturn, 1, 0, 0, 0, 0, 0, z0)]
def qD_refusalToSubmit_111 : List zIns := [(.iload 5, 2, 0, 0, 0, 0, 0, z0), (.ifCond .eq (6), 3, 119, 0, 0, 0, 0, z0), (.bipush (-4), 2, 4, 0, 1, 0, 0, z0), (.ireturn, 1, 0, 0, 0, 0, 0, z0)]
def qD_refusalToSubmit_119 : List zIns := [(.aload_n 0, 1, 0, 0, 0, 0, 0, z0), (.getfield 35, 3, 8, 3, 0, 0, 0, z0), (.getfield 281, 3, 6, 2, 0, 0, 0, z0), (.iload_n 3, 1, 0, 0, 0, 0, 0, z0), (.iadd, 1, 0, 0, 0, 0, 0, z0), (.bipush (48), 2, 48, 0, 0, 0, 0, z0), (.if_icmp .le (8), 3, 138, 0, 0, 0, 0, z0), (.bipush (-5), 2, 5, 0, 1, 0, 0, z0), (.goto (4), 3, 139, 0, 0, 0, 0, z0)]
def qD_refusalToSubmit_138 : List zIns := [(.iconst (0), 1, 0, 0, 0, 0, 0, z0)]
def qD_refusalToSubmit_139 : List zIns := [(.ireturn, 1, 0, 0, 0, 0, 0, z0)]
def cdD_refusalToSubmit : zCd := fun a => match a with
  | 0 => some qD_refusalToSubmit_0
  | 11 => some qD_refusalToSubmit_11
  | 63 => some qD_refusalToSubmit_63
  | 67 => some qD_refusalToSubmit_67
  | 68 => some qD_refusalToSubmit_68
  | 83 => some qD_refusalToSubmit_83
  | 87 => some qD_refusalToSubmit_87
  | 88 => some qD_refusalToSubmit_88
  | 90 => some qD_refusalToSubmit_90
  | 96 => some qD_refusalToSubmit_96
  | 103 => some qD_refusalToSubmit_103
  | 111 => some qD_refusalToSubmit_111
  | 119 => some qD_refusalToSubmit_119
  | 138 => some qD_refusalToSubmit_138
  | 139 => some qD_refusalToSubmit_139
  | _ => none
set_option maxRecDepth 100000 in
theorem bD_refusalToSubmit_0 : zcode (mD_refusalToSubmit) 0 qD_refusalToSubmit_0 := zcode_of (by decide +kernel) (zoks_cons (And.intro rfl (by decide)) (zoks_cons rfl (zoks_cons (And.intro rfl (by decide)) (zoks_cons rfl (zoks_cons (And.intro rfl (by decide)) (zoks_cons rfl (zoks_cons (And.intro rfl (by decide)) (zoks_cons rfl trivial))))))))
set_option maxRecDepth 100000 in
theorem bD_refusalToSubmit_11 : zcode (mD_refusalToSubmit) 11 qD_refusalToSubmit_11 := zcode_of (by decide +kernel) (zoks_cons rfl (zoks_cons rfl (zoks_cons (And.intro rfl kF1) (zoks_cons (And.intro rfl kF11) (zoks_cons (And.intro rfl (by decide)) (zoks_cons rfl (zoks_cons (And.intro rfl kF3) (zoks_cons rfl (zoks_cons rfl (zoks_cons (And.intro rfl kV12) (zoks_cons rfl (zoks_cons rfl (zoks_cons rfl (zoks_cons (And.intro rfl kV32) (zoks_cons (And.intro rfl (by decide)) (zoks_cons (And.intro rfl (by decide)) (zoks_cons rfl (zoks_cons (And.intro rfl (by decide)) (zoks_cons rfl (zoks_cons rfl (zoks_cons rfl (zoks_cons (And.intro rfl kV41) (zoks_cons (And.intro rfl (by decide)) trivial)))))))))))))))))))))))
set_option maxRecDepth 100000 in
theorem bD_refusalToSubmit_63 : zcode (mD_refusalToSubmit) 63 qD_refusalToSubmit_63 := zcode_of (by decide +kernel) (zoks_cons (And.intro rfl (by decide)) (zoks_cons (And.intro rfl (by decide)) trivial))
set_option maxRecDepth 100000 in
theorem bD_refusalToSubmit_67 : zcode (mD_refusalToSubmit) 67 qD_refusalToSubmit_67 := zcode_of (by decide +kernel) (zoks_cons (And.intro rfl (by decide)) trivial)
set_option maxRecDepth 100000 in
theorem bD_refusalToSubmit_68 : zcode (mD_refusalToSubmit) 68 qD_refusalToSubmit_68 := zcode_of (by decide +kernel) (zoks_cons rfl (zoks_cons rfl (zoks_cons (And.intro rfl (by decide)) (zoks_cons rfl (zoks_cons (And.intro rfl kV27) (zoks_cons (And.intro rfl (by decide)) trivial))))))
set_option maxRecDepth 100000 in
theorem bD_refusalToSubmit_83 : zcode (mD_refusalToSubmit) 83 qD_refusalToSubmit_83 := zcode_of (by decide +kernel) (zoks_cons (And.intro rfl (by decide)) (zoks_cons (And.intro rfl (by decide)) trivial))
set_option maxRecDepth 100000 in
theorem bD_refusalToSubmit_87 : zcode (mD_refusalToSubmit) 87 qD_refusalToSubmit_87 := zcode_of (by decide +kernel) (zoks_cons (And.intro rfl (by decide)) trivial)
set_option maxRecDepth 100000 in
theorem bD_refusalToSubmit_88 : zcode (mD_refusalToSubmit) 88 qD_refusalToSubmit_88 := zcode_of (by decide +kernel) (zoks_cons rfl trivial)
set_option maxRecDepth 100000 in
theorem bD_refusalToSubmit_90 : zcode (mD_refusalToSubmit) 90 qD_refusalToSubmit_90 := zcode_of (by decide +kernel) (zoks_cons (And.intro rfl (by decide)) (zoks_cons (And.intro rfl (by decide)) trivial))
set_option maxRecDepth 100000 in
theorem bD_refusalToSubmit_96 : zcode (mD_refusalToSubmit) 96 qD_refusalToSubmit_96 := zcode_of (by decide +kernel) (zoks_cons rfl (zoks_cons (And.intro rfl (by decide)) (zoks_cons (And.intro rfl (by decide)) (zoks_cons (And.intro rfl (Or.inl ⟨rfl, rfl⟩)) trivial))))
set_option maxRecDepth 100000 in
theorem bD_refusalToSubmit_103 : zcode (mD_refusalToSubmit) 103 qD_refusalToSubmit_103 := zcode_of (by decide +kernel) (zoks_cons rfl (zoks_cons (And.intro rfl (by decide)) (zoks_cons (And.intro rfl (by decide)) (zoks_cons (And.intro rfl (Or.inl ⟨rfl, rfl⟩)) trivial))))
set_option maxRecDepth 100000 in
theorem bD_refusalToSubmit_111 : zcode (mD_refusalToSubmit) 111 qD_refusalToSubmit_111 := zcode_of (by decide +kernel) (zoks_cons rfl (zoks_cons (And.intro rfl (by decide)) (zoks_cons (And.intro rfl (by decide)) (zoks_cons (And.intro rfl (Or.inl ⟨rfl, rfl⟩)) trivial))))
set_option maxRecDepth 100000 in
theorem bD_refusalToSubmit_119 : zcode (mD_refusalToSubmit) 119 qD_refusalToSubmit_119 := zcode_of (by decide +kernel) (zoks_cons rfl (zoks_cons (And.intro rfl kF3) (zoks_cons (And.intro rfl kF24) (zoks_cons rfl (zoks_cons rfl (zoks_cons (And.intro rfl (by decide)) (zoks_cons (And.intro rfl (by decide)) (zoks_cons (And.intro rfl (by decide)) (zoks_cons (And.intro rfl (by decide)) trivial)))))))))
set_option maxRecDepth 100000 in
theorem bD_refusalToSubmit_138 : zcode (mD_refusalToSubmit) 138 qD_refusalToSubmit_138 := zcode_of (by decide +kernel) (zoks_cons (And.intro rfl (by decide)) trivial)
set_option maxRecDepth 100000 in
theorem bD_refusalToSubmit_139 : zcode (mD_refusalToSubmit) 139 qD_refusalToSubmit_139 := zcode_of (by decide +kernel) (zoks_cons (And.intro rfl (Or.inl ⟨rfl, rfl⟩)) trivial)
theorem kD_refusalToSubmit : zcd (mD_refusalToSubmit) cdD_refusalToSubmit := by
  intro a is h
  unfold cdD_refusalToSubmit at h
  split at h
  · cases h; exact bD_refusalToSubmit_0
  · cases h; exact bD_refusalToSubmit_11
  · cases h; exact bD_refusalToSubmit_63
  · cases h; exact bD_refusalToSubmit_67
  · cases h; exact bD_refusalToSubmit_68
  · cases h; exact bD_refusalToSubmit_83
  · cases h; exact bD_refusalToSubmit_87
  · cases h; exact bD_refusalToSubmit_88
  · cases h; exact bD_refusalToSubmit_90
  · cases h; exact bD_refusalToSubmit_96
  · cases h; exact bD_refusalToSubmit_103
  · cases h; exact bD_refusalToSubmit_111
  · cases h; exact bD_refusalToSubmit_119
  · cases h; exact bD_refusalToSubmit_138
  · cases h; exact bD_refusalToSubmit_139
  · cases h
def qD_isOutdated_0 : List zIns := [(.aload_n 1, 1, 0, 0, 0, 0, 0, z0), (.getfield 141, 3, 5, 2, 0, 0, 0, z0), (.iconst (1), 1, 1, 0, 0, 0, 0, z0), (.if_icmp .ne (19), 3, 24, 0, 0, 0, 0, z0), (.aload_n 0, 1, 0, 0, 0, 0, 0, z0), (.iload_n 2, 1, 0, 0, 0, 0, 0, z0), (.invokevirtual 113, 3, 1, 8, 0, 0, 0, mD_isGone), (.ifCond .ne (7), 3, 20, 0, 0, 0, 0, z0), (.iconst (1), 1, 1, 0, 0, 0, 0, z0), (.goto (31), 3, 48, 0, 0, 0, 0, z0)]
def qD_isOutdated_20 : List zIns := [(.iconst (0), 1, 0, 0, 0, 0, 0, z0), (.goto (27), 3, 48, 0, 0, 0, 0, z0)]
def qD_isOutdated_24 : List zIns := [(.aload_n 1, 1, 0, 0, 0, 0, 0, z0), (.getfield 284, 3, 5, 4, 0, 0, 0, z0), (.aload_n 0, 1, 0, 0, 0, 0, 0, z0), (.getfield 35, 3, 8, 3, 0, 0, 0, z0), (.getfield 178, 3, 6, 1, 0, 0, 0, z0), (.iload_n 2, 1, 0, 0, 0, 0, 0, z0), (.aaload, 1, 5, 0, 0, 0, 0, z0), (.getfield 191, 3, 4, 0, 0, 0, 0, z0), (.if_icmp .eq (7), 3, 47, 0, 0, 0, 0, z0), (.iconst (1), 1, 1, 0, 0, 0, 0, z0), (.goto (4), 3, 48, 0, 0, 0, 0, z0)]
def qD_isOutdated_47 : List zIns := [(.iconst (0), 1, 0, 0, 0, 0, 0, z0)]
def qD_isOutdated_48 : List zIns := [(.ireturn, 1, 0, 0, 1, 0, 0, z0)]
def cdD_isOutdated : zCd := fun a => match a with
  | 0 => some qD_isOutdated_0
  | 20 => some qD_isOutdated_20
  | 24 => some qD_isOutdated_24
  | 47 => some qD_isOutdated_47
  | 48 => some qD_isOutdated_48
  | _ => none
set_option maxRecDepth 100000 in
theorem bD_isOutdated_0 : zcode (mD_isOutdated) 0 qD_isOutdated_0 := zcode_of (by decide +kernel) (zoks_cons rfl (zoks_cons (And.intro rfl kF9) (zoks_cons (And.intro rfl (by decide)) (zoks_cons (And.intro rfl (by decide)) (zoks_cons rfl (zoks_cons rfl (zoks_cons (And.intro rfl kV13) (zoks_cons (And.intro rfl (by decide)) (zoks_cons (And.intro rfl (by decide)) (zoks_cons (And.intro rfl (by decide)) trivial))))))))))
set_option maxRecDepth 100000 in
theorem bD_isOutdated_20 : zcode (mD_isOutdated) 20 qD_isOutdated_20 := zcode_of (by decide +kernel) (zoks_cons (And.intro rfl (by decide)) (zoks_cons (And.intro rfl (by decide)) trivial))
set_option maxRecDepth 100000 in
theorem bD_isOutdated_24 : zcode (mD_isOutdated) 24 qD_isOutdated_24 := zcode_of (by decide +kernel) (zoks_cons rfl (zoks_cons (And.intro rfl kF25) (zoks_cons rfl (zoks_cons (And.intro rfl kF3) (zoks_cons (And.intro rfl kF12) (zoks_cons rfl (zoks_cons (And.intro rfl ⟨_, rfl⟩) (zoks_cons (And.intro rfl kF15) (zoks_cons (And.intro rfl (by decide)) (zoks_cons (And.intro rfl (by decide)) (zoks_cons (And.intro rfl (by decide)) trivial)))))))))))
set_option maxRecDepth 100000 in
theorem bD_isOutdated_47 : zcode (mD_isOutdated) 47 qD_isOutdated_47 := zcode_of (by decide +kernel) (zoks_cons (And.intro rfl (by decide)) trivial)
set_option maxRecDepth 100000 in
theorem bD_isOutdated_48 : zcode (mD_isOutdated) 48 qD_isOutdated_48 := zcode_of (by decide +kernel) (zoks_cons (And.intro rfl (Or.inr (Or.inl ⟨rfl, rfl⟩))) trivial)
theorem kD_isOutdated : zcd (mD_isOutdated) cdD_isOutdated := by
  intro a is h
  unfold cdD_isOutdated at h
  split at h
  · cases h; exact bD_isOutdated_0
  · cases h; exact bD_isOutdated_20
  · cases h; exact bD_isOutdated_24
  · cases h; exact bD_isOutdated_47
  · cases h; exact bD_isOutdated_48
  · cases h
def qD_openHeldFor_0 : List zIns := [(.iload_n 2, 1, 0, 0, 0, 0, 0, z0), (.invokestatic 60, 3, 1, 0, 0, 0, 0, mD_isClient), (.ifCond .eq (19), 3, 23, 0, 0, 0, 0, z0), (.aload_n 0, 1, 0, 0, 0, 0, 0, z0), (.iload_n 3, 1, 0, 0, 0, 0, 0, z0), (.invokevirtual 75, 3, 1, 8, 0, 0, 0, mD_isFile), (.ifCond .eq (11), 3, 23, 0, 0, 0, 0, z0), (.iload 4, 2, 0, 0, 0, 0, 0, z0), (.invokestatic 106, 3, 1, 0, 0, 0, 0, mD_isList), (.ifCond .ne (5), 3, 25, 0, 0, 0, 0, z0)]
def qD_openHeldFor_23 : List zIns := [(.iconst (-1), 1, 1, 0, 1, 0, 0, z0), (.ireturn, 1, 0, 0, 0, 0, 0, z0)]
def qD_openHeldFor_25 : List zIns := [(.aload_n 0, 1, 0, 0, 0, 0, 0, z0), (.iload_n 2, 1, 0, 0, 0, 0, 0, z0), (.iload_n 3, 1, 0, 0, 0, 0, 0, z0), (.invokevirtual 78, 3, 2, 8, 0, 0, 0, mD_isMapped), (.ifCond .ne (6), 3, 37, 0, 0, 0, 0, z0), (.bipush (-2), 2, 2, 0, 1, 0, 0, z0), (.ireturn, 1, 0, 0, 0, 0, 0, z0)]
def qD_openHeldFor_37 : List zIns := [(.aload_n 0, 1, 0, 0, 0, 0, 0, z0), (.getfield 35, 3, 8, 3, 0, 0, 0, z0), (.iload_n 2, 1, 0, 0, 0, 0, 0, z0), (.iload_n 3, 1, 0, 0, 0, 0, 0, z0), (.invokevirtual 109, 3, 2, 6, 0, 0, 0, mSta_work), (.astore 5, 2, 0, 0, 0, 0, 0, z0), (.aload 5, 2, 0, 0, 0, 0, 0, z0), (.getfield 116, 3, 5, 0, 0, 0, 0, z0), (.ifCond .ne (6), 3, 59, 0, 0, 0, 0, z0), (.bipush (-3), 2, 3, 0, 1, 0, 0, z0), (.ireturn, 1, 0, 0, 0, 0, 0, z0)]
def qD_openHeldFor_59 : List zIns := [(.aload 5, 2, 0, 0, 0, 0, 0, z0), (.invokevirtual 122, 3, 0, 5, 0, 0, 0, mWork_isOpen), (.ifCond .eq (6), 3, 70, 0, 0, 0, 0, z0), (.bipush (-4), 2, 4, 0, 1, 0, 0, z0), (.ireturn, 1, 0, 0, 0, 0, 0, z0)]
def qD_openHeldFor_70 : List zIns := [(.aload_n 0, 1, 0, 0, 0, 0, 0, z0), (.iload_n 2, 1, 0, 0, 0, 0, 0, z0), (.iload_n 3, 1, 0, 0, 0, 0, 0, z0), (.iconst (0), 1, 0, 0, 0, 0, 0, z0), (.invokevirtual 126, 3, 3, 8, 0, 0, 0, mD_isHindered), (.ifCond .eq (6), 3, 83, 0, 0, 0, 0, z0), (.bipush (-5), 2, 5, 0, 1, 0, 0, z0), (.ireturn, 1, 0, 0, 0, 0, 0, z0)]
def qD_openHeldFor_83 : List zIns := [(.aload_n 0, 1, 0, 0, 0, 0, 0, z0), (.getfield 42, 3, 8, 4, 0, 0, 0, z0), (.aload_n 0, 1, 0, 0, 0, 0, 0, z0), (.getfield 35, 3, 8, 3, 0, 0, 0, z0), (.invokevirtual 67, 3, 1, 7, 0, 0, 0, mJou_note), (.aload 5, 2, 0, 0, 0, 0, 0, z0), (.iload_n 1, 1, 0, 0, 0, 0, 0, z0), (.iload 4, 2, 0, 0, 0, 0, 0, z0), (.invokevirtual 198, 3, 2, 5, 0, 0, 0, mWork_openHeld), (.iconst (0), 1, 0, 0, 0, 0, 0, z0), (.ireturn, 1, 0, 0, 0, 0, 0, z0)]
def cdD_openHeldFor : zCd := fun a => match a with
  | 0 => some qD_openHeldFor_0
  | 23 => some qD_openHeldFor_23
  | 25 => some qD_openHeldFor_25
  | 37 => some qD_openHeldFor_37
  | 59 => some qD_openHeldFor_59
  | 70 => some qD_openHeldFor_70
  | 83 => some qD_openHeldFor_83
  | _ => none
set_option maxRecDepth 100000 in
theorem bD_openHeldFor_0 : zcode (mD_openHeldFor) 0 qD_openHeldFor_0 := zcode_of (by decide +kernel) (zoks_cons rfl (zoks_cons (And.intro rfl kS0) (zoks_cons (And.intro rfl (by decide)) (zoks_cons rfl (zoks_cons rfl (zoks_cons (And.intro rfl kV6) (zoks_cons (And.intro rfl (by decide)) (zoks_cons rfl (zoks_cons (And.intro rfl kS1) (zoks_cons (And.intro rfl (by decide)) trivial))))))))))
set_option maxRecDepth 100000 in
theorem bD_openHeldFor_23 : zcode (mD_openHeldFor) 23 qD_openHeldFor_23 := zcode_of (by decide +kernel) (zoks_cons (And.intro rfl (by decide)) (zoks_cons (And.intro rfl (Or.inl ⟨rfl, rfl⟩)) trivial))
set_option maxRecDepth 100000 in
theorem bD_openHeldFor_25 : zcode (mD_openHeldFor) 25 qD_openHeldFor_25 := zcode_of (by decide +kernel) (zoks_cons rfl (zoks_cons rfl (zoks_cons rfl (zoks_cons (And.intro rfl kV7) (zoks_cons (And.intro rfl (by decide)) (zoks_cons (And.intro rfl (by decide)) (zoks_cons (And.intro rfl (Or.inl ⟨rfl, rfl⟩)) trivial)))))))
set_option maxRecDepth 100000 in
theorem bD_openHeldFor_37 : zcode (mD_openHeldFor) 37 qD_openHeldFor_37 := zcode_of (by decide +kernel) (zoks_cons rfl (zoks_cons (And.intro rfl kF3) (zoks_cons rfl (zoks_cons rfl (zoks_cons (And.intro rfl kV12) (zoks_cons rfl (zoks_cons rfl (zoks_cons (And.intro rfl kF8) (zoks_cons (And.intro rfl (by decide)) (zoks_cons (And.intro rfl (by decide)) (zoks_cons (And.intro rfl (Or.inl ⟨rfl, rfl⟩)) trivial)))))))))))
set_option maxRecDepth 100000 in
theorem bD_openHeldFor_59 : zcode (mD_openHeldFor) 59 qD_openHeldFor_59 := zcode_of (by decide +kernel) (zoks_cons rfl (zoks_cons (And.intro rfl kV14) (zoks_cons (And.intro rfl (by decide)) (zoks_cons (And.intro rfl (by decide)) (zoks_cons (And.intro rfl (Or.inl ⟨rfl, rfl⟩)) trivial)))))
set_option maxRecDepth 100000 in
theorem bD_openHeldFor_70 : zcode (mD_openHeldFor) 70 qD_openHeldFor_70 := zcode_of (by decide +kernel) (zoks_cons rfl (zoks_cons rfl (zoks_cons rfl (zoks_cons (And.intro rfl (by decide)) (zoks_cons (And.intro rfl kV15) (zoks_cons (And.intro rfl (by decide)) (zoks_cons (And.intro rfl (by decide)) (zoks_cons (And.intro rfl (Or.inl ⟨rfl, rfl⟩)) trivial))))))))
set_option maxRecDepth 100000 in
theorem bD_openHeldFor_83 : zcode (mD_openHeldFor) 83 qD_openHeldFor_83 := zcode_of (by decide +kernel) (zoks_cons rfl (zoks_cons (And.intro rfl kF2) (zoks_cons rfl (zoks_cons (And.intro rfl kF3) (zoks_cons (And.intro rfl kV5) (zoks_cons rfl (zoks_cons rfl (zoks_cons rfl (zoks_cons (And.intro rfl kV26) (zoks_cons (And.intro rfl (by decide)) (zoks_cons (And.intro rfl (Or.inl ⟨rfl, rfl⟩)) trivial)))))))))))
theorem kD_openHeldFor : zcd (mD_openHeldFor) cdD_openHeldFor := by
  intro a is h
  unfold cdD_openHeldFor at h
  split at h
  · cases h; exact bD_openHeldFor_0
  · cases h; exact bD_openHeldFor_23
  · cases h; exact bD_openHeldFor_25
  · cases h; exact bD_openHeldFor_37
  · cases h; exact bD_openHeldFor_59
  · cases h; exact bD_openHeldFor_70
  · cases h; exact bD_openHeldFor_83
  · cases h
def qD_wanted_0 : List zIns := [(.aload_n 0, 1, 0, 0, 0, 0, 0, z0), (.getfield 28, 3, 8, 2, 0, 0, 0, z0), (.iload_n 1, 1, 0, 0, 0, 0, 0, z0), (.invokevirtual 263, 3, 1, 3, 0, 0, 0, mPl_isFirst), (.ifCond .ne (5), 3, 13, 0, 0, 0, 0, z0), (.iconst (0), 1, 0, 0, 0, 0, 0, z0), (.ireturn, 1, 0, 0, 0, 0, 0, z0)]
def qD_wanted_13 : List zIns := [(.aload_n 0, 1, 0, 0, 0, 0, 0, z0), (.getfield 35, 3, 8, 3, 0, 0, 0, z0), (.getfield 178, 3, 6, 1, 0, 0, 0, z0), (.iload_n 1, 1, 0, 0, 0, 0, 0, z0), (.aaload, 1, 5, 0, 0, 0, 0, z0), (.iload_n 2, 1, 0, 0, 0, 0, 0, z0), (.invokevirtual 287, 3, 1, 4, 0, 0, 0, mRev_findBy), (.astore_n 3, 1, 0, 0, 0, 0, 0, z0), (.aload_n 3, 1, 0, 0, 0, 0, 0, z0), (.ifnull (10), 3, 38, 0, 0, 0, 0, z0), (.aload_n 3, 1, 0, 0, 0, 0, 0, z0), (.getfield 266, 3, 4, 3, 0, 0, 0, z0), (.ifCond .eq (7), 3, 42, 0, 0, 0, 0, z0)]
def qD_wanted_38 : List zIns := [(.iconst (0), 1, 0, 0, 0, 0, 0, z0), (.goto (7), 3, 46, 0, 0, 0, 0, z0)]
def qD_wanted_42 : List zIns := [(.aload_n 3, 1, 0, 0, 0, 0, 0, z0), (.getfield 191, 3, 4, 0, 0, 0, 0, z0)]
def qD_wanted_46 : List zIns := [(.ireturn, 1, 0, 0, 0, 0, 0, z0)]
def cdD_wanted : zCd := fun a => match a with
  | 0 => some qD_wanted_0
  | 13 => some qD_wanted_13
  | 38 => some qD_wanted_38
  | 42 => some qD_wanted_42
  | 46 => some qD_wanted_46
  | _ => none
set_option maxRecDepth 100000 in
theorem bD_wanted_0 : zcode (mD_wanted) 0 qD_wanted_0 := zcode_of (by decide +kernel) (zoks_cons rfl (zoks_cons (And.intro rfl kF5) (zoks_cons rfl (zoks_cons (And.intro rfl kV39) (zoks_cons (And.intro rfl (by decide)) (zoks_cons (And.intro rfl (by decide)) (zoks_cons (And.intro rfl (Or.inl ⟨rfl, rfl⟩)) trivial)))))))
set_option maxRecDepth 100000 in
theorem bD_wanted_13 : zcode (mD_wanted) 13 qD_wanted_13 := zcode_of (by decide +kernel) (zoks_cons rfl (zoks_cons (And.intro rfl kF3) (zoks_cons (And.intro rfl kF12) (zoks_cons rfl (zoks_cons (And.intro rfl ⟨_, rfl⟩) (zoks_cons rfl (zoks_cons (And.intro rfl kV42) (zoks_cons rfl (zoks_cons rfl (zoks_cons (And.intro rfl (by decide)) (zoks_cons rfl (zoks_cons (And.intro rfl kF20) (zoks_cons (And.intro rfl (by decide)) trivial)))))))))))))
set_option maxRecDepth 100000 in
theorem bD_wanted_38 : zcode (mD_wanted) 38 qD_wanted_38 := zcode_of (by decide +kernel) (zoks_cons (And.intro rfl (by decide)) (zoks_cons (And.intro rfl (by decide)) trivial))
set_option maxRecDepth 100000 in
theorem bD_wanted_42 : zcode (mD_wanted) 42 qD_wanted_42 := zcode_of (by decide +kernel) (zoks_cons rfl (zoks_cons (And.intro rfl kF15) trivial))
set_option maxRecDepth 100000 in
theorem bD_wanted_46 : zcode (mD_wanted) 46 qD_wanted_46 := zcode_of (by decide +kernel) (zoks_cons (And.intro rfl (Or.inl ⟨rfl, rfl⟩)) trivial)
theorem kD_wanted : zcd (mD_wanted) cdD_wanted := by
  intro a is h
  unfold cdD_wanted at h
  split at h
  · cases h; exact bD_wanted_0
  · cases h; exact bD_wanted_13
  · cases h; exact bD_wanted_38
  · cases h; exact bD_wanted_42
  · cases h; exact bD_wanted_46
  · cases h
def qD_bring_0 : List zIns := [(.aload_n 1, 1, 0, 0, 0, 0, 0, z0), (.invokevirtual 122, 3, 0, 5, 0, 0, 0, mWork_isOpen), (.ifCond .ne (28), 3, 32, 0, 0, 0, 0, z0), (.aload_n 1, 1, 0, 0, 0, 0, 0, z0), (.getfield 116, 3, 5, 0, 0, 0, 0, z0), (.iload_n 3, 1, 0, 0, 0, 0, 0, z0), (.if_icmp .eq (20), 3, 32, 0, 0, 0, 0, z0), (.aload_n 1, 1, 0, 0, 0, 0, 0, z0), (.iload_n 3, 1, 0, 0, 0, 0, 0, z0), (.putfield 116, 3, 5, 0, 0, 0, 0, z0), (.aload_n 1, 1, 0, 0, 0, 0, 0, z0), (.aload_n 0, 1, 0, 0, 0, 0, 0, z0), (.iload_n 2, 1, 0, 0, 0, 0, 0, z0), (.iload_n 3, 1, 0, 0, 0, 0, 0, z0), (.invokevirtual 153, 3, 2, 8, 0, 0, 0, mD_contentOf), (.putfield 144, 3, 5, 1, 0, 0, 0, z0), (.iconst (1), 1, 1, 0, 0, 0, 0, z0), (.ireturn, 1, 0, 0, 1, 0, 0, z0)]
def qD_bring_32 : List zIns := [(.aload_n 1, 1, 0, 0, 0, 0, 0, z0), (.getfield 141, 3, 5, 2, 0, 0, 0, z0), (.iconst (2), 1, 2, 0, 0, 0, 0, z0), (.if_icmp .ne (26), 3, 63, 0, 0, 0, 0, z0), (.aload_n 1, 1, 0, 0, 0, 0, 0, z0), (.getfield 284, 3, 5, 4, 0, 0, 0, z0), (.iload_n 3, 1, 0, 0, 0, 0, 0, z0), (.if_icmp .ge (18), 3, 63, 0, 0, 0, 0, z0), (.aload_n 1, 1, 0, 0, 0, 0, 0, z0), (.getfield 290, 3, 5, 6, 0, 0, 0, z0), (.iload_n 3, 1, 0, 0, 0, 0, 0, z0), (.if_icmp .eq (10), 3, 63, 0, 0, 0, 0, z0), (.aload_n 1, 1, 0, 0, 0, 0, 0, z0), (.iload_n 3, 1, 0, 0, 0, 0, 0, z0), (.putfield 290, 3, 5, 6, 0, 0, 0, z0), (.iconst (1), 1, 1, 0, 0, 0, 0, z0), (.ireturn, 1, 0, 0, 1, 0, 0, z0)]
def qD_bring_63 : List zIns := [(.iconst (0), 1, 0, 0, 0, 0, 0, z0), (.ireturn, 1, 0, 0, 1, 0, 0, z0)]
def cdD_bring : zCd := fun a => match a with
  | 0 => some qD_bring_0
  | 32 => some qD_bring_32
  | 63 => some qD_bring_63
  | _ => none
set_option maxRecDepth 100000 in
theorem bD_bring_0 : zcode (mD_bring) 0 qD_bring_0 := zcode_of (by decide +kernel) (zoks_cons rfl (zoks_cons (And.intro rfl kV14) (zoks_cons (And.intro rfl (by decide)) (zoks_cons rfl (zoks_cons (And.intro rfl kF8) (zoks_cons rfl (zoks_cons (And.intro rfl (by decide)) (zoks_cons rfl (zoks_cons rfl (zoks_cons (And.intro rfl (And.intro rfl (kP10 rfl))) (zoks_cons rfl (zoks_cons rfl (zoks_cons rfl (zoks_cons rfl (zoks_cons (And.intro rfl kV20) (zoks_cons (And.intro rfl (And.intro rfl (kP5 rfl))) (zoks_cons (And.intro rfl (by decide)) (zoks_cons (And.intro rfl (Or.inr (Or.inl ⟨rfl, rfl⟩))) trivial))))))))))))))))))
set_option maxRecDepth 100000 in
theorem bD_bring_32 : zcode (mD_bring) 32 qD_bring_32 := zcode_of (by decide +kernel) (zoks_cons rfl (zoks_cons (And.intro rfl kF9) (zoks_cons (And.intro rfl (by decide)) (zoks_cons (And.intro rfl (by decide)) (zoks_cons rfl (zoks_cons (And.intro rfl kF25) (zoks_cons rfl (zoks_cons (And.intro rfl (by decide)) (zoks_cons rfl (zoks_cons (And.intro rfl kF26) (zoks_cons rfl (zoks_cons (And.intro rfl (by decide)) (zoks_cons rfl (zoks_cons rfl (zoks_cons (And.intro rfl (And.intro rfl (kP11 rfl))) (zoks_cons (And.intro rfl (by decide)) (zoks_cons (And.intro rfl (Or.inr (Or.inl ⟨rfl, rfl⟩))) trivial)))))))))))))))))
set_option maxRecDepth 100000 in
theorem bD_bring_63 : zcode (mD_bring) 63 qD_bring_63 := zcode_of (by decide +kernel) (zoks_cons (And.intro rfl (by decide)) (zoks_cons (And.intro rfl (Or.inr (Or.inl ⟨rfl, rfl⟩))) trivial))
theorem kD_bring : zcd (mD_bring) cdD_bring := by
  intro a is h
  unfold cdD_bring at h
  split at h
  · cases h; exact bD_bring_0
  · cases h; exact bD_bring_32
  · cases h; exact bD_bring_63
  · cases h
def qD_theirContent_0 : List zIns := [(.aload_n 1, 1, 0, 0, 0, 0, 0, z0), (.getfield 290, 3, 5, 6, 0, 0, 0, z0), (.ifCond .eq (15), 3, 19, 0, 0, 0, 0, z0), (.aload_n 0, 1, 0, 0, 0, 0, 0, z0), (.iload_n 2, 1, 0, 0, 0, 0, 0, z0), (.aload_n 1, 1, 0, 0, 0, 0, 0, z0), (.getfield 290, 3, 5, 6, 0, 0, 0, z0), (.invokevirtual 153, 3, 2, 8, 0, 0, 0, mD_contentOf), (.goto (15), 3, 31, 0, 0, 0, 0, z0)]
def qD_theirContent_19 : List zIns := [(.aload_n 0, 1, 0, 0, 0, 0, 0, z0), (.aload_n 1, 1, 0, 0, 0, 0, 0, z0), (.getfield 202, 3, 5, 7, 0, 0, 0, z0), (.aload_n 1, 1, 0, 0, 0, 0, 0, z0), (.getfield 205, 3, 5, 8, 0, 0, 0, z0), (.invokevirtual 153, 3, 2, 8, 0, 0, 0, mD_contentOf)]
def qD_theirContent_31 : List zIns := [(.ireturn, 1, 0, 0, 0, 0, 0, z0)]
def cdD_theirContent : zCd := fun a => match a with
  | 0 => some qD_theirContent_0
  | 19 => some qD_theirContent_19
  | 31 => some qD_theirContent_31
  | _ => none
set_option maxRecDepth 100000 in
theorem bD_theirContent_0 : zcode (mD_theirContent) 0 qD_theirContent_0 := zcode_of (by decide +kernel) (zoks_cons rfl (zoks_cons (And.intro rfl kF26) (zoks_cons (And.intro rfl (by decide)) (zoks_cons rfl (zoks_cons rfl (zoks_cons rfl (zoks_cons (And.intro rfl kF26) (zoks_cons (And.intro rfl kV20) (zoks_cons (And.intro rfl (by decide)) trivial)))))))))
set_option maxRecDepth 100000 in
theorem bD_theirContent_19 : zcode (mD_theirContent) 19 qD_theirContent_19 := zcode_of (by decide +kernel) (zoks_cons rfl (zoks_cons rfl (zoks_cons (And.intro rfl kF22) (zoks_cons rfl (zoks_cons (And.intro rfl kF27) (zoks_cons (And.intro rfl kV20) trivial))))))
set_option maxRecDepth 100000 in
theorem bD_theirContent_31 : zcode (mD_theirContent) 31 qD_theirContent_31 := zcode_of (by decide +kernel) (zoks_cons (And.intro rfl (Or.inl ⟨rfl, rfl⟩)) trivial)
theorem kD_theirContent : zcd (mD_theirContent) cdD_theirContent := by
  intro a is h
  unfold cdD_theirContent at h
  split at h
  · cases h; exact bD_theirContent_0
  · cases h; exact bD_theirContent_19
  · cases h; exact bD_theirContent_31
  · cases h
def qD_mergeBase_0 : List zIns := [(.aload_n 1, 1, 0, 0, 0, 0, 0, z0), (.getfield 290, 3, 5, 6, 0, 0, 0, z0), (.ifCond .eq (15), 3, 19, 0, 0, 0, 0, z0), (.aload_n 0, 1, 0, 0, 0, 0, 0, z0), (.iload_n 2, 1, 0, 0, 0, 0, 0, z0), (.aload_n 1, 1, 0, 0, 0, 0, 0, z0), (.getfield 284, 3, 5, 4, 0, 0, 0, z0), (.invokevirtual 153, 3, 2, 8, 0, 0, 0, mD_contentOf), (.goto (23), 3, 39, 0, 0, 0, 0, z0)]
def qD_mergeBase_19 : List zIns := [(.aload_n 0, 1, 0, 0, 0, 0, 0, z0), (.aload_n 1, 1, 0, 0, 0, 0, 0, z0), (.getfield 202, 3, 5, 7, 0, 0, 0, z0), (.aload_n 0, 1, 0, 0, 0, 0, 0, z0), (.getfield 35, 3, 8, 3, 0, 0, 0, z0), (.aload_n 1, 1, 0, 0, 0, 0, 0, z0), (.getfield 202, 3, 5, 7, 0, 0, 0, z0), (.iload_n 2, 1, 0, 0, 0, 0, 0, z0), (.invokevirtual 260, 3, 2, 6, 0, 0, 0, mSta_joinedUpTo), (.invokevirtual 153, 3, 2, 8, 0, 0, 0, mD_contentOf)]
def qD_mergeBase_39 : List zIns := [(.ireturn, 1, 0, 0, 0, 0, 0, z0)]
def cdD_mergeBase : zCd := fun a => match a with
  | 0 => some qD_mergeBase_0
  | 19 => some qD_mergeBase_19
  | 39 => some qD_mergeBase_39
  | _ => none
set_option maxRecDepth 100000 in
theorem bD_mergeBase_0 : zcode (mD_mergeBase) 0 qD_mergeBase_0 := zcode_of (by decide +kernel) (zoks_cons rfl (zoks_cons (And.intro rfl kF26) (zoks_cons (And.intro rfl (by decide)) (zoks_cons rfl (zoks_cons rfl (zoks_cons rfl (zoks_cons (And.intro rfl kF25) (zoks_cons (And.intro rfl kV20) (zoks_cons (And.intro rfl (by decide)) trivial)))))))))
set_option maxRecDepth 100000 in
theorem bD_mergeBase_19 : zcode (mD_mergeBase) 19 qD_mergeBase_19 := zcode_of (by decide +kernel) (zoks_cons rfl (zoks_cons rfl (zoks_cons (And.intro rfl kF22) (zoks_cons rfl (zoks_cons (And.intro rfl kF3) (zoks_cons rfl (zoks_cons (And.intro rfl kF22) (zoks_cons rfl (zoks_cons (And.intro rfl kV38) (zoks_cons (And.intro rfl kV20) trivial))))))))))
set_option maxRecDepth 100000 in
theorem bD_mergeBase_39 : zcode (mD_mergeBase) 39 qD_mergeBase_39 := zcode_of (by decide +kernel) (zoks_cons (And.intro rfl (Or.inl ⟨rfl, rfl⟩)) trivial)
theorem kD_mergeBase : zcd (mD_mergeBase) cdD_mergeBase := by
  intro a is h
  unfold cdD_mergeBase at h
  split at h
  · cases h; exact bD_mergeBase_0
  · cases h; exact bD_mergeBase_19
  · cases h; exact bD_mergeBase_39
  · cases h
def qD_clash_0 : List zIns := [(.iconst (0), 1, 0, 0, 0, 0, 0, z0), (.istore_n 3, 1, 0, 0, 0, 0, 0, z0)]
def qD_clash_2 : List zIns := [(.iload_n 3, 1, 0, 0, 0, 0, 0, z0), (.bipush (32), 2, 32, 0, 0, 0, 0, z0), (.if_icmp .ge (56), 3, 61, 0, 0, 0, 0, z0), (.iload_n 0, 1, 0, 0, 0, 0, 0, z0), (.iload_n 3, 1, 0, 0, 0, 0, 0, z0), (.iushr, 1, 0, 0, 0, 0, 0, z0), (.bipush (15), 2, 15, 0, 0, 0, 0, z0), (.iand, 1, 0, 0, 0, 0, 0, z0), (.istore 4, 2, 0, 0, 0, 0, 0, z0), (.iload_n 1, 1, 0, 0, 0, 0, 0, z0), (.iload_n 3, 1, 0, 0, 0, 0, 0, z0), (.iushr, 1, 0, 0, 0, 0, 0, z0), (.bipush (15), 2, 15, 0, 0, 0, 0, z0), (.iand, 1, 0, 0, 0, 0, 0, z0), (.istore 5, 2, 0, 0, 0, 0, 0, z0), (.iload_n 2, 1, 0, 0, 0, 0, 0, z0), (.iload_n 3, 1, 0, 0, 0, 0, 0, z0), (.iushr, 1, 0, 0, 0, 0, 0, z0), (.bipush (15), 2, 15, 0, 0, 0, 0, z0), (.iand, 1, 0, 0, 0, 0, 0, z0), (.istore 6, 2, 0, 0, 0, 0, 0, z0), (.iload 5, 2, 0, 0, 0, 0, 0, z0), (.iload 6, 2, 0, 0, 0, 0, 0, z0), (.if_icmp .eq (19), 3, 55, 0, 0, 0, 0, z0), (.iload 5, 2, 0, 0, 0, 0, 0, z0), (.iload 4, 2, 0, 0, 0, 0, 0, z0), (.if_icmp .eq (12), 3, 55, 0, 0, 0, 0, z0), (.iload 4, 2, 0, 0, 0, 0, 0, z0), (.iload 6, 2, 0, 0, 0, 0, 0, z0), (.if_icmp .eq (5), 3, 55, 0, 0, 0, 0, z0), (.iconst (1), 1, 1, 0, 0, 0, 0, z0), (.ireturn, 1, 0, 0, 1, 0, 0, z0)]
def qD_clash_55 : List zIns := [(.iinc 3 (4), 3, 4, 0, 0, 0, 0, z0), (.goto (-56), 3, 2, 0, 0, 0, 0, z0)]
def qD_clash_61 : List zIns := [(.iconst (0), 1, 0, 0, 0, 0, 0, z0), (.ireturn, 1, 0, 0, 1, 0, 0, z0)]
def cdD_clash : zCd := fun a => match a with
  | 0 => some qD_clash_0
  | 2 => some qD_clash_2
  | 55 => some qD_clash_55
  | 61 => some qD_clash_61
  | _ => none
set_option maxRecDepth 100000 in
theorem bD_clash_0 : zcode (mD_clash) 0 qD_clash_0 := zcode_of (by decide +kernel) (zoks_cons (And.intro rfl (by decide)) (zoks_cons rfl trivial))
set_option maxRecDepth 100000 in
theorem bD_clash_2 : zcode (mD_clash) 2 qD_clash_2 := zcode_of (by decide +kernel) (zoks_cons rfl (zoks_cons (And.intro rfl (by decide)) (zoks_cons (And.intro rfl (by decide)) (zoks_cons rfl (zoks_cons rfl (zoks_cons rfl (zoks_cons (And.intro rfl (by decide)) (zoks_cons rfl (zoks_cons rfl (zoks_cons rfl (zoks_cons rfl (zoks_cons rfl (zoks_cons (And.intro rfl (by decide)) (zoks_cons rfl (zoks_cons rfl (zoks_cons rfl (zoks_cons rfl (zoks_cons rfl (zoks_cons (And.intro rfl (by decide)) (zoks_cons rfl (zoks_cons rfl (zoks_cons rfl (zoks_cons rfl (zoks_cons (And.intro rfl (by decide)) (zoks_cons rfl (zoks_cons rfl (zoks_cons (And.intro rfl (by decide)) (zoks_cons rfl (zoks_cons rfl (zoks_cons (And.intro rfl (by decide)) (zoks_cons (And.intro rfl (by decide)) (zoks_cons (And.intro rfl (Or.inr (Or.inl ⟨rfl, rfl⟩))) trivial))))))))))))))))))))))))))))))))
set_option maxRecDepth 100000 in
theorem bD_clash_55 : zcode (mD_clash) 55 qD_clash_55 := zcode_of (by decide +kernel) (zoks_cons (And.intro rfl (by decide)) (zoks_cons (And.intro rfl (by decide)) trivial))
set_option maxRecDepth 100000 in
theorem bD_clash_61 : zcode (mD_clash) 61 qD_clash_61 := zcode_of (by decide +kernel) (zoks_cons (And.intro rfl (by decide)) (zoks_cons (And.intro rfl (Or.inr (Or.inl ⟨rfl, rfl⟩))) trivial))
theorem kD_clash : zcd (mD_clash) cdD_clash := by
  intro a is h
  unfold cdD_clash at h
  split at h
  · cases h; exact bD_clash_0
  · cases h; exact bD_clash_2
  · cases h; exact bD_clash_55
  · cases h; exact bD_clash_61
  · cases h
def qD_merged_0 : List zIns := [(.iconst (0), 1, 0, 0, 0, 0, 0, z0), (.istore_n 3, 1, 0, 0, 0, 0, 0, z0), (.iconst (0), 1, 0, 0, 0, 0, 0, z0), (.istore 4, 2, 0, 0, 0, 0, 0, z0)]
def qD_merged_5 : List zIns := [(.iload 4, 2, 0, 0, 0, 0, 0, z0), (.bipush (32), 2, 32, 0, 0, 0, 0, z0), (.if_icmp .ge (50), 3, 59, 0, 0, 0, 0, z0), (.bipush (15), 2, 15, 0, 0, 0, 0, z0), (.iload 4, 2, 0, 0, 0, 0, 0, z0), (.ishl, 1, 0, 0, 0, 0, 0, z0), (.istore 5, 2, 0, 0, 0, 0, 0, z0), (.iload_n 0, 1, 0, 0, 0, 0, 0, z0), (.iload 5, 2, 0, 0, 0, 0, 0, z0), (.iand, 1, 0, 0, 0, 0, 0, z0), (.iload_n 2, 1, 0, 0, 0, 0, 0, z0), (.iload 5, 2, 0, 0, 0, 0, 0, z0), (.iand, 1, 0, 0, 0, 0, 0, z0), (.if_icmp .ne (7), 3, 34, 0, 0, 0, 0, z0), (.iconst (1), 1, 1, 0, 0, 0, 0, z0), (.goto (4), 3, 35, 0, 0, 0, 0, z0)]
def qD_merged_34 : List zIns := [(.iconst (0), 1, 0, 0, 0, 0, 0, z0)]
def qD_merged_35 : List zIns := [(.istore 6, 2, 0, 0, 0, 0, 0, z0), (.iload_n 3, 1, 0, 0, 0, 0, 0, z0), (.iload 6, 2, 0, 0, 0, 0, 0, z0), (.ifCond .eq (7), 3, 47, 0, 0, 0, 0, z0), (.iload_n 1, 1, 0, 0, 0, 0, 0, z0), (.goto (4), 3, 48, 0, 0, 0, 0, z0)]
def qD_merged_47 : List zIns := [(.iload_n 0, 1, 0, 0, 0, 0, 0, z0)]
def qD_merged_48 : List zIns := [(.iload 5, 2, 0, 0, 0, 0, 0, z0), (.iand, 1, 0, 0, 0, 0, 0, z0), (.ior, 1, 0, 0, 0, 0, 0, z0), (.istore_n 3, 1, 0, 0, 0, 0, 0, z0), (.iinc 4 (4), 3, 4, 0, 0, 0, 0, z0), (.goto (-51), 3, 5, 0, 0, 0, 0, z0)]
def qD_merged_59 : List zIns := [(.iload_n 3, 1, 0, 0, 0, 0, 0, z0), (.ireturn, 1, 0, 0, 0, 0, 0, z0)]
def cdD_merged : zCd := fun a => match a with
  | 0 => some qD_merged_0
  | 5 => some qD_merged_5
  | 34 => some qD_merged_34
  | 35 => some qD_merged_35
  | 47 => some qD_merged_47
  | 48 => some qD_merged_48
  | 59 => some qD_merged_59
  | _ => none
set_option maxRecDepth 100000 in
theorem bD_merged_0 : zcode (mD_merged) 0 qD_merged_0 := zcode_of (by decide +kernel) (zoks_cons (And.intro rfl (by decide)) (zoks_cons rfl (zoks_cons (And.intro rfl (by decide)) (zoks_cons rfl trivial))))
set_option maxRecDepth 100000 in
theorem bD_merged_5 : zcode (mD_merged) 5 qD_merged_5 := zcode_of (by decide +kernel) (zoks_cons rfl (zoks_cons (And.intro rfl (by decide)) (zoks_cons (And.intro rfl (by decide)) (zoks_cons (And.intro rfl (by decide)) (zoks_cons rfl (zoks_cons rfl (zoks_cons rfl (zoks_cons rfl (zoks_cons rfl (zoks_cons rfl (zoks_cons rfl (zoks_cons rfl (zoks_cons rfl (zoks_cons (And.intro rfl (by decide)) (zoks_cons (And.intro rfl (by decide)) (zoks_cons (And.intro rfl (by decide)) trivial))))))))))))))))
set_option maxRecDepth 100000 in
theorem bD_merged_34 : zcode (mD_merged) 34 qD_merged_34 := zcode_of (by decide +kernel) (zoks_cons (And.intro rfl (by decide)) trivial)
set_option maxRecDepth 100000 in
theorem bD_merged_35 : zcode (mD_merged) 35 qD_merged_35 := zcode_of (by decide +kernel) (zoks_cons rfl (zoks_cons rfl (zoks_cons rfl (zoks_cons (And.intro rfl (by decide)) (zoks_cons rfl (zoks_cons (And.intro rfl (by decide)) trivial))))))
set_option maxRecDepth 100000 in
theorem bD_merged_47 : zcode (mD_merged) 47 qD_merged_47 := zcode_of (by decide +kernel) (zoks_cons rfl trivial)
set_option maxRecDepth 100000 in
theorem bD_merged_48 : zcode (mD_merged) 48 qD_merged_48 := zcode_of (by decide +kernel) (zoks_cons rfl (zoks_cons rfl (zoks_cons rfl (zoks_cons rfl (zoks_cons (And.intro rfl (by decide)) (zoks_cons (And.intro rfl (by decide)) trivial))))))
set_option maxRecDepth 100000 in
theorem bD_merged_59 : zcode (mD_merged) 59 qD_merged_59 := zcode_of (by decide +kernel) (zoks_cons rfl (zoks_cons (And.intro rfl (Or.inl ⟨rfl, rfl⟩)) trivial))
theorem kD_merged : zcd (mD_merged) cdD_merged := by
  intro a is h
  unfold cdD_merged at h
  split at h
  · cases h; exact bD_merged_0
  · cases h; exact bD_merged_5
  · cases h; exact bD_merged_34
  · cases h; exact bD_merged_35
  · cases h; exact bD_merged_47
  · cases h; exact bD_merged_48
  · cases h; exact bD_merged_59
  · cases h
def qD_submitFile_0 : List zIns := [(.aload_n 0, 1, 0, 0, 0, 0, 0, z0), (.getfield 35, 3, 8, 3, 0, 0, 0, z0), (.getfield 178, 3, 6, 1, 0, 0, 0, z0), (.iload_n 2, 1, 0, 0, 0, 0, 0, z0), (.aaload, 1, 5, 0, 0, 0, 0, z0), (.astore_n 3, 1, 0, 0, 0, 0, 0, z0), (.aload_n 1, 1, 0, 0, 0, 0, 0, z0), (.getfield 141, 3, 5, 2, 0, 0, 0, z0), (.iconst (3), 1, 3, 0, 0, 0, 0, z0), (.if_icmp .ne (7), 3, 22, 0, 0, 0, 0, z0), (.iconst (1), 1, 1, 0, 0, 0, 0, z0), (.goto (4), 3, 23, 0, 0, 0, 0, z0)]
def qD_submitFile_22 : List zIns := [(.iconst (0), 1, 0, 0, 0, 0, 0, z0)]
def qD_submitFile_23 : List zIns := [(.istore 4, 2, 0, 0, 0, 0, 0, z0), (.aload_n 1, 1, 0, 0, 0, 0, 0, z0), (.getfield 141, 3, 5, 2, 0, 0, 0, z0), (.iconst (1), 1, 1, 0, 0, 0, 0, z0), (.if_icmp .ne (10), 3, 40, 0, 0, 0, 0, z0), (.aload_n 1, 1, 0, 0, 0, 0, 0, z0), (.getfield 269, 3, 5, 5, 0, 0, 0, z0), (.goto (7), 3, 44, 0, 0, 0, 0, z0)]
def qD_submitFile_40 : List zIns := [(.aload_n 3, 1, 0, 0, 0, 0, 0, z0), (.getfield 182, 3, 4, 4, 0, 0, 0, z0)]
def qD_submitFile_44 : List zIns := [(.istore 5, 2, 0, 0, 0, 0, 0, z0), (.new 183, 3, 4, 6, 0, 0, 0, z0), (.dup, 1, 0, 0, 0, 0, 0, z0), (.aload_n 3, 1, 0, 0, 0, 0, 0, z0), (.aload_n 0, 1, 0, 0, 0, 0, 0, z0), (.getfield 35, 3, 8, 3, 0, 0, 0, z0), (.getfield 161, 3, 6, 3, 0, 0, 0, z0), (.aload_n 1, 1, 0, 0, 0, 0, 0, z0), (.getfield 144, 3, 5, 1, 0, 0, 0, z0), (.iload 4, 2, 0, 0, 0, 0, 0, z0), (.iload 5, 2, 0, 0, 0, 0, 0, z0), (.invokespecial 293, 3, 5, 0, 0, 0, 0, mRev_init2), (.astore 6, 2, 0, 0, 0, 0, 0, z0), (.aload_n 0, 1, 0, 0, 0, 0, 0, z0), (.getfield 35, 3, 8, 3, 0, 0, 0, z0), (.getfield 178, 3, 6, 1, 0, 0, 0, z0), (.iload_n 2, 1, 0, 0, 0, 0, 0, z0), (.aload 6, 2, 0, 0, 0, 0, 0, z0), (.aastore, 1, 5, 4, 0, 0, 0, z0), (.aload_n 0, 1, 0, 0, 0, 0, 0, z0), (.getfield 35, 3, 8, 3, 0, 0, 0, z0), (.dup, 1, 0, 0, 0, 0, 0, z0), (.getfield 281, 3, 6, 2, 0, 0, 0, z0), (.iconst (1), 1, 1, 0, 0, 0, 0, z0), (.iadd, 1, 0, 0, 0, 0, 0, z0), (.putfield 281, 3, 6, 2, 0, 0, 0, z0), (.aload_n 1, 1, 0, 0, 0, 0, 0, z0), (.iload 4, 2, 0, 0, 0, 0, 0, z0), (.ifCond .eq (7), 3, 105, 0, 0, 0, 0, z0), (.iconst (0), 1, 0, 0, 0, 0, 0, z0), (.goto (8), 3, 110, 0, 0, 0, 0, z0)]
def qD_submitFile_105 : List zIns := [(.aload 6, 2, 0, 0, 0, 0, 0, z0), (.getfield 191, 3, 4, 0, 0, 0, 0, z0)]
def qD_submitFile_110 : List zIns := [(.putfield 116, 3, 5, 0, 0, 0, 0, z0), (.aload_n 1, 1, 0, 0, 0, 0, 0, z0), (.getfield 274, 3, 5, 9, 0, 0, 0, z0), (.iconst (-1), 1, 1, 0, 1, 0, 0, z0), (.if_icmp .eq (56), 3, 174, 0, 0, 0, 0, z0), (.aload_n 0, 1, 0, 0, 0, 0, 0, z0), (.getfield 35, 3, 8, 3, 0, 0, 0, z0), (.dup, 1, 0, 0, 0, 0, 0, z0), (.getfield 249, 3, 6, 4, 0, 0, 0, z0), (.iconst (1), 1, 1, 0, 0, 0, 0, z0), (.iadd, 1, 0, 0, 0, 0, 0, z0), (.putfield 249, 3, 6, 4, 0, 0, 0, z0), (.aload_n 0, 1, 0, 0, 0, 0, 0, z0), (.getfield 35, 3, 8, 3, 0, 0, 0, z0), (.aload_n 1, 1, 0, 0, 0, 0, 0, z0), (.getfield 274, 3, 5, 9, 0, 0, 0, z0), (.iload_n 2, 1, 0, 0, 0, 0, 0, z0), (.aload_n 1, 1, 0, 0, 0, 0, 0, z0), (.getfield 296, 3, 5, 10, 0, 0, 0, z0), (.invokevirtual 299, 3, 3, 6, 0, 0, 0, mSta_raiseJoined), (.aload_n 1, 1, 0, 0, 0, 0, 0, z0), (.getfield 303, 3, 5, 11, 0, 0, 0, z0), (.ifCond .eq (20), 3, 174, 0, 0, 0, 0, z0), (.aload_n 0, 1, 0, 0, 0, 0, 0, z0), (.getfield 35, 3, 8, 3, 0, 0, 0, z0), (.iload_n 2, 1, 0, 0, 0, 0, 0, z0), (.aload_n 1, 1, 0, 0, 0, 0, 0, z0), (.getfield 274, 3, 5, 9, 0, 0, 0, z0), (.aload 6, 2, 0, 0, 0, 0, 0, z0), (.getfield 191, 3, 4, 0, 0, 0, 0, z0), (.invokevirtual 299, 3, 3, 6, 0, 0, 0, mSta_raiseJoined)]
def qD_submitFile_174 : List zIns := [(.aload_n 1, 1, 0, 0, 0, 0, 0, z0), (.invokevirtual 150, 3, 0, 5, 0, 0, 0, mWork_close), (.return_, 1, 0, 0, 0, 0, 0, z0)]
def cdD_submitFile : zCd := fun a => match a with
  | 0 => some qD_submitFile_0
  | 22 => some qD_submitFile_22
  | 23 => some qD_submitFile_23
  | 40 => some qD_submitFile_40
  | 44 => some qD_submitFile_44
  | 105 => some qD_submitFile_105
  | 110 => some qD_submitFile_110
  | 174 => some qD_submitFile_174
  | _ => none
set_option maxRecDepth 100000 in
theorem bD_submitFile_0 : zcode (mD_submitFile) 0 qD_submitFile_0 := zcode_of (by decide +kernel) (zoks_cons rfl (zoks_cons (And.intro rfl kF3) (zoks_cons (And.intro rfl kF12) (zoks_cons rfl (zoks_cons (And.intro rfl ⟨_, rfl⟩) (zoks_cons rfl (zoks_cons rfl (zoks_cons (And.intro rfl kF9) (zoks_cons (And.intro rfl (by decide)) (zoks_cons (And.intro rfl (by decide)) (zoks_cons (And.intro rfl (by decide)) (zoks_cons (And.intro rfl (by decide)) trivial))))))))))))
set_option maxRecDepth 100000 in
theorem bD_submitFile_22 : zcode (mD_submitFile) 22 qD_submitFile_22 := zcode_of (by decide +kernel) (zoks_cons (And.intro rfl (by decide)) trivial)
set_option maxRecDepth 100000 in
theorem bD_submitFile_23 : zcode (mD_submitFile) 23 qD_submitFile_23 := zcode_of (by decide +kernel) (zoks_cons rfl (zoks_cons rfl (zoks_cons (And.intro rfl kF9) (zoks_cons (And.intro rfl (by decide)) (zoks_cons (And.intro rfl (by decide)) (zoks_cons rfl (zoks_cons (And.intro rfl kF21) (zoks_cons (And.intro rfl (by decide)) trivial))))))))
set_option maxRecDepth 100000 in
theorem bD_submitFile_40 : zcode (mD_submitFile) 40 qD_submitFile_40 := zcode_of (by decide +kernel) (zoks_cons rfl (zoks_cons (And.intro rfl kF13) trivial))
set_option maxRecDepth 100000 in
theorem bD_submitFile_44 : zcode (mD_submitFile) 44 qD_submitFile_44 := zcode_of (by decide +kernel) (zoks_cons rfl (zoks_cons (And.intro rfl kN5) (zoks_cons rfl (zoks_cons rfl (zoks_cons rfl (zoks_cons (And.intro rfl kF3) (zoks_cons (And.intro rfl kF10) (zoks_cons rfl (zoks_cons (And.intro rfl kF16) (zoks_cons rfl (zoks_cons rfl (zoks_cons (And.intro rfl kI5) (zoks_cons rfl (zoks_cons rfl (zoks_cons (And.intro rfl kF3) (zoks_cons (And.intro rfl kF12) (zoks_cons rfl (zoks_cons rfl (zoks_cons (And.intro rfl ⟨zCl[4], rfl, rfl⟩) (zoks_cons rfl (zoks_cons (And.intro rfl kF3) (zoks_cons rfl (zoks_cons (And.intro rfl kF24) (zoks_cons (And.intro rfl (by decide)) (zoks_cons rfl (zoks_cons (And.intro rfl (And.intro rfl (kP12 rfl))) (zoks_cons rfl (zoks_cons rfl (zoks_cons (And.intro rfl (by decide)) (zoks_cons (And.intro rfl (by decide)) (zoks_cons (And.intro rfl (by decide)) trivial)))))))))))))))))))))))))))))))
set_option maxRecDepth 100000 in
theorem bD_submitFile_105 : zcode (mD_submitFile) 105 qD_submitFile_105 := zcode_of (by decide +kernel) (zoks_cons rfl (zoks_cons (And.intro rfl kF15) trivial))
set_option maxRecDepth 100000 in
theorem bD_submitFile_110 : zcode (mD_submitFile) 110 qD_submitFile_110 := zcode_of (by decide +kernel) (zoks_cons (And.intro rfl (And.intro rfl (kP10 rfl))) (zoks_cons rfl (zoks_cons (And.intro rfl kF23) (zoks_cons (And.intro rfl (by decide)) (zoks_cons (And.intro rfl (by decide)) (zoks_cons rfl (zoks_cons (And.intro rfl kF3) (zoks_cons rfl (zoks_cons (And.intro rfl kF19) (zoks_cons (And.intro rfl (by decide)) (zoks_cons rfl (zoks_cons (And.intro rfl (And.intro rfl (kP13 rfl))) (zoks_cons rfl (zoks_cons (And.intro rfl kF3) (zoks_cons rfl (zoks_cons (And.intro rfl kF23) (zoks_cons rfl (zoks_cons rfl (zoks_cons (And.intro rfl kF28) (zoks_cons (And.intro rfl kV43) (zoks_cons rfl (zoks_cons (And.intro rfl kF29) (zoks_cons (And.intro rfl (by decide)) (zoks_cons rfl (zoks_cons (And.intro rfl kF3) (zoks_cons rfl (zoks_cons rfl (zoks_cons (And.intro rfl kF23) (zoks_cons rfl (zoks_cons (And.intro rfl kF15) (zoks_cons (And.intro rfl kV43) trivial)))))))))))))))))))))))))))))))
set_option maxRecDepth 100000 in
theorem bD_submitFile_174 : zcode (mD_submitFile) 174 qD_submitFile_174 := zcode_of (by decide +kernel) (zoks_cons rfl (zoks_cons (And.intro rfl kV19) (zoks_cons (And.intro rfl rfl) trivial)))
theorem kD_submitFile : zcd (mD_submitFile) cdD_submitFile := by
  intro a is h
  unfold cdD_submitFile at h
  split at h
  · cases h; exact bD_submitFile_0
  · cases h; exact bD_submitFile_22
  · cases h; exact bD_submitFile_23
  · cases h; exact bD_submitFile_40
  · cases h; exact bD_submitFile_44
  · cases h; exact bD_submitFile_105
  · cases h; exact bD_submitFile_110
  · cases h; exact bD_submitFile_174
  · cases h
