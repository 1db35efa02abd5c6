/-! The code of methods as runs of instructions. Written by gen/code.py. -/
def qCat_init_0 : List zIns := [(.aload_n 0, 1, 0, 0, 0, 0, 0, z0), (.invokespecial 3, 3, 0, 0, 1, 0, 0, z0), (.aload_n 0, 1, 0, 0, 0, 0, 0, z0), (.bipush (12), 2, 12, 0, 0, 0, 0, z0), (.anewarray 9, 3, 3, 0, 0, 0, 0, z0), (.putfield 11, 3, 2, 0, 0, 0, 0, z0), (.aload_n 0, 1, 0, 0, 0, 0, 0, z0), (.bipush (10), 2, 10, 0, 0, 0, 0, z0), (.anewarray 17, 3, 4, 0, 0, 0, 0, z0), (.putfield 19, 3, 2, 1, 0, 0, 0, z0), (.iconst (0), 1, 0, 0, 0, 0, 0, z0), (.istore_n 1, 1, 0, 0, 0, 0, 0, z0)]
def qCat_init_24 : List zIns := [(.iload_n 1, 1, 0, 0, 0, 0, 0, z0), (.bipush (12), 2, 12, 0, 0, 0, 0, z0), (.if_icmp .ge (24), 3, 51, 0, 0, 0, 0, z0), (.aload_n 0, 1, 0, 0, 0, 0, 0, z0), (.getfield 11, 3, 2, 0, 0, 0, 0, z0), (.iload_n 1, 1, 0, 0, 0, 0, 0, z0), (.new 9, 3, 0, 2, 0, 0, 0, z0), (.dup, 1, 0, 0, 0, 0, 0, z0), (.bipush (12), 2, 12, 0, 0, 0, 0, z0), (.invokespecial 23, 3, 1, 0, 0, 1, 32, mRow_init), (.aastore, 1, 3, 0, 0, 0, 0, z0), (.iinc 1 (1), 3, 1, 0, 0, 0, 0, z0), (.goto (-24), 3, 24, 0, 0, 0, 0, z0)]
def qCat_init_51 : List zIns := [(.iconst (0), 1, 0, 0, 0, 0, 0, z0), (.istore_n 1, 1, 0, 0, 0, 0, 0, z0)]
def qCat_init_53 : List zIns := [(.iload_n 1, 1, 0, 0, 0, 0, 0, z0), (.bipush (10), 2, 10, 0, 0, 0, 0, z0), (.if_icmp .ge (22), 3, 78, 0, 0, 0, 0, z0), (.aload_n 0, 1, 0, 0, 0, 0, 0, z0), (.getfield 19, 3, 2, 1, 0, 0, 0, z0), (.iload_n 1, 1, 0, 0, 0, 0, 0, z0), (.new 17, 3, 1, 3, 0, 0, 0, z0), (.dup, 1, 0, 0, 0, 0, 0, z0), (.invokespecial 26, 3, 0, 0, 0, 4, 68, mLine_init), (.aastore, 1, 4, 1, 0, 0, 0, z0), (.iinc 1 (1), 3, 1, 0, 0, 0, 0, z0), (.goto (-22), 3, 53, 0, 0, 0, 0, z0)]
def qCat_init_78 : List zIns := [(.return_, 1, 0, 0, 0, 0, 0, z0)]
def cdCat_init : zCd := fun a => match a with
  | 0 => some qCat_init_0
  | 24 => some qCat_init_24
  | 51 => some qCat_init_51
  | 53 => some qCat_init_53
  | 78 => some qCat_init_78
  | _ => none
set_option maxRecDepth 100000 in
theorem bCat_init_0 : zcode (mCat_init) 0 qCat_init_0 := zcode_of (by decide +kernel) (zoks_cons rfl (zoks_cons (And.intro rfl kL2) (zoks_cons rfl (zoks_cons (And.intro rfl (by decide)) (zoks_cons (And.intro rfl kA0) (zoks_cons (And.intro rfl (And.intro rfl kP59)) (zoks_cons rfl (zoks_cons (And.intro rfl (by decide)) (zoks_cons (And.intro rfl kA1) (zoks_cons (And.intro rfl (And.intro rfl kP60)) (zoks_cons (And.intro rfl (by decide)) (zoks_cons rfl trivial))))))))))))
set_option maxRecDepth 100000 in
theorem bCat_init_24 : zcode (mCat_init) 24 qCat_init_24 := zcode_of (by decide +kernel) (zoks_cons rfl (zoks_cons (And.intro rfl (by decide)) (zoks_cons (And.intro rfl (by decide)) (zoks_cons rfl (zoks_cons (And.intro rfl kF75) (zoks_cons rfl (zoks_cons (And.intro rfl kN6) (zoks_cons rfl (zoks_cons (And.intro rfl (by decide)) (zoks_cons (And.intro rfl kI6) (zoks_cons (And.intro rfl ⟨zCl[0], rfl, rfl⟩) (zoks_cons (And.intro rfl (by decide)) (zoks_cons (And.intro rfl (by decide)) trivial)))))))))))))
set_option maxRecDepth 100000 in
theorem bCat_init_51 : zcode (mCat_init) 51 qCat_init_51 := zcode_of (by decide +kernel) (zoks_cons (And.intro rfl (by decide)) (zoks_cons rfl trivial))
set_option maxRecDepth 100000 in
theorem bCat_init_53 : zcode (mCat_init) 53 qCat_init_53 := zcode_of (by decide +kernel) (zoks_cons rfl (zoks_cons (And.intro rfl (by decide)) (zoks_cons (And.intro rfl (by decide)) (zoks_cons rfl (zoks_cons (And.intro rfl kF76) (zoks_cons rfl (zoks_cons (And.intro rfl kN7) (zoks_cons rfl (zoks_cons (And.intro rfl kI7) (zoks_cons (And.intro rfl ⟨zCl[1], rfl, rfl⟩) (zoks_cons (And.intro rfl (by decide)) (zoks_cons (And.intro rfl (by decide)) trivial))))))))))))
set_option maxRecDepth 100000 in
theorem bCat_init_78 : zcode (mCat_init) 78 qCat_init_78 := zcode_of (by decide +kernel) (zoks_cons (And.intro rfl rfl) trivial)
theorem kCat_init : zcd (mCat_init) cdCat_init := by
  intro a is h
  unfold cdCat_init at h
  split at h
  · cases h; exact bCat_init_0
  · cases h; exact bCat_init_24
  · cases h; exact bCat_init_51
  · cases h; exact bCat_init_53
  · cases h; exact bCat_init_78
  · cases h
def qCat_isPathCharacter_0 : List zIns := [(.iload_n 0, 1, 0, 0, 0, 0, 0, z0), (.bipush (97), 2, 97, 0, 0, 0, 0, z0), (.if_icmp .lt (9), 3, 12, 0, 0, 0, 0, z0), (.iload_n 0, 1, 0, 0, 0, 0, 0, z0), (.bipush (122), 2, 122, 0, 0, 0, 0, z0), (.if_icmp .le (9), 3, 18, 0, 0, 0, 0, z0)]
def qCat_isPathCharacter_12 : List zIns := [(.iload_n 0, 1, 0, 0, 0, 0, 0, z0), (.bipush (47), 2, 47, 0, 0, 0, 0, z0), (.if_icmp .ne (7), 3, 22, 0, 0, 0, 0, z0)]
def qCat_isPathCharacter_18 : List zIns := [(.iconst (1), 1, 1, 0, 0, 0, 0, z0), (.goto (4), 3, 23, 0, 0, 0, 0, z0)]
def qCat_isPathCharacter_22 : List zIns := [(.iconst (0), 1, 0, 0, 0, 0, 0, z0)]
def qCat_isPathCharacter_23 : List zIns := [(.ireturn, 1, 0, 0, 1, 0, 0, z0)]
def cdCat_isPathCharacter : zCd := fun a => match a with
  | 0 => some qCat_isPathCharacter_0
  | 12 => some qCat_isPathCharacter_12
  | 18 => some qCat_isPathCharacter_18
  | 22 => some qCat_isPathCharacter_22
  | 23 => some qCat_isPathCharacter_23
  | _ => none
set_option maxRecDepth 100000 in
theorem bCat_isPathCharacter_0 : zcode (mCat_isPathCharacter) 0 qCat_isPathCharacter_0 := zcode_of (by decide +kernel) (zoks_cons rfl (zoks_cons (And.intro rfl (by decide)) (zoks_cons (And.intro rfl (by decide)) (zoks_cons rfl (zoks_cons (And.intro rfl (by decide)) (zoks_cons (And.intro rfl (by decide)) trivial))))))
set_option maxRecDepth 100000 in
theorem bCat_isPathCharacter_12 : zcode (mCat_isPathCharacter) 12 qCat_isPathCharacter_12 := zcode_of (by decide +kernel) (zoks_cons rfl (zoks_cons (And.intro rfl (by decide)) (zoks_cons (And.intro rfl (by decide)) trivial)))
set_option maxRecDepth 100000 in
theorem bCat_isPathCharacter_18 : zcode (mCat_isPathCharacter) 18 qCat_isPathCharacter_18 := zcode_of (by decide +kernel) (zoks_cons (And.intro rfl (by decide)) (zoks_cons (And.intro rfl (by decide)) trivial))
set_option maxRecDepth 100000 in
theorem bCat_isPathCharacter_22 : zcode (mCat_isPathCharacter) 22 qCat_isPathCharacter_22 := zcode_of (by decide +kernel) (zoks_cons (And.intro rfl (by decide)) trivial)
set_option maxRecDepth 100000 in
theorem bCat_isPathCharacter_23 : zcode (mCat_isPathCharacter) 23 qCat_isPathCharacter_23 := zcode_of (by decide +kernel) (zoks_cons (And.intro rfl (Or.inr (Or.inl ⟨rfl, rfl⟩))) trivial)
theorem kCat_isPathCharacter : zcd (mCat_isPathCharacter) cdCat_isPathCharacter := by
  intro a is h
  unfold cdCat_isPathCharacter at h
  split at h
  · cases h; exact bCat_isPathCharacter_0
  · cases h; exact bCat_isPathCharacter_12
  · cases h; exact bCat_isPathCharacter_18
  · cases h; exact bCat_isPathCharacter_22
  · cases h; exact bCat_isPathCharacter_23
  · cases h
def qCat_hasLine_0 : List zIns := [(.iload_n 1, 1, 0, 0, 0, 0, 0, z0), (.ifCond .lt (15), 3, 16, 0, 0, 0, 0, z0), (.iload_n 1, 1, 0, 0, 0, 0, 0, z0), (.aload_n 0, 1, 0, 0, 0, 0, 0, z0), (.getfield 27, 3, 2, 3, 0, 0, 0, z0), (.if_icmp .ge (7), 3, 16, 0, 0, 0, 0, z0), (.iconst (1), 1, 1, 0, 0, 0, 0, z0), (.goto (4), 3, 17, 0, 0, 0, 0, z0)]
def qCat_hasLine_16 : List zIns := [(.iconst (0), 1, 0, 0, 0, 0, 0, z0)]
def qCat_hasLine_17 : List zIns := [(.ireturn, 1, 0, 0, 1, 0, 0, z0)]
def cdCat_hasLine : zCd := fun a => match a with
  | 0 => some qCat_hasLine_0
  | 16 => some qCat_hasLine_16
  | 17 => some qCat_hasLine_17
  | _ => none
set_option maxRecDepth 100000 in
theorem bCat_hasLine_0 : zcode (mCat_hasLine) 0 qCat_hasLine_0 := zcode_of (by decide +kernel) (zoks_cons rfl (zoks_cons (And.intro rfl (by decide)) (zoks_cons rfl (zoks_cons rfl (zoks_cons (And.intro rfl kF77) (zoks_cons (And.intro rfl (by decide)) (zoks_cons (And.intro rfl (by decide)) (zoks_cons (And.intro rfl (by decide)) trivial))))))))
set_option maxRecDepth 100000 in
theorem bCat_hasLine_16 : zcode (mCat_hasLine) 16 qCat_hasLine_16 := zcode_of (by decide +kernel) (zoks_cons (And.intro rfl (by decide)) trivial)
set_option maxRecDepth 100000 in
theorem bCat_hasLine_17 : zcode (mCat_hasLine) 17 qCat_hasLine_17 := zcode_of (by decide +kernel) (zoks_cons (And.intro rfl (Or.inr (Or.inl ⟨rfl, rfl⟩))) trivial)
theorem kCat_hasLine : zcd (mCat_hasLine) cdCat_hasLine := by
  intro a is h
  unfold cdCat_hasLine at h
  split at h
  · cases h; exact bCat_hasLine_0
  · cases h; exact bCat_hasLine_16
  · cases h; exact bCat_hasLine_17
  · cases h
def qCat_fileFor_0 : List zIns := [(.aload_n 1, 1, 0, 0, 0, 0, 0, z0), (.invokestatic 31, 3, 1, 0, 0, 0, 0, mCat_isPath), (.ifCond .ne (5), 3, 9, 0, 0, 0, 0, z0), (.iconst (-1), 1, 1, 0, 1, 0, 0, z0), (.ireturn, 1, 0, 0, 0, 0, 0, z0)]
def qCat_fileFor_9 : List zIns := [(.iconst (0), 1, 0, 0, 0, 0, 0, z0), (.istore_n 2, 1, 0, 0, 0, 0, 0, z0)]
def qCat_fileFor_11 : List zIns := [(.iload_n 2, 1, 0, 0, 0, 0, 0, z0), (.aload_n 0, 1, 0, 0, 0, 0, 0, z0), (.getfield 35, 3, 2, 2, 0, 0, 0, z0), (.if_icmp .ge (24), 3, 40, 0, 0, 0, 0, z0), (.aload_n 0, 1, 0, 0, 0, 0, 0, z0), (.getfield 11, 3, 2, 0, 0, 0, 0, z0), (.iload_n 2, 1, 0, 0, 0, 0, 0, z0), (.aaload, 1, 3, 0, 0, 0, 0, z0), (.aload_n 1, 1, 0, 0, 0, 0, 0, z0), (.invokevirtual 38, 3, 1, 0, 0, 0, 0, mRow_same), (.ifCond .eq (5), 3, 34, 0, 0, 0, 0, z0), (.iload_n 2, 1, 0, 0, 0, 0, 0, z0), (.ireturn, 1, 0, 0, 0, 0, 0, z0)]
def qCat_fileFor_34 : List zIns := [(.iinc 2 (1), 3, 1, 0, 0, 0, 0, z0), (.goto (-26), 3, 11, 0, 0, 0, 0, z0)]
def qCat_fileFor_40 : List zIns := [(.aload_n 0, 1, 0, 0, 0, 0, 0, z0), (.getfield 35, 3, 2, 2, 0, 0, 0, z0), (.bipush (12), 2, 12, 0, 0, 0, 0, z0), (.if_icmp .ne (6), 3, 52, 0, 0, 0, 0, z0), (.bipush (-2), 2, 2, 0, 1, 0, 0, z0), (.ireturn, 1, 0, 0, 0, 0, 0, z0)]
def qCat_fileFor_52 : List zIns := [(.aload_n 0, 1, 0, 0, 0, 0, 0, z0), (.getfield 11, 3, 2, 0, 0, 0, 0, z0), (.aload_n 0, 1, 0, 0, 0, 0, 0, z0), (.getfield 35, 3, 2, 2, 0, 0, 0, z0), (.aaload, 1, 3, 0, 0, 0, 0, z0), (.aload_n 1, 1, 0, 0, 0, 0, 0, z0), (.iconst (0), 1, 0, 0, 0, 0, 0, z0), (.aload_n 1, 1, 0, 0, 0, 0, 0, z0), (.invokevirtual 41, 3, 0, 0, 0, 0, 0, mRow_size), (.invokevirtual 45, 3, 3, 0, 0, 0, 0, mRow_appendPart), (.aload_n 0, 1, 0, 0, 0, 0, 0, z0), (.dup, 1, 0, 0, 0, 0, 0, z0), (.getfield 35, 3, 2, 2, 0, 0, 0, z0), (.iconst (1), 1, 1, 0, 0, 0, 0, z0), (.iadd, 1, 0, 0, 0, 0, 0, z0), (.putfield 35, 3, 2, 2, 0, 0, 0, z0), (.aload_n 0, 1, 0, 0, 0, 0, 0, z0), (.getfield 35, 3, 2, 2, 0, 0, 0, z0), (.iconst (1), 1, 1, 0, 0, 0, 0, z0), (.isub, 1, 0, 0, 0, 0, 0, z0), (.ireturn, 1, 0, 0, 0, 0, 0, z0)]
def cdCat_fileFor : zCd := fun a => match a with
  | 0 => some qCat_fileFor_0
  | 9 => some qCat_fileFor_9
  | 11 => some qCat_fileFor_11
  | 34 => some qCat_fileFor_34
  | 40 => some qCat_fileFor_40
  | 52 => some qCat_fileFor_52
  | _ => none
set_option maxRecDepth 100000 in
theorem bCat_fileFor_0 : zcode (mCat_fileFor) 0 qCat_fileFor_0 := zcode_of (by decide +kernel) (zoks_cons rfl (zoks_cons (And.intro rfl kS11) (zoks_cons (And.intro rfl (by decide)) (zoks_cons (And.intro rfl (by decide)) (zoks_cons (And.intro rfl (Or.inl ⟨rfl, rfl⟩)) trivial)))))
set_option maxRecDepth 100000 in
theorem bCat_fileFor_9 : zcode (mCat_fileFor) 9 qCat_fileFor_9 := zcode_of (by decide +kernel) (zoks_cons (And.intro rfl (by decide)) (zoks_cons rfl trivial))
set_option maxRecDepth 100000 in
theorem bCat_fileFor_11 : zcode (mCat_fileFor) 11 qCat_fileFor_11 := zcode_of (by decide +kernel) (zoks_cons rfl (zoks_cons rfl (zoks_cons (And.intro rfl kF78) (zoks_cons (And.intro rfl (by decide)) (zoks_cons rfl (zoks_cons (And.intro rfl kF75) (zoks_cons rfl (zoks_cons (And.intro rfl ⟨_, rfl⟩) (zoks_cons rfl (zoks_cons (And.intro rfl kV80) (zoks_cons (And.intro rfl (by decide)) (zoks_cons rfl (zoks_cons (And.intro rfl (Or.inl ⟨rfl, rfl⟩)) trivial)))))))))))))
set_option maxRecDepth 100000 in
theorem bCat_fileFor_34 : zcode (mCat_fileFor) 34 qCat_fileFor_34 := zcode_of (by decide +kernel) (zoks_cons (And.intro rfl (by decide)) (zoks_cons (And.intro rfl (by decide)) trivial))
set_option maxRecDepth 100000 in
theorem bCat_fileFor_40 : zcode (mCat_fileFor) 40 qCat_fileFor_40 := zcode_of (by decide +kernel) (zoks_cons rfl (zoks_cons (And.intro rfl kF78) (zoks_cons (And.intro rfl (by decide)) (zoks_cons (And.intro rfl (by decide)) (zoks_cons (And.intro rfl (by decide)) (zoks_cons (And.intro rfl (Or.inl ⟨rfl, rfl⟩)) trivial))))))
set_option maxRecDepth 100000 in
theorem bCat_fileFor_52 : zcode (mCat_fileFor) 52 qCat_fileFor_52 := zcode_of (by decide +kernel) (zoks_cons rfl (zoks_cons (And.intro rfl kF75) (zoks_cons rfl (zoks_cons (And.intro rfl kF78) (zoks_cons (And.intro rfl ⟨_, rfl⟩) (zoks_cons rfl (zoks_cons (And.intro rfl (by decide)) (zoks_cons rfl (zoks_cons (And.intro rfl kV81) (zoks_cons (And.intro rfl kV82) (zoks_cons rfl (zoks_cons rfl (zoks_cons (And.intro rfl kF78) (zoks_cons (And.intro rfl (by decide)) (zoks_cons rfl (zoks_cons (And.intro rfl (And.intro rfl (kP61 rfl))) (zoks_cons rfl (zoks_cons (And.intro rfl kF78) (zoks_cons (And.intro rfl (by decide)) (zoks_cons rfl (zoks_cons (And.intro rfl (Or.inl ⟨rfl, rfl⟩)) trivial)))))))))))))))))))))
theorem kCat_fileFor : zcd (mCat_fileFor) cdCat_fileFor := by
  intro a is h
  unfold cdCat_fileFor at h
  split at h
  · cases h; exact bCat_fileFor_0
  · cases h; exact bCat_fileFor_9
  · cases h; exact bCat_fileFor_11
  · cases h; exact bCat_fileFor_34
  · cases h; exact bCat_fileFor_40
  · cases h; exact bCat_fileFor_52
  · cases h
def qCat_newLine_0 : List zIns := [(.aload_n 1, 1, 0, 0, 0, 0, 0, z0), (.invokestatic 49, 3, 1, 0, 0, 0, 0, mLine_isLine), (.ifCond .ne (5), 3, 9, 0, 0, 0, 0, z0), (.iconst (-1), 1, 1, 0, 1, 0, 0, z0), (.ireturn, 1, 0, 0, 0, 0, 0, z0)]
def qCat_newLine_9 : List zIns := [(.aload_n 0, 1, 0, 0, 0, 0, 0, z0), (.getfield 27, 3, 2, 3, 0, 0, 0, z0), (.bipush (10), 2, 10, 0, 0, 0, 0, z0), (.if_icmp .ne (6), 3, 21, 0, 0, 0, 0, z0), (.bipush (-2), 2, 2, 0, 1, 0, 0, z0), (.ireturn, 1, 0, 0, 0, 0, 0, z0)]
def qCat_newLine_21 : List zIns := [(.aload_n 0, 1, 0, 0, 0, 0, 0, z0), (.getfield 19, 3, 2, 1, 0, 0, 0, z0), (.aload_n 0, 1, 0, 0, 0, 0, 0, z0), (.getfield 27, 3, 2, 3, 0, 0, 0, z0), (.aaload, 1, 4, 0, 0, 0, 0, z0), (.aload_n 1, 1, 0, 0, 0, 0, 0, z0), (.invokevirtual 52, 3, 1, 1, 0, 0, 0, mLine_fill), (.aload_n 0, 1, 0, 0, 0, 0, 0, z0), (.dup, 1, 0, 0, 0, 0, 0, z0), (.getfield 27, 3, 2, 3, 0, 0, 0, z0), (.iconst (1), 1, 1, 0, 0, 0, 0, z0), (.iadd, 1, 0, 0, 0, 0, 0, z0), (.putfield 27, 3, 2, 3, 0, 0, 0, z0), (.aload_n 0, 1, 0, 0, 0, 0, 0, z0), (.getfield 27, 3, 2, 3, 0, 0, 0, z0), (.iconst (1), 1, 1, 0, 0, 0, 0, z0), (.isub, 1, 0, 0, 0, 0, 0, z0), (.ireturn, 1, 0, 0, 0, 0, 0, z0)]
def cdCat_newLine : zCd := fun a => match a with
  | 0 => some qCat_newLine_0
  | 9 => some qCat_newLine_9
  | 21 => some qCat_newLine_21
  | _ => none
set_option maxRecDepth 100000 in
theorem bCat_newLine_0 : zcode (mCat_newLine) 0 qCat_newLine_0 := zcode_of (by decide +kernel) (zoks_cons rfl (zoks_cons (And.intro rfl kS12) (zoks_cons (And.intro rfl (by decide)) (zoks_cons (And.intro rfl (by decide)) (zoks_cons (And.intro rfl (Or.inl ⟨rfl, rfl⟩)) trivial)))))
set_option maxRecDepth 100000 in
theorem bCat_newLine_9 : zcode (mCat_newLine) 9 qCat_newLine_9 := zcode_of (by decide +kernel) (zoks_cons rfl (zoks_cons (And.intro rfl kF77) (zoks_cons (And.intro rfl (by decide)) (zoks_cons (And.intro rfl (by decide)) (zoks_cons (And.intro rfl (by decide)) (zoks_cons (And.intro rfl (Or.inl ⟨rfl, rfl⟩)) trivial))))))
set_option maxRecDepth 100000 in
theorem bCat_newLine_21 : zcode (mCat_newLine) 21 qCat_newLine_21 := zcode_of (by decide +kernel) (zoks_cons rfl (zoks_cons (And.intro rfl kF76) (zoks_cons rfl (zoks_cons (And.intro rfl kF77) (zoks_cons (And.intro rfl ⟨_, rfl⟩) (zoks_cons rfl (zoks_cons (And.intro rfl kV83) (zoks_cons rfl (zoks_cons rfl (zoks_cons (And.intro rfl kF77) (zoks_cons (And.intro rfl (by decide)) (zoks_cons rfl (zoks_cons (And.intro rfl (And.intro rfl (kP62 rfl))) (zoks_cons rfl (zoks_cons (And.intro rfl kF77) (zoks_cons (And.intro rfl (by decide)) (zoks_cons rfl (zoks_cons (And.intro rfl (Or.inl ⟨rfl, rfl⟩)) trivial))))))))))))))))))
theorem kCat_newLine : zcd (mCat_newLine) cdCat_newLine := by
  intro a is h
  unfold cdCat_newLine at h
  split at h
  · cases h; exact bCat_newLine_0
  · cases h; exact bCat_newLine_9
  · cases h; exact bCat_newLine_21
  · cases h
def qCat_isPath_0 : List zIns := [(.aload_n 0, 1, 0, 0, 0, 0, 0, z0), (.invokevirtual 41, 3, 0, 0, 0, 0, 0, mRow_size), (.bipush (12), 2, 12, 0, 0, 0, 0, z0), (.if_icmp .le (5), 3, 11, 0, 0, 0, 0, z0), (.iconst (0), 1, 0, 0, 0, 0, 0, z0), (.ireturn, 1, 0, 0, 1, 0, 0, z0)]
def qCat_isPath_11 : List zIns := [(.iconst (1), 1, 1, 0, 0, 0, 0, z0), (.istore_n 1, 1, 0, 0, 0, 0, 0, z0), (.iconst (0), 1, 0, 0, 0, 0, 0, z0), (.istore_n 2, 1, 0, 0, 0, 0, 0, z0)]
def qCat_isPath_15 : List zIns := [(.iload_n 2, 1, 0, 0, 0, 0, 0, z0), (.aload_n 0, 1, 0, 0, 0, 0, 0, z0), (.invokevirtual 41, 3, 0, 0, 0, 0, 0, mRow_size), (.if_icmp .ge (46), 3, 66, 0, 0, 0, 0, z0), (.aload_n 0, 1, 0, 0, 0, 0, 0, z0), (.iload_n 2, 1, 0, 0, 0, 0, 0, z0), (.invokevirtual 56, 3, 1, 0, 0, 0, 0, mRow_at), (.istore_n 3, 1, 0, 0, 0, 0, 0, z0), (.iload_n 3, 1, 0, 0, 0, 0, 0, z0), (.invokestatic 60, 3, 1, 0, 0, 0, 0, mCat_isPathCharacter), (.ifCond .eq (13), 3, 46, 0, 0, 0, 0, z0), (.iload_n 1, 1, 0, 0, 0, 0, 0, z0), (.ifCond .eq (11), 3, 48, 0, 0, 0, 0, z0), (.iload_n 3, 1, 0, 0, 0, 0, 0, z0), (.bipush (47), 2, 47, 0, 0, 0, 0, z0), (.if_icmp .ne (5), 3, 48, 0, 0, 0, 0, z0)]
def qCat_isPath_46 : List zIns := [(.iconst (0), 1, 0, 0, 0, 0, 0, z0), (.ireturn, 1, 0, 0, 1, 0, 0, z0)]
def qCat_isPath_48 : List zIns := [(.iload_n 3, 1, 0, 0, 0, 0, 0, z0), (.bipush (47), 2, 47, 0, 0, 0, 0, z0), (.if_icmp .ne (7), 3, 58, 0, 0, 0, 0, z0), (.iconst (1), 1, 1, 0, 0, 0, 0, z0), (.goto (4), 3, 59, 0, 0, 0, 0, z0)]
def qCat_isPath_58 : List zIns := [(.iconst (0), 1, 0, 0, 0, 0, 0, z0)]
def qCat_isPath_59 : List zIns := [(.istore_n 1, 1, 0, 0, 0, 0, 0, z0), (.iinc 2 (1), 3, 1, 0, 0, 0, 0, z0), (.goto (-48), 3, 15, 0, 0, 0, 0, z0)]
def qCat_isPath_66 : List zIns := [(.iload_n 1, 1, 0, 0, 0, 0, 0, z0), (.ifCond .ne (7), 3, 74, 0, 0, 0, 0, z0), (.iconst (1), 1, 1, 0, 0, 0, 0, z0), (.goto (4), 3, 75, 0, 0, 0, 0, z0)]
def qCat_isPath_74 : List zIns := [(.iconst (0), 1, 0, 0, 0, 0, 0, z0)]
def qCat_isPath_75 : List zIns := [(.ireturn, 1, 0, 0, 1, 0, 0, z0)]
def cdCat_isPath : zCd := fun a => match a with
  | 0 => some qCat_isPath_0
  | 11 => some qCat_isPath_11
  | 15 => some qCat_isPath_15
  | 46 => some qCat_isPath_46
  | 48 => some qCat_isPath_48
  | 58 => some qCat_isPath_58
  | 59 => some qCat_isPath_59
  | 66 => some qCat_isPath_66
  | 74 => some qCat_isPath_74
  | 75 => some qCat_isPath_75
  | _ => none
set_option maxRecDepth 100000 in
theorem bCat_isPath_0 : zcode (mCat_isPath) 0 qCat_isPath_0 := zcode_of (by decide +kernel) (zoks_cons rfl (zoks_cons (And.intro rfl kV81) (zoks_cons (And.intro rfl (by decide)) (zoks_cons (And.intro rfl (by decide)) (zoks_cons (And.intro rfl (by decide)) (zoks_cons (And.intro rfl (Or.inr (Or.inl ⟨rfl, rfl⟩))) trivial))))))
set_option maxRecDepth 100000 in
theorem bCat_isPath_11 : zcode (mCat_isPath) 11 qCat_isPath_11 := zcode_of (by decide +kernel) (zoks_cons (And.intro rfl (by decide)) (zoks_cons rfl (zoks_cons (And.intro rfl (by decide)) (zoks_cons rfl trivial))))
set_option maxRecDepth 100000 in
theorem bCat_isPath_15 : zcode (mCat_isPath) 15 qCat_isPath_15 := zcode_of (by decide +kernel) (zoks_cons rfl (zoks_cons rfl (zoks_cons (And.intro rfl kV81) (zoks_cons (And.intro rfl (by decide)) (zoks_cons rfl (zoks_cons rfl (zoks_cons (And.intro rfl kV84) (zoks_cons rfl (zoks_cons rfl (zoks_cons (And.intro rfl kS13) (zoks_cons (And.intro rfl (by decide)) (zoks_cons rfl (zoks_cons (And.intro rfl (by decide)) (zoks_cons rfl (zoks_cons (And.intro rfl (by decide)) (zoks_cons (And.intro rfl (by decide)) trivial))))))))))))))))
set_option maxRecDepth 100000 in
theorem bCat_isPath_46 : zcode (mCat_isPath) 46 qCat_isPath_46 := zcode_of (by decide +kernel) (zoks_cons (And.intro rfl (by decide)) (zoks_cons (And.intro rfl (Or.inr (Or.inl ⟨rfl, rfl⟩))) trivial))
set_option maxRecDepth 100000 in
theorem bCat_isPath_48 : zcode (mCat_isPath) 48 qCat_isPath_48 := zcode_of (by decide +kernel) (zoks_cons rfl (zoks_cons (And.intro rfl (by decide)) (zoks_cons (And.intro rfl (by decide)) (zoks_cons (And.intro rfl (by decide)) (zoks_cons (And.intro rfl (by decide)) trivial)))))
set_option maxRecDepth 100000 in
theorem bCat_isPath_58 : zcode (mCat_isPath) 58 qCat_isPath_58 := zcode_of (by decide +kernel) (zoks_cons (And.intro rfl (by decide)) trivial)
set_option maxRecDepth 100000 in
theorem bCat_isPath_59 : zcode (mCat_isPath) 59 qCat_isPath_59 := zcode_of (by decide +kernel) (zoks_cons rfl (zoks_cons (And.intro rfl (by decide)) (zoks_cons (And.intro rfl (by decide)) trivial)))
set_option maxRecDepth 100000 in
theorem bCat_isPath_66 : zcode (mCat_isPath) 66 qCat_isPath_66 := zcode_of (by decide +kernel) (zoks_cons rfl (zoks_cons (And.intro rfl (by decide)) (zoks_cons (And.intro rfl (by decide)) (zoks_cons (And.intro rfl (by decide)) trivial))))
set_option maxRecDepth 100000 in
theorem bCat_isPath_74 : zcode (mCat_isPath) 74 qCat_isPath_74 := zcode_of (by decide +kernel) (zoks_cons (And.intro rfl (by decide)) trivial)
set_option maxRecDepth 100000 in
theorem bCat_isPath_75 : zcode (mCat_isPath) 75 qCat_isPath_75 := zcode_of (by decide +kernel) (zoks_cons (And.intro rfl (Or.inr (Or.inl ⟨rfl, rfl⟩))) trivial)
theorem kCat_isPath : zcd (mCat_isPath) cdCat_isPath := by
  intro a is h
  unfold cdCat_isPath at h
  split at h
  · cases h; exact bCat_isPath_0
  · cases h; exact bCat_isPath_11
  · cases h; exact bCat_isPath_15
  · cases h; exact bCat_isPath_46
  · cases h; exact bCat_isPath_48
  · cases h; exact bCat_isPath_58
  · cases h; exact bCat_isPath_59
  · cases h; exact bCat_isPath_66
  · cases h; exact bCat_isPath_74
  · cases h; exact bCat_isPath_75
  · cases h
def qJou_init_0 : List zIns := [(.aload_n 0, 1, 0, 0, 0, 0, 0, z0), (.invokespecial 3, 3, 0, 0, 1, 0, 0, z0), (.aload_n 0, 1, 0, 0, 0, 0, 0, z0), (.bipush (8), 2, 8, 0, 0, 0, 0, z0), (.anewarray 9, 3, 7, 0, 0, 0, 0, z0), (.putfield 11, 3, 7, 2, 0, 0, 0, z0), (.iconst (0), 1, 0, 0, 0, 0, 0, z0), (.istore_n 1, 1, 0, 0, 0, 0, 0, z0)]
def qJou_init_15 : List zIns := [(.iload_n 1, 1, 0, 0, 0, 0, 0, z0), (.bipush (8), 2, 8, 0, 0, 0, 0, z0), (.if_icmp .ge (22), 3, 40, 0, 0, 0, 0, z0), (.aload_n 0, 1, 0, 0, 0, 0, 0, z0), (.getfield 11, 3, 7, 2, 0, 0, 0, z0), (.iload_n 1, 1, 0, 0, 0, 0, 0, z0), (.new 9, 3, 6, 7, 0, 0, 0, z0), (.dup, 1, 0, 0, 0, 0, 0, z0), (.invokespecial 17, 3, 0, 0, 0, 41, 642, mSta_init), (.aastore, 1, 7, 6, 0, 0, 0, z0), (.iinc 1 (1), 3, 1, 0, 0, 0, 0, z0), (.goto (-22), 3, 15, 0, 0, 0, 0, z0)]
def qJou_init_40 : List zIns := [(.return_, 1, 0, 0, 0, 0, 0, z0)]
def cdJou_init : zCd := fun a => match a with
  | 0 => some qJou_init_0
  | 15 => some qJou_init_15
  | 40 => some qJou_init_40
  | _ => none
set_option maxRecDepth 100000 in
theorem bJou_init_0 : zcode (mJou_init) 0 qJou_init_0 := zcode_of (by decide +kernel) (zoks_cons rfl (zoks_cons (And.intro rfl kL3) (zoks_cons rfl (zoks_cons (And.intro rfl (by decide)) (zoks_cons (And.intro rfl kA2) (zoks_cons (And.intro rfl (And.intro rfl kP63)) (zoks_cons (And.intro rfl (by decide)) (zoks_cons rfl trivial))))))))
set_option maxRecDepth 100000 in
theorem bJou_init_15 : zcode (mJou_init) 15 qJou_init_15 := zcode_of (by decide +kernel) (zoks_cons rfl (zoks_cons (And.intro rfl (by decide)) (zoks_cons (And.intro rfl (by decide)) (zoks_cons rfl (zoks_cons (And.intro rfl kF79) (zoks_cons rfl (zoks_cons (And.intro rfl kN8) (zoks_cons rfl (zoks_cons (And.intro rfl kI8) (zoks_cons (And.intro rfl ⟨zCl[6], rfl, rfl⟩) (zoks_cons (And.intro rfl (by decide)) (zoks_cons (And.intro rfl (by decide)) trivial))))))))))))
set_option maxRecDepth 100000 in
theorem bJou_init_40 : zcode (mJou_init) 40 qJou_init_40 := zcode_of (by decide +kernel) (zoks_cons (And.intro rfl rfl) trivial)
theorem kJou_init : zcd (mJou_init) cdJou_init := by
  intro a is h
  unfold cdJou_init at h
  split at h
  · cases h; exact bJou_init_0
  · cases h; exact bJou_init_15
  · cases h; exact bJou_init_40
  · cases h
def qJou_note_0 : List zIns := [(.aload_n 0, 1, 0, 0, 0, 0, 0, z0), (.getfield 11, 3, 7, 2, 0, 0, 0, z0), (.aload_n 0, 1, 0, 0, 0, 0, 0, z0), (.getfield 18, 3, 7, 0, 0, 0, 0, z0), (.bipush (8), 2, 8, 0, 0, 0, 0, z0), (.irem, 1, 0, 0, 0, 0, 0, z0), (.aaload, 1, 7, 0, 0, 0, 0, z0), (.aload_n 1, 1, 0, 0, 0, 0, 0, z0), (.invokevirtual 22, 3, 1, 6, 0, 0, 0, mSta_copyFrom), (.aload_n 0, 1, 0, 0, 0, 0, 0, z0), (.dup, 1, 0, 0, 0, 0, 0, z0), (.getfield 18, 3, 7, 0, 0, 0, 0, z0), (.iconst (1), 1, 1, 0, 0, 0, 0, z0), (.iadd, 1, 0, 0, 0, 0, 0, z0), (.putfield 18, 3, 7, 0, 0, 0, 0, z0), (.aload_n 0, 1, 0, 0, 0, 0, 0, z0), (.aload_n 0, 1, 0, 0, 0, 0, 0, z0), (.getfield 26, 3, 7, 1, 0, 0, 0, z0), (.iconst (1), 1, 1, 0, 0, 0, 0, z0), (.iadd, 1, 0, 0, 0, 0, 0, z0), (.bipush (8), 2, 8, 0, 0, 0, 0, z0), (.invokestatic 29, 3, 2, 0, 2, 0, 0, z0), (.putfield 26, 3, 7, 1, 0, 0, 0, z0), (.return_, 1, 0, 0, 0, 0, 0, z0)]
def cdJou_note : zCd := fun a => match a with
  | 0 => some qJou_note_0
  | _ => none
set_option maxRecDepth 100000 in
theorem bJou_note_0 : zcode (mJou_note) 0 qJou_note_0 := zcode_of (by decide +kernel) (zoks_cons rfl (zoks_cons (And.intro rfl kF79) (zoks_cons rfl (zoks_cons (And.intro rfl kF80) (zoks_cons (And.intro rfl (by decide)) (zoks_cons rfl (zoks_cons (And.intro rfl ⟨_, rfl⟩) (zoks_cons rfl (zoks_cons (And.intro rfl kV85) (zoks_cons rfl (zoks_cons rfl (zoks_cons (And.intro rfl kF80) (zoks_cons (And.intro rfl (by decide)) (zoks_cons rfl (zoks_cons (And.intro rfl (And.intro rfl (kP64 rfl))) (zoks_cons rfl (zoks_cons rfl (zoks_cons (And.intro rfl kF81) (zoks_cons (And.intro rfl (by decide)) (zoks_cons rfl (zoks_cons (And.intro rfl (by decide)) (zoks_cons (And.intro rfl kL4) (zoks_cons (And.intro rfl (And.intro rfl (kP65 rfl))) (zoks_cons (And.intro rfl rfl) trivial))))))))))))))))))))))))
theorem kJou_note : zcd (mJou_note) cdJou_note := by
  intro a is h
  unfold cdJou_note at h
  split at h
  · cases h; exact bJou_note_0
  · cases h
def qJou_lose_0 : List zIns := [(.iload_n 1, 1, 0, 0, 0, 0, 0, z0), (.ifCond .ne (4), 3, 5, 0, 0, 0, 0, z0), (.return_, 1, 0, 0, 0, 0, 0, z0)]
def qJou_lose_5 : List zIns := [(.aload_n 0, 1, 0, 0, 0, 0, 0, z0), (.dup, 1, 0, 0, 0, 0, 0, z0), (.getfield 18, 3, 7, 0, 0, 0, 0, z0), (.iload_n 1, 1, 0, 0, 0, 0, 0, z0), (.isub, 1, 0, 0, 0, 0, 0, z0), (.putfield 18, 3, 7, 0, 0, 0, 0, z0), (.aload_n 0, 1, 0, 0, 0, 0, 0, z0), (.dup, 1, 0, 0, 0, 0, 0, z0), (.getfield 26, 3, 7, 1, 0, 0, 0, z0), (.iload_n 1, 1, 0, 0, 0, 0, 0, z0), (.isub, 1, 0, 0, 0, 0, 0, z0), (.putfield 26, 3, 7, 1, 0, 0, 0, z0), (.aload_n 2, 1, 0, 0, 0, 0, 0, z0), (.aload_n 0, 1, 0, 0, 0, 0, 0, z0), (.getfield 11, 3, 7, 2, 0, 0, 0, z0), (.aload_n 0, 1, 0, 0, 0, 0, 0, z0), (.getfield 18, 3, 7, 0, 0, 0, 0, z0), (.bipush (8), 2, 8, 0, 0, 0, 0, z0), (.irem, 1, 0, 0, 0, 0, 0, z0), (.aaload, 1, 7, 0, 0, 0, 0, z0), (.invokevirtual 22, 3, 1, 6, 0, 0, 0, mSta_copyFrom), (.return_, 1, 0, 0, 0, 0, 0, z0)]
def cdJou_lose : zCd := fun a => match a with
  | 0 => some qJou_lose_0
  | 5 => some qJou_lose_5
  | _ => none
set_option maxRecDepth 100000 in
theorem bJou_lose_0 : zcode (mJou_lose) 0 qJou_lose_0 := zcode_of (by decide +kernel) (zoks_cons rfl (zoks_cons (And.intro rfl (by decide)) (zoks_cons (And.intro rfl rfl) trivial)))
set_option maxRecDepth 100000 in
theorem bJou_lose_5 : zcode (mJou_lose) 5 qJou_lose_5 := zcode_of (by decide +kernel) (zoks_cons rfl (zoks_cons rfl (zoks_cons (And.intro rfl kF80) (zoks_cons rfl (zoks_cons rfl (zoks_cons (And.intro rfl (And.intro rfl (kP64 rfl))) (zoks_cons rfl (zoks_cons rfl (zoks_cons (And.intro rfl kF81) (zoks_cons rfl (zoks_cons rfl (zoks_cons (And.intro rfl (And.intro rfl (kP65 rfl))) (zoks_cons rfl (zoks_cons rfl (zoks_cons (And.intro rfl kF79) (zoks_cons rfl (zoks_cons (And.intro rfl kF80) (zoks_cons (And.intro rfl (by decide)) (zoks_cons rfl (zoks_cons (And.intro rfl ⟨_, rfl⟩) (zoks_cons (And.intro rfl kV85) (zoks_cons (And.intro rfl rfl) trivial))))))))))))))))))))))
theorem kJou_lose : zcd (mJou_lose) cdJou_lose := by
  intro a is h
  unfold cdJou_lose at h
  split at h
  · cases h; exact bJou_lose_0
  · cases h; exact bJou_lose_5
  · cases h
def qLine_init_0 : List zIns := [(.aload_n 0, 1, 0, 0, 0, 0, 0, z0), (.invokespecial 3, 3, 0, 0, 1, 0, 0, z0), (.aload_n 0, 1, 0, 0, 0, 0, 0, z0), (.new 9, 3, 0, 2, 0, 0, 0, z0), (.dup, 1, 0, 0, 0, 0, 0, z0), (.bipush (12), 2, 12, 0, 0, 0, 0, z0), (.invokespecial 11, 3, 1, 0, 0, 1, 32, mRow_init), (.putfield 14, 3, 1, 0, 0, 0, 0, z0), (.aload_n 0, 1, 0, 0, 0, 0, 0, z0), (.new 9, 3, 0, 2, 0, 0, 0, z0), (.dup, 1, 0, 0, 0, 0, 0, z0), (.bipush (12), 2, 12, 0, 0, 0, 0, z0), (.invokespecial 11, 3, 1, 0, 0, 1, 32, mRow_init), (.putfield 20, 3, 1, 1, 0, 0, 0, z0), (.return_, 1, 0, 0, 0, 0, 0, z0)]
def cdLine_init : zCd := fun a => match a with
  | 0 => some qLine_init_0
  | _ => none
set_option maxRecDepth 100000 in
theorem bLine_init_0 : zcode (mLine_init) 0 qLine_init_0 := zcode_of (by decide +kernel) (zoks_cons rfl (zoks_cons (And.intro rfl kL5) (zoks_cons rfl (zoks_cons (And.intro rfl kN9) (zoks_cons rfl (zoks_cons (And.intro rfl (by decide)) (zoks_cons (And.intro rfl kI9) (zoks_cons (And.intro rfl (And.intro rfl kP66)) (zoks_cons rfl (zoks_cons (And.intro rfl kN9) (zoks_cons rfl (zoks_cons (And.intro rfl (by decide)) (zoks_cons (And.intro rfl kI9) (zoks_cons (And.intro rfl (And.intro rfl kP67)) (zoks_cons (And.intro rfl rfl) trivial)))))))))))))))
theorem kLine_init : zcd (mLine_init) cdLine_init := by
  intro a is h
  unfold cdLine_init at h
  split at h
  · cases h; exact bLine_init_0
  · cases h
def qLine_isWildcard_0 : List zIns := [(.iload_n 0, 1, 0, 0, 0, 0, 0, z0), (.bipush (42), 2, 42, 0, 0, 0, 0, z0), (.if_icmp .eq (9), 3, 12, 0, 0, 0, 0, z0), (.iload_n 0, 1, 0, 0, 0, 0, 0, z0), (.bipush (126), 2, 126, 0, 0, 0, 0, z0), (.if_icmp .ne (7), 3, 16, 0, 0, 0, 0, z0)]
def qLine_isWildcard_12 : List zIns := [(.iconst (1), 1, 1, 0, 0, 0, 0, z0), (.goto (4), 3, 17, 0, 0, 0, 0, z0)]
def qLine_isWildcard_16 : List zIns := [(.iconst (0), 1, 0, 0, 0, 0, 0, z0)]
def qLine_isWildcard_17 : List zIns := [(.ireturn, 1, 0, 0, 1, 0, 0, z0)]
def cdLine_isWildcard : zCd := fun a => match a with
  | 0 => some qLine_isWildcard_0
  | 12 => some qLine_isWildcard_12
  | 16 => some qLine_isWildcard_16
  | 17 => some qLine_isWildcard_17
  | _ => none
set_option maxRecDepth 100000 in
theorem bLine_isWildcard_0 : zcode (mLine_isWildcard) 0 qLine_isWildcard_0 := zcode_of (by decide +kernel) (zoks_cons rfl (zoks_cons (And.intro rfl (by decide)) (zoks_cons (And.intro rfl (by decide)) (zoks_cons rfl (zoks_cons (And.intro rfl (by decide)) (zoks_cons (And.intro rfl (by decide)) trivial))))))
set_option maxRecDepth 100000 in
theorem bLine_isWildcard_12 : zcode (mLine_isWildcard) 12 qLine_isWildcard_12 := zcode_of (by decide +kernel) (zoks_cons (And.intro rfl (by decide)) (zoks_cons (And.intro rfl (by decide)) trivial))
set_option maxRecDepth 100000 in
theorem bLine_isWildcard_16 : zcode (mLine_isWildcard) 16 qLine_isWildcard_16 := zcode_of (by decide +kernel) (zoks_cons (And.intro rfl (by decide)) trivial)
set_option maxRecDepth 100000 in
theorem bLine_isWildcard_17 : zcode (mLine_isWildcard) 17 qLine_isWildcard_17 := zcode_of (by decide +kernel) (zoks_cons (And.intro rfl (Or.inr (Or.inl ⟨rfl, rfl⟩))) trivial)
theorem kLine_isWildcard : zcd (mLine_isWildcard) cdLine_isWildcard := by
  intro a is h
  unfold cdLine_isWildcard at h
  split at h
  · cases h; exact bLine_isWildcard_0
  · cases h; exact bLine_isWildcard_12
  · cases h; exact bLine_isWildcard_16
  · cases h; exact bLine_isWildcard_17
  · cases h
def qLine_isLine_0 : List zIns := [(.aload_n 0, 1, 0, 0, 0, 0, 0, z0), (.invokevirtual 23, 3, 0, 0, 0, 0, 0, mRow_size), (.istore_n 1, 1, 0, 0, 0, 0, 0, z0), (.aload_n 0, 1, 0, 0, 0, 0, 0, z0), (.iconst (0), 1, 0, 0, 0, 0, 0, z0), (.invokevirtual 27, 3, 1, 0, 0, 0, 0, mRow_at), (.bipush (45), 2, 45, 0, 0, 0, 0, z0), (.if_icmp .ne (10), 3, 22, 0, 0, 0, 0, z0), (.aload_n 0, 1, 0, 0, 0, 0, 0, z0), (.iconst (1), 1, 1, 0, 0, 0, 0, z0), (.iload_n 1, 1, 0, 0, 0, 0, 0, z0), (.invokestatic 31, 3, 3, 0, 0, 0, 0, mLine_isSide), (.ireturn, 1, 0, 0, 1, 0, 0, z0)]
def qLine_isLine_22 : List zIns := [(.aload_n 0, 1, 0, 0, 0, 0, 0, z0), (.invokestatic 35, 3, 1, 0, 0, 0, 0, mLine_middleOf), (.istore_n 2, 1, 0, 0, 0, 0, 0, z0), (.aload_n 0, 1, 0, 0, 0, 0, 0, z0), (.iconst (0), 1, 0, 0, 0, 0, 0, z0), (.iload_n 2, 1, 0, 0, 0, 0, 0, z0), (.invokestatic 31, 3, 3, 0, 0, 0, 0, mLine_isSide), (.ifCond .eq (26), 3, 59, 0, 0, 0, 0, z0), (.aload_n 0, 1, 0, 0, 0, 0, 0, z0), (.iload_n 2, 1, 0, 0, 0, 0, 0, z0), (.iconst (1), 1, 1, 0, 0, 0, 0, z0), (.iadd, 1, 0, 0, 0, 0, 0, z0), (.iload_n 1, 1, 0, 0, 0, 0, 0, z0), (.invokestatic 31, 3, 3, 0, 0, 0, 0, mLine_isSide), (.ifCond .eq (15), 3, 59, 0, 0, 0, 0, z0), (.aload_n 0, 1, 0, 0, 0, 0, 0, z0), (.iload_n 2, 1, 0, 0, 0, 0, 0, z0), (.invokestatic 39, 3, 2, 0, 0, 0, 0, mLine_haveSameWildcards), (.ifCond .eq (7), 3, 59, 0, 0, 0, 0, z0), (.iconst (1), 1, 1, 0, 0, 0, 0, z0), (.goto (4), 3, 60, 0, 0, 0, 0, z0)]
def qLine_isLine_59 : List zIns := [(.iconst (0), 1, 0, 0, 0, 0, 0, z0)]
def qLine_isLine_60 : List zIns := [(.ireturn, 1, 0, 0, 1, 0, 0, z0)]
def cdLine_isLine : zCd := fun a => match a with
  | 0 => some qLine_isLine_0
  | 22 => some qLine_isLine_22
  | 59 => some qLine_isLine_59
  | 60 => some qLine_isLine_60
  | _ => none
set_option maxRecDepth 100000 in
theorem bLine_isLine_0 : zcode (mLine_isLine) 0 qLine_isLine_0 := zcode_of (by decide +kernel) (zoks_cons rfl (zoks_cons (And.intro rfl kV86) (zoks_cons rfl (zoks_cons rfl (zoks_cons (And.intro rfl (by decide)) (zoks_cons (And.intro rfl kV87) (zoks_cons (And.intro rfl (by decide)) (zoks_cons (And.intro rfl (by decide)) (zoks_cons rfl (zoks_cons (And.intro rfl (by decide)) (zoks_cons rfl (zoks_cons (And.intro rfl kS14) (zoks_cons (And.intro rfl (Or.inr (Or.inl ⟨rfl, rfl⟩))) trivial)))))))))))))
set_option maxRecDepth 100000 in
theorem bLine_isLine_22 : zcode (mLine_isLine) 22 qLine_isLine_22 := zcode_of (by decide +kernel) (zoks_cons rfl (zoks_cons (And.intro rfl kS15) (zoks_cons rfl (zoks_cons rfl (zoks_cons (And.intro rfl (by decide)) (zoks_cons rfl (zoks_cons (And.intro rfl kS14) (zoks_cons (And.intro rfl (by decide)) (zoks_cons rfl (zoks_cons rfl (zoks_cons (And.intro rfl (by decide)) (zoks_cons rfl (zoks_cons rfl (zoks_cons (And.intro rfl kS14) (zoks_cons (And.intro rfl (by decide)) (zoks_cons rfl (zoks_cons rfl (zoks_cons (And.intro rfl kS16) (zoks_cons (And.intro rfl (by decide)) (zoks_cons (And.intro rfl (by decide)) (zoks_cons (And.intro rfl (by decide)) trivial)))))))))))))))))))))
set_option maxRecDepth 100000 in
theorem bLine_isLine_59 : zcode (mLine_isLine) 59 qLine_isLine_59 := zcode_of (by decide +kernel) (zoks_cons (And.intro rfl (by decide)) trivial)
set_option maxRecDepth 100000 in
theorem bLine_isLine_60 : zcode (mLine_isLine) 60 qLine_isLine_60 := zcode_of (by decide +kernel) (zoks_cons (And.intro rfl (Or.inr (Or.inl ⟨rfl, rfl⟩))) trivial)
theorem kLine_isLine : zcd (mLine_isLine) cdLine_isLine := by
  intro a is h
  unfold cdLine_isLine at h
  split at h
  · cases h; exact bLine_isLine_0
  · cases h; exact bLine_isLine_22
  · cases h; exact bLine_isLine_59
  · cases h; exact bLine_isLine_60
  · cases h
def qLine_fill_0 : List zIns := [(.aload_n 0, 1, 0, 0, 0, 0, 0, z0), (.aload_n 1, 1, 0, 0, 0, 0, 0, z0), (.iconst (0), 1, 0, 0, 0, 0, 0, z0), (.invokevirtual 27, 3, 1, 0, 0, 0, 0, mRow_at), (.bipush (45), 2, 45, 0, 0, 0, 0, z0), (.if_icmp .ne (7), 3, 15, 0, 0, 0, 0, z0), (.iconst (1), 1, 1, 0, 0, 0, 0, z0), (.goto (4), 3, 16, 0, 0, 0, 0, z0)]
def qLine_fill_15 : List zIns := [(.iconst (0), 1, 0, 0, 0, 0, 0, z0)]
def qLine_fill_16 : List zIns := [(.putfield 43, 3, 1, 2, 0, 0, 0, z0), (.aload_n 1, 1, 0, 0, 0, 0, 0, z0), (.invokestatic 35, 3, 1, 0, 0, 0, 0, mLine_middleOf), (.istore_n 2, 1, 0, 0, 0, 0, 0, z0), (.aload_n 0, 1, 0, 0, 0, 0, 0, z0), (.getfield 14, 3, 1, 0, 0, 0, 0, z0), (.aload_n 1, 1, 0, 0, 0, 0, 0, z0), (.aload_n 0, 1, 0, 0, 0, 0, 0, z0), (.getfield 43, 3, 1, 2, 0, 0, 0, z0), (.ifCond .eq (7), 3, 40, 0, 0, 0, 0, z0), (.iconst (1), 1, 1, 0, 0, 0, 0, z0), (.goto (4), 3, 41, 0, 0, 0, 0, z0)]
def qLine_fill_40 : List zIns := [(.iconst (0), 1, 0, 0, 0, 0, 0, z0)]
def qLine_fill_41 : List zIns := [(.iload_n 2, 1, 0, 0, 0, 0, 0, z0), (.invokevirtual 47, 3, 3, 0, 0, 0, 0, mRow_appendPart), (.aload_n 0, 1, 0, 0, 0, 0, 0, z0), (.getfield 20, 3, 1, 1, 0, 0, 0, z0), (.aload_n 1, 1, 0, 0, 0, 0, 0, z0), (.iload_n 2, 1, 0, 0, 0, 0, 0, z0), (.iconst (1), 1, 1, 0, 0, 0, 0, z0), (.iadd, 1, 0, 0, 0, 0, 0, z0), (.aload_n 1, 1, 0, 0, 0, 0, 0, z0), (.invokevirtual 23, 3, 0, 0, 0, 0, 0, mRow_size), (.invokevirtual 47, 3, 3, 0, 0, 0, 0, mRow_appendPart), (.return_, 1, 0, 0, 0, 0, 0, z0)]
def cdLine_fill : zCd := fun a => match a with
  | 0 => some qLine_fill_0
  | 15 => some qLine_fill_15
  | 16 => some qLine_fill_16
  | 40 => some qLine_fill_40
  | 41 => some qLine_fill_41
  | _ => none
set_option maxRecDepth 100000 in
theorem bLine_fill_0 : zcode (mLine_fill) 0 qLine_fill_0 := zcode_of (by decide +kernel) (zoks_cons rfl (zoks_cons rfl (zoks_cons (And.intro rfl (by decide)) (zoks_cons (And.intro rfl kV87) (zoks_cons (And.intro rfl (by decide)) (zoks_cons (And.intro rfl (by decide)) (zoks_cons (And.intro rfl (by decide)) (zoks_cons (And.intro rfl (by decide)) trivial))))))))
set_option maxRecDepth 100000 in
theorem bLine_fill_15 : zcode (mLine_fill) 15 qLine_fill_15 := zcode_of (by decide +kernel) (zoks_cons (And.intro rfl (by decide)) trivial)
set_option maxRecDepth 100000 in
theorem bLine_fill_16 : zcode (mLine_fill) 16 qLine_fill_16 := zcode_of (by decide +kernel) (zoks_cons (And.intro rfl (And.intro rfl (kP68 rfl))) (zoks_cons rfl (zoks_cons (And.intro rfl kS15) (zoks_cons rfl (zoks_cons rfl (zoks_cons (And.intro rfl kF82) (zoks_cons rfl (zoks_cons rfl (zoks_cons (And.intro rfl kF83) (zoks_cons (And.intro rfl (by decide)) (zoks_cons (And.intro rfl (by decide)) (zoks_cons (And.intro rfl (by decide)) trivial))))))))))))
set_option maxRecDepth 100000 in
theorem bLine_fill_40 : zcode (mLine_fill) 40 qLine_fill_40 := zcode_of (by decide +kernel) (zoks_cons (And.intro rfl (by decide)) trivial)
set_option maxRecDepth 100000 in
theorem bLine_fill_41 : zcode (mLine_fill) 41 qLine_fill_41 := zcode_of (by decide +kernel) (zoks_cons rfl (zoks_cons (And.intro rfl kV88) (zoks_cons rfl (zoks_cons (And.intro rfl kF84) (zoks_cons rfl (zoks_cons rfl (zoks_cons (And.intro rfl (by decide)) (zoks_cons rfl (zoks_cons rfl (zoks_cons (And.intro rfl kV86) (zoks_cons (And.intro rfl kV88) (zoks_cons (And.intro rfl rfl) trivial))))))))))))
theorem kLine_fill : zcd (mLine_fill) cdLine_fill := by
  intro a is h
  unfold cdLine_fill at h
  split at h
  · cases h; exact bLine_fill_0
  · cases h; exact bLine_fill_15
  · cases h; exact bLine_fill_16
  · cases h; exact bLine_fill_40
  · cases h; exact bLine_fill_41
  · cases h
def qLine_middleOf_0 : List zIns := [(.iconst (0), 1, 0, 0, 0, 0, 0, z0), (.istore_n 1, 1, 0, 0, 0, 0, 0, z0)]
def qLine_middleOf_2 : List zIns := [(.iload_n 1, 1, 0, 0, 0, 0, 0, z0), (.aload_n 0, 1, 0, 0, 0, 0, 0, z0), (.invokevirtual 23, 3, 0, 0, 0, 0, 0, mRow_size), (.if_icmp .ge (19), 3, 26, 0, 0, 0, 0, z0), (.aload_n 0, 1, 0, 0, 0, 0, 0, z0), (.iload_n 1, 1, 0, 0, 0, 0, 0, z0), (.invokevirtual 27, 3, 1, 0, 0, 0, 0, mRow_at), (.bipush (62), 2, 62, 0, 0, 0, 0, z0), (.if_icmp .eq (9), 3, 26, 0, 0, 0, 0, z0), (.iinc 1 (1), 3, 1, 0, 0, 0, 0, z0), (.goto (-21), 3, 2, 0, 0, 0, 0, z0)]
def qLine_middleOf_26 : List zIns := [(.iload_n 1, 1, 0, 0, 0, 0, 0, z0), (.ireturn, 1, 0, 0, 0, 0, 0, z0)]
def cdLine_middleOf : zCd := fun a => match a with
  | 0 => some qLine_middleOf_0
  | 2 => some qLine_middleOf_2
  | 26 => some qLine_middleOf_26
  | _ => none
set_option maxRecDepth 100000 in
theorem bLine_middleOf_0 : zcode (mLine_middleOf) 0 qLine_middleOf_0 := zcode_of (by decide +kernel) (zoks_cons (And.intro rfl (by decide)) (zoks_cons rfl trivial))
set_option maxRecDepth 100000 in
theorem bLine_middleOf_2 : zcode (mLine_middleOf) 2 qLine_middleOf_2 := zcode_of (by decide +kernel) (zoks_cons rfl (zoks_cons rfl (zoks_cons (And.intro rfl kV86) (zoks_cons (And.intro rfl (by decide)) (zoks_cons rfl (zoks_cons rfl (zoks_cons (And.intro rfl kV87) (zoks_cons (And.intro rfl (by decide)) (zoks_cons (And.intro rfl (by decide)) (zoks_cons (And.intro rfl (by decide)) (zoks_cons (And.intro rfl (by decide)) trivial)))))))))))
set_option maxRecDepth 100000 in
theorem bLine_middleOf_26 : zcode (mLine_middleOf) 26 qLine_middleOf_26 := zcode_of (by decide +kernel) (zoks_cons rfl (zoks_cons (And.intro rfl (Or.inl ⟨rfl, rfl⟩)) trivial))
theorem kLine_middleOf : zcd (mLine_middleOf) cdLine_middleOf := by
  intro a is h
  unfold cdLine_middleOf at h
  split at h
  · cases h; exact bLine_middleOf_0
  · cases h; exact bLine_middleOf_2
  · cases h; exact bLine_middleOf_26
  · cases h
def qLine_isSide_0 : List zIns := [(.iload_n 2, 1, 0, 0, 0, 0, 0, z0), (.iload_n 1, 1, 0, 0, 0, 0, 0, z0), (.isub, 1, 0, 0, 0, 0, 0, z0), (.iconst (1), 1, 1, 0, 0, 0, 0, z0), (.if_icmp .lt (11), 3, 15, 0, 0, 0, 0, z0), (.iload_n 2, 1, 0, 0, 0, 0, 0, z0), (.iload_n 1, 1, 0, 0, 0, 0, 0, z0), (.isub, 1, 0, 0, 0, 0, 0, z0), (.bipush (12), 2, 12, 0, 0, 0, 0, z0), (.if_icmp .le (5), 3, 17, 0, 0, 0, 0, z0)]
def qLine_isSide_15 : List zIns := [(.iconst (0), 1, 0, 0, 0, 0, 0, z0), (.ireturn, 1, 0, 0, 1, 0, 0, z0)]
def qLine_isSide_17 : List zIns := [(.iconst (0), 1, 0, 0, 0, 0, 0, z0), (.istore_n 3, 1, 0, 0, 0, 0, 0, z0), (.iload_n 1, 1, 0, 0, 0, 0, 0, z0), (.istore 4, 2, 0, 0, 0, 0, 0, z0)]
def qLine_isSide_22 : List zIns := [(.iload 4, 2, 0, 0, 0, 0, 0, z0), (.iload_n 2, 1, 0, 0, 0, 0, 0, z0), (.if_icmp .ge (41), 3, 66, 0, 0, 0, 0, z0), (.aload_n 0, 1, 0, 0, 0, 0, 0, z0), (.iload 4, 2, 0, 0, 0, 0, 0, z0), (.invokevirtual 27, 3, 1, 0, 0, 0, 0, mRow_at), (.istore 5, 2, 0, 0, 0, 0, 0, z0), (.iload 5, 2, 0, 0, 0, 0, 0, z0), (.invokestatic 51, 3, 1, 0, 0, 0, 0, mLine_isWildcard), (.ifCond .eq (9), 3, 50, 0, 0, 0, 0, z0), (.iinc 3 (1), 3, 1, 0, 0, 0, 0, z0), (.goto (13), 3, 60, 0, 0, 0, 0, z0)]
def qLine_isSide_50 : List zIns := [(.iload 5, 2, 0, 0, 0, 0, 0, z0), (.invokestatic 55, 3, 1, 0, 0, 0, 0, mCat_isPathCharacter), (.ifCond .ne (5), 3, 60, 0, 0, 0, 0, z0), (.iconst (0), 1, 0, 0, 0, 0, 0, z0), (.ireturn, 1, 0, 0, 1, 0, 0, z0)]
def qLine_isSide_60 : List zIns := [(.iinc 4 (1), 3, 1, 0, 0, 0, 0, z0), (.goto (-41), 3, 22, 0, 0, 0, 0, z0)]
def qLine_isSide_66 : List zIns := [(.iload_n 3, 1, 0, 0, 0, 0, 0, z0), (.iconst (2), 1, 2, 0, 0, 0, 0, z0), (.if_icmp .gt (7), 3, 75, 0, 0, 0, 0, z0), (.iconst (1), 1, 1, 0, 0, 0, 0, z0), (.goto (4), 3, 76, 0, 0, 0, 0, z0)]
def qLine_isSide_75 : List zIns := [(.iconst (0), 1, 0, 0, 0, 0, 0, z0)]
def qLine_isSide_76 : List zIns := [(.ireturn, 1, 0, 0, 1, 0, 0, z0)]
def cdLine_isSide : zCd := fun a => match a with
  | 0 => some qLine_isSide_0
  | 15 => some qLine_isSide_15
  | 17 => some qLine_isSide_17
  | 22 => some qLine_isSide_22
  | 50 => some qLine_isSide_50
  | 60 => some qLine_isSide_60
  | 66 => some qLine_isSide_66
  | 75 => some qLine_isSide_75
  | 76 => some qLine_isSide_76
  | _ => none
set_option maxRecDepth 100000 in
theorem bLine_isSide_0 : zcode (mLine_isSide) 0 qLine_isSide_0 := zcode_of (by decide +kernel) (zoks_cons rfl (zoks_cons rfl (zoks_cons rfl (zoks_cons (And.intro rfl (by decide)) (zoks_cons (And.intro rfl (by decide)) (zoks_cons rfl (zoks_cons rfl (zoks_cons rfl (zoks_cons (And.intro rfl (by decide)) (zoks_cons (And.intro rfl (by decide)) trivial))))))))))
set_option maxRecDepth 100000 in
theorem bLine_isSide_15 : zcode (mLine_isSide) 15 qLine_isSide_15 := zcode_of (by decide +kernel) (zoks_cons (And.intro rfl (by decide)) (zoks_cons (And.intro rfl (Or.inr (Or.inl ⟨rfl, rfl⟩))) trivial))
set_option maxRecDepth 100000 in
theorem bLine_isSide_17 : zcode (mLine_isSide) 17 qLine_isSide_17 := zcode_of (by decide +kernel) (zoks_cons (And.intro rfl (by decide)) (zoks_cons rfl (zoks_cons rfl (zoks_cons rfl trivial))))
set_option maxRecDepth 100000 in
theorem bLine_isSide_22 : zcode (mLine_isSide) 22 qLine_isSide_22 := zcode_of (by decide +kernel) (zoks_cons rfl (zoks_cons rfl (zoks_cons (And.intro rfl (by decide)) (zoks_cons rfl (zoks_cons rfl (zoks_cons (And.intro rfl kV87) (zoks_cons rfl (zoks_cons rfl (zoks_cons (And.intro rfl kS17) (zoks_cons (And.intro rfl (by decide)) (zoks_cons (And.intro rfl (by decide)) (zoks_cons (And.intro rfl (by decide)) trivial))))))))))))
set_option maxRecDepth 100000 in
theorem bLine_isSide_50 : zcode (mLine_isSide) 50 qLine_isSide_50 := zcode_of (by decide +kernel) (zoks_cons rfl (zoks_cons (And.intro rfl kS18) (zoks_cons (And.intro rfl (by decide)) (zoks_cons (And.intro rfl (by decide)) (zoks_cons (And.intro rfl (Or.inr (Or.inl ⟨rfl, rfl⟩))) trivial)))))
set_option maxRecDepth 100000 in
theorem bLine_isSide_60 : zcode (mLine_isSide) 60 qLine_isSide_60 := zcode_of (by decide +kernel) (zoks_cons (And.intro rfl (by decide)) (zoks_cons (And.intro rfl (by decide)) trivial))
set_option maxRecDepth 100000 in
theorem bLine_isSide_66 : zcode (mLine_isSide) 66 qLine_isSide_66 := zcode_of (by decide +kernel) (zoks_cons rfl (zoks_cons (And.intro rfl (by decide)) (zoks_cons (And.intro rfl (by decide)) (zoks_cons (And.intro rfl (by decide)) (zoks_cons (And.intro rfl (by decide)) trivial)))))
set_option maxRecDepth 100000 in
theorem bLine_isSide_75 : zcode (mLine_isSide) 75 qLine_isSide_75 := zcode_of (by decide +kernel) (zoks_cons (And.intro rfl (by decide)) trivial)
set_option maxRecDepth 100000 in
theorem bLine_isSide_76 : zcode (mLine_isSide) 76 qLine_isSide_76 := zcode_of (by decide +kernel) (zoks_cons (And.intro rfl (Or.inr (Or.inl ⟨rfl, rfl⟩))) trivial)
theorem kLine_isSide : zcd (mLine_isSide) cdLine_isSide := by
  intro a is h
  unfold cdLine_isSide at h
  split at h
  · cases h; exact bLine_isSide_0
  · cases h; exact bLine_isSide_15
  · cases h; exact bLine_isSide_17
  · cases h; exact bLine_isSide_22
  · cases h; exact bLine_isSide_50
  · cases h; exact bLine_isSide_60
  · cases h; exact bLine_isSide_66
  · cases h; exact bLine_isSide_75
  · cases h; exact bLine_isSide_76
  · cases h
def qLine_haveSameWildcards_0 : List zIns := [(.iconst (0), 1, 0, 0, 0, 0, 0, z0), (.istore_n 2, 1, 0, 0, 0, 0, 0, z0)]
def qLine_haveSameWildcards_2 : List zIns := [(.iload_n 2, 1, 0, 0, 0, 0, 0, z0), (.iconst (2), 1, 2, 0, 0, 0, 0, z0), (.if_icmp .ge (39), 3, 43, 0, 0, 0, 0, z0), (.aload_n 0, 1, 0, 0, 0, 0, 0, z0), (.iconst (0), 1, 0, 0, 0, 0, 0, z0), (.iload_n 1, 1, 0, 0, 0, 0, 0, z0), (.iload_n 2, 1, 0, 0, 0, 0, 0, z0), (.invokestatic 60, 3, 4, 0, 0, 0, 0, mLine_wildcardOf), (.istore_n 3, 1, 0, 0, 0, 0, 0, z0), (.aload_n 0, 1, 0, 0, 0, 0, 0, z0), (.iload_n 1, 1, 0, 0, 0, 0, 0, z0), (.iconst (1), 1, 1, 0, 0, 0, 0, z0), (.iadd, 1, 0, 0, 0, 0, 0, z0), (.aload_n 0, 1, 0, 0, 0, 0, 0, z0), (.invokevirtual 23, 3, 0, 0, 0, 0, 0, mRow_size), (.iload_n 2, 1, 0, 0, 0, 0, 0, z0), (.invokestatic 60, 3, 4, 0, 0, 0, 0, mLine_wildcardOf), (.istore 4, 2, 0, 0, 0, 0, 0, z0), (.iload_n 3, 1, 0, 0, 0, 0, 0, z0), (.iload 4, 2, 0, 0, 0, 0, 0, z0), (.if_icmp .eq (5), 3, 37, 0, 0, 0, 0, z0), (.iconst (0), 1, 0, 0, 0, 0, 0, z0), (.ireturn, 1, 0, 0, 1, 0, 0, z0)]
def qLine_haveSameWildcards_37 : List zIns := [(.iinc 2 (1), 3, 1, 0, 0, 0, 0, z0), (.goto (-38), 3, 2, 0, 0, 0, 0, z0)]
def qLine_haveSameWildcards_43 : List zIns := [(.iconst (1), 1, 1, 0, 0, 0, 0, z0), (.ireturn, 1, 0, 0, 1, 0, 0, z0)]
def cdLine_haveSameWildcards : zCd := fun a => match a with
  | 0 => some qLine_haveSameWildcards_0
  | 2 => some qLine_haveSameWildcards_2
  | 37 => some qLine_haveSameWildcards_37
  | 43 => some qLine_haveSameWildcards_43
  | _ => none
set_option maxRecDepth 100000 in
theorem bLine_haveSameWildcards_0 : zcode (mLine_haveSameWildcards) 0 qLine_haveSameWildcards_0 := zcode_of (by decide +kernel) (zoks_cons (And.intro rfl (by decide)) (zoks_cons rfl trivial))
set_option maxRecDepth 100000 in
theorem bLine_haveSameWildcards_2 : zcode (mLine_haveSameWildcards) 2 qLine_haveSameWildcards_2 := zcode_of (by decide +kernel) (zoks_cons rfl (zoks_cons (And.intro rfl (by decide)) (zoks_cons (And.intro rfl (by decide)) (zoks_cons rfl (zoks_cons (And.intro rfl (by decide)) (zoks_cons rfl (zoks_cons rfl (zoks_cons (And.intro rfl kS19) (zoks_cons rfl (zoks_cons rfl (zoks_cons rfl (zoks_cons (And.intro rfl (by decide)) (zoks_cons rfl (zoks_cons rfl (zoks_cons (And.intro rfl kV86) (zoks_cons rfl (zoks_cons (And.intro rfl kS19) (zoks_cons rfl (zoks_cons rfl (zoks_cons rfl (zoks_cons (And.intro rfl (by decide)) (zoks_cons (And.intro rfl (by decide)) (zoks_cons (And.intro rfl (Or.inr (Or.inl ⟨rfl, rfl⟩))) trivial)))))))))))))))))))))))
set_option maxRecDepth 100000 in
theorem bLine_haveSameWildcards_37 : zcode (mLine_haveSameWildcards) 37 qLine_haveSameWildcards_37 := zcode_of (by decide +kernel) (zoks_cons (And.intro rfl (by decide)) (zoks_cons (And.intro rfl (by decide)) trivial))
set_option maxRecDepth 100000 in
theorem bLine_haveSameWildcards_43 : zcode (mLine_haveSameWildcards) 43 qLine_haveSameWildcards_43 := zcode_of (by decide +kernel) (zoks_cons (And.intro rfl (by decide)) (zoks_cons (And.intro rfl (Or.inr (Or.inl ⟨rfl, rfl⟩))) trivial))
theorem kLine_haveSameWildcards : zcd (mLine_haveSameWildcards) cdLine_haveSameWildcards := by
  intro a is h
  unfold cdLine_haveSameWildcards at h
  split at h
  · cases h; exact bLine_haveSameWildcards_0
  · cases h; exact bLine_haveSameWildcards_2
  · cases h; exact bLine_haveSameWildcards_37
  · cases h; exact bLine_haveSameWildcards_43
  · cases h
def qLine_wildcardOf_0 : List zIns := [(.iconst (0), 1, 0, 0, 0, 0, 0, z0), (.istore 4, 2, 0, 0, 0, 0, 0, z0), (.iload_n 1, 1, 0, 0, 0, 0, 0, z0), (.istore 5, 2, 0, 0, 0, 0, 0, z0)]
def qLine_wildcardOf_6 : List zIns := [(.iload 5, 2, 0, 0, 0, 0, 0, z0), (.iload_n 2, 1, 0, 0, 0, 0, 0, z0), (.if_icmp .ge (37), 3, 46, 0, 0, 0, 0, z0), (.aload_n 0, 1, 0, 0, 0, 0, 0, z0), (.iload 5, 2, 0, 0, 0, 0, 0, z0), (.invokevirtual 27, 3, 1, 0, 0, 0, 0, mRow_at), (.invokestatic 51, 3, 1, 0, 0, 0, 0, mLine_isWildcard), (.ifCond .eq (19), 3, 40, 0, 0, 0, 0, z0), (.iload 4, 2, 0, 0, 0, 0, 0, z0), (.iload_n 3, 1, 0, 0, 0, 0, 0, z0), (.if_icmp .ne (10), 3, 37, 0, 0, 0, 0, z0), (.aload_n 0, 1, 0, 0, 0, 0, 0, z0), (.iload 5, 2, 0, 0, 0, 0, 0, z0), (.invokevirtual 27, 3, 1, 0, 0, 0, 0, mRow_at), (.ireturn, 1, 0, 0, 2, 0, 0, z0)]
def qLine_wildcardOf_37 : List zIns := [(.iinc 4 (1), 3, 1, 0, 0, 0, 0, z0)]
def qLine_wildcardOf_40 : List zIns := [(.iinc 5 (1), 3, 1, 0, 0, 0, 0, z0), (.goto (-37), 3, 6, 0, 0, 0, 0, z0)]
def qLine_wildcardOf_46 : List zIns := [(.iconst (0), 1, 0, 0, 0, 0, 0, z0), (.ireturn, 1, 0, 0, 2, 0, 0, z0)]
def cdLine_wildcardOf : zCd := fun a => match a with
  | 0 => some qLine_wildcardOf_0
  | 6 => some qLine_wildcardOf_6
  | 37 => some qLine_wildcardOf_37
  | 40 => some qLine_wildcardOf_40
  | 46 => some qLine_wildcardOf_46
  | _ => none
set_option maxRecDepth 100000 in
theorem bLine_wildcardOf_0 : zcode (mLine_wildcardOf) 0 qLine_wildcardOf_0 := zcode_of (by decide +kernel) (zoks_cons (And.intro rfl (by decide)) (zoks_cons rfl (zoks_cons rfl (zoks_cons rfl trivial))))
set_option maxRecDepth 100000 in
theorem bLine_wildcardOf_6 : zcode (mLine_wildcardOf) 6 qLine_wildcardOf_6 := zcode_of (by decide +kernel) (zoks_cons rfl (zoks_cons rfl (zoks_cons (And.intro rfl (by decide)) (zoks_cons rfl (zoks_cons rfl (zoks_cons (And.intro rfl kV87) (zoks_cons (And.intro rfl kS17) (zoks_cons (And.intro rfl (by decide)) (zoks_cons rfl (zoks_cons rfl (zoks_cons (And.intro rfl (by decide)) (zoks_cons rfl (zoks_cons rfl (zoks_cons (And.intro rfl kV87) (zoks_cons (And.intro rfl (Or.inr (Or.inr ⟨rfl, rfl⟩))) trivial)))))))))))))))
set_option maxRecDepth 100000 in
theorem bLine_wildcardOf_37 : zcode (mLine_wildcardOf) 37 qLine_wildcardOf_37 := zcode_of (by decide +kernel) (zoks_cons (And.intro rfl (by decide)) trivial)
set_option maxRecDepth 100000 in
theorem bLine_wildcardOf_40 : zcode (mLine_wildcardOf) 40 qLine_wildcardOf_40 := zcode_of (by decide +kernel) (zoks_cons (And.intro rfl (by decide)) (zoks_cons (And.intro rfl (by decide)) trivial))
set_option maxRecDepth 100000 in
theorem bLine_wildcardOf_46 : zcode (mLine_wildcardOf) 46 qLine_wildcardOf_46 := zcode_of (by decide +kernel) (zoks_cons (And.intro rfl (by decide)) (zoks_cons (And.intro rfl (Or.inr (Or.inr ⟨rfl, rfl⟩))) trivial))
theorem kLine_wildcardOf : zcd (mLine_wildcardOf) cdLine_wildcardOf := by
  intro a is h
  unfold cdLine_wildcardOf at h
  split at h
  · cases h; exact bLine_wildcardOf_0
  · cases h; exact bLine_wildcardOf_6
  · cases h; exact bLine_wildcardOf_37
  · cases h; exact bLine_wildcardOf_40
  · cases h; exact bLine_wildcardOf_46
  · cases h
def qPl_init_0 : List zIns := [(.aload_n 0, 1, 0, 0, 0, 0, 0, z0), (.invokespecial 3, 3, 0, 0, 1, 0, 0, z0), (.aload_n 0, 1, 0, 0, 0, 0, 0, z0), (.bipush (12), 2, 12, 0, 0, 0, 0, z0), (.anewarray 9, 3, 3, 0, 0, 0, 0, z0), (.putfield 11, 3, 3, 0, 0, 0, 0, z0), (.aload_n 0, 1, 0, 0, 0, 0, 0, z0), (.bipush (12), 2, 12, 0, 0, 0, 0, z0), (.newarray .boolean, 2, 2, 0, 0, 0, 0, z0), (.putfield 17, 3, 3, 1, 0, 0, 0, z0), (.aload_n 0, 1, 0, 0, 0, 0, 0, z0), (.iconst (2), 1, 2, 0, 0, 0, 0, z0), (.newarray .int, 2, 0, 0, 0, 0, 0, z0), (.putfield 21, 3, 3, 2, 0, 0, 0, z0), (.aload_n 0, 1, 0, 0, 0, 0, 0, z0), (.iconst (2), 1, 2, 0, 0, 0, 0, z0), (.newarray .int, 2, 0, 0, 0, 0, 0, z0), (.putfield 25, 3, 3, 3, 0, 0, 0, z0), (.iconst (0), 1, 0, 0, 0, 0, 0, z0), (.istore_n 1, 1, 0, 0, 0, 0, 0, z0)]
def qPl_init_37 : List zIns := [(.iload_n 1, 1, 0, 0, 0, 0, 0, z0), (.bipush (12), 2, 12, 0, 0, 0, 0, z0), (.if_icmp .ge (24), 3, 64, 0, 0, 0, 0, z0), (.aload_n 0, 1, 0, 0, 0, 0, 0, z0), (.getfield 11, 3, 3, 0, 0, 0, 0, z0), (.iload_n 1, 1, 0, 0, 0, 0, 0, z0), (.new 9, 3, 0, 2, 0, 0, 0, z0), (.dup, 1, 0, 0, 0, 0, 0, z0), (.bipush (23), 2, 23, 0, 0, 0, 0, z0), (.invokespecial 28, 3, 1, 0, 0, 1, 32, mRow_init), (.aastore, 1, 3, 0, 0, 0, 0, z0), (.iinc 1 (1), 3, 1, 0, 0, 0, 0, z0), (.goto (-24), 3, 37, 0, 0, 0, 0, z0)]
def qPl_init_64 : List zIns := [(.return_, 1, 0, 0, 0, 0, 0, z0)]
def cdPl_init : zCd := fun a => match a with
  | 0 => some qPl_init_0
  | 37 => some qPl_init_37
  | 64 => some qPl_init_64
  | _ => none
set_option maxRecDepth 100000 in
theorem bPl_init_0 : zcode (mPl_init) 0 qPl_init_0 := zcode_of (by decide +kernel) (zoks_cons rfl (zoks_cons (And.intro rfl kL6) (zoks_cons rfl (zoks_cons (And.intro rfl (by decide)) (zoks_cons (And.intro rfl kA3) (zoks_cons (And.intro rfl (And.intro rfl kP69)) (zoks_cons rfl (zoks_cons (And.intro rfl (by decide)) (zoks_cons (And.intro rfl (And.intro rfl zT_aboolean)) (zoks_cons (And.intro rfl (And.intro rfl kP70)) (zoks_cons rfl (zoks_cons (And.intro rfl (by decide)) (zoks_cons (And.intro rfl (And.intro rfl zT_aint)) (zoks_cons (And.intro rfl (And.intro rfl kP71)) (zoks_cons rfl (zoks_cons (And.intro rfl (by decide)) (zoks_cons (And.intro rfl (And.intro rfl zT_aint)) (zoks_cons (And.intro rfl (And.intro rfl kP72)) (zoks_cons (And.intro rfl (by decide)) (zoks_cons rfl trivial))))))))))))))))))))
set_option maxRecDepth 100000 in
theorem bPl_init_37 : zcode (mPl_init) 37 qPl_init_37 := zcode_of (by decide +kernel) (zoks_cons rfl (zoks_cons (And.intro rfl (by decide)) (zoks_cons (And.intro rfl (by decide)) (zoks_cons rfl (zoks_cons (And.intro rfl kF85) (zoks_cons rfl (zoks_cons (And.intro rfl kN10) (zoks_cons rfl (zoks_cons (And.intro rfl (by decide)) (zoks_cons (And.intro rfl kI10) (zoks_cons (And.intro rfl ⟨zCl[0], rfl, rfl⟩) (zoks_cons (And.intro rfl (by decide)) (zoks_cons (And.intro rfl (by decide)) trivial)))))))))))))
set_option maxRecDepth 100000 in
theorem bPl_init_64 : zcode (mPl_init) 64 qPl_init_64 := zcode_of (by decide +kernel) (zoks_cons (And.intro rfl rfl) trivial)
theorem kPl_init : zcd (mPl_init) cdPl_init := by
  intro a is h
  unfold cdPl_init at h
  split at h
  · cases h; exact bPl_init_0
  · cases h; exact bPl_init_37
  · cases h; exact bPl_init_64
  · cases h
def qPl_layAll_0 : List zIns := [(.iconst (0), 1, 0, 0, 0, 0, 0, z0), (.istore 4, 2, 0, 0, 0, 0, 0, z0)]
def qPl_layAll_3 : List zIns := [(.iload 4, 2, 0, 0, 0, 0, 0, z0), (.aload_n 3, 1, 0, 0, 0, 0, 0, z0), (.getfield 31, 3, 2, 2, 0, 0, 0, z0), (.if_icmp .ge (18), 3, 27, 0, 0, 0, 0, z0), (.aload_n 0, 1, 0, 0, 0, 0, 0, z0), (.aload_n 1, 1, 0, 0, 0, 0, 0, z0), (.iload_n 2, 1, 0, 0, 0, 0, 0, z0), (.aload_n 3, 1, 0, 0, 0, 0, 0, z0), (.iload 4, 2, 0, 0, 0, 0, 0, z0), (.invokevirtual 37, 3, 4, 3, 0, 0, 0, mPl_layOne), (.iinc 4 (1), 3, 1, 0, 0, 0, 0, z0), (.goto (-21), 3, 3, 0, 0, 0, 0, z0)]
def qPl_layAll_27 : List zIns := [(.return_, 1, 0, 0, 0, 0, 0, z0)]
def cdPl_layAll : zCd := fun a => match a with
  | 0 => some qPl_layAll_0
  | 3 => some qPl_layAll_3
  | 27 => some qPl_layAll_27
  | _ => none
set_option maxRecDepth 100000 in
theorem bPl_layAll_0 : zcode (mPl_layAll) 0 qPl_layAll_0 := zcode_of (by decide +kernel) (zoks_cons (And.intro rfl (by decide)) (zoks_cons rfl trivial))
set_option maxRecDepth 100000 in
theorem bPl_layAll_3 : zcode (mPl_layAll) 3 qPl_layAll_3 := zcode_of (by decide +kernel) (zoks_cons rfl (zoks_cons rfl (zoks_cons (And.intro rfl kF86) (zoks_cons (And.intro rfl (by decide)) (zoks_cons rfl (zoks_cons rfl (zoks_cons rfl (zoks_cons rfl (zoks_cons rfl (zoks_cons (And.intro rfl kV89) (zoks_cons (And.intro rfl (by decide)) (zoks_cons (And.intro rfl (by decide)) trivial))))))))))))
set_option maxRecDepth 100000 in
theorem bPl_layAll_27 : zcode (mPl_layAll) 27 qPl_layAll_27 := zcode_of (by decide +kernel) (zoks_cons (And.intro rfl rfl) trivial)
theorem kPl_layAll : zcd (mPl_layAll) cdPl_layAll := by
  intro a is h
  unfold cdPl_layAll at h
  split at h
  · cases h; exact bPl_layAll_0
  · cases h; exact bPl_layAll_3
  · cases h; exact bPl_layAll_27
  · cases h
def qPl_layOne_0 : List zIns := [(.aload_n 0, 1, 0, 0, 0, 0, 0, z0), (.getfield 11, 3, 3, 0, 0, 0, 0, z0), (.iload 4, 2, 0, 0, 0, 0, 0, z0), (.aaload, 1, 3, 0, 0, 0, 0, z0), (.invokevirtual 41, 3, 0, 0, 0, 0, 0, mRow_clear), (.aload_n 0, 1, 0, 0, 0, 0, 0, z0), (.getfield 17, 3, 3, 1, 0, 0, 0, z0), (.iload 4, 2, 0, 0, 0, 0, 0, z0), (.iconst (0), 1, 0, 0, 0, 0, 0, z0), (.bastore, 1, 2, 0, 0, 0, 0, z0), (.aload_n 3, 1, 0, 0, 0, 0, 0, z0), (.getfield 44, 3, 2, 0, 0, 0, 0, z0), (.iload 4, 2, 0, 0, 0, 0, 0, z0), (.aaload, 1, 3, 0, 0, 0, 0, z0), (.astore 5, 2, 0, 0, 0, 0, 0, z0), (.iconst (3), 1, 3, 0, 0, 0, 0, z0), (.istore 6, 2, 0, 0, 0, 0, 0, z0)]
def qPl_layOne_30 : List zIns := [(.iload 6, 2, 0, 0, 0, 0, 0, z0), (.ifCond .lt (69), 3, 101, 0, 0, 0, 0, z0), (.aload_n 1, 1, 0, 0, 0, 0, 0, z0), (.getfield 47, 3, 6, 0, 0, 0, 0, z0), (.iload_n 2, 1, 0, 0, 0, 0, 0, z0), (.iconst (4), 1, 4, 0, 0, 0, 0, z0), (.imul, 1, 0, 0, 0, 0, 0, z0), (.iload 6, 2, 0, 0, 0, 0, 0, z0), (.iadd, 1, 0, 0, 0, 0, 0, z0), (.iaload, 1, 0, 0, 0, 0, 0, z0), (.istore 7, 2, 0, 0, 0, 0, 0, z0), (.aload_n 3, 1, 0, 0, 0, 0, 0, z0), (.iload 7, 2, 0, 0, 0, 0, 0, z0), (.invokevirtual 52, 3, 1, 2, 0, 0, 0, mCat_hasLine), (.ifCond .eq (41), 3, 95, 0, 0, 0, 0, z0), (.aload_n 0, 1, 0, 0, 0, 0, 0, z0), (.aload_n 3, 1, 0, 0, 0, 0, 0, z0), (.getfield 56, 3, 2, 1, 0, 0, 0, z0), (.iload 7, 2, 0, 0, 0, 0, 0, z0), (.aaload, 1, 4, 0, 0, 0, 0, z0), (.getfield 60, 3, 1, 0, 0, 0, 0, z0), (.iconst (0), 1, 0, 0, 0, 0, 0, z0), (.aload 5, 2, 0, 0, 0, 0, 0, z0), (.iconst (0), 1, 0, 0, 0, 0, 0, z0), (.iconst (0), 1, 0, 0, 0, 0, 0, z0), (.invokevirtual 66, 3, 5, 3, 0, 0, 0, mPl_fits), (.ifCond .eq (19), 3, 95, 0, 0, 0, 0, z0), (.aload_n 0, 1, 0, 0, 0, 0, 0, z0), (.aload_n 3, 1, 0, 0, 0, 0, 0, z0), (.getfield 56, 3, 2, 1, 0, 0, 0, z0), (.iload 7, 2, 0, 0, 0, 0, 0, z0), (.aaload, 1, 4, 0, 0, 0, 0, z0), (.aload 5, 2, 0, 0, 0, 0, 0, z0), (.iload 4, 2, 0, 0, 0, 0, 0, z0), (.invokevirtual 70, 3, 3, 3, 0, 0, 0, mPl_layBy), (.return_, 1, 0, 0, 0, 0, 0, z0)]
def qPl_layOne_95 : List zIns := [(.iinc 6 (-1), 3, 1, 0, 1, 0, 0, z0), (.goto (-68), 3, 30, 0, 0, 0, 0, z0)]
def qPl_layOne_101 : List zIns := [(.return_, 1, 0, 0, 0, 0, 0, z0)]
def cdPl_layOne : zCd := fun a => match a with
  | 0 => some qPl_layOne_0
  | 30 => some qPl_layOne_30
  | 95 => some qPl_layOne_95
  | 101 => some qPl_layOne_101
  | _ => none
set_option maxRecDepth 100000 in
theorem bPl_layOne_0 : zcode (mPl_layOne) 0 qPl_layOne_0 := zcode_of (by decide +kernel) (zoks_cons rfl (zoks_cons (And.intro rfl kF85) (zoks_cons rfl (zoks_cons (And.intro rfl ⟨_, rfl⟩) (zoks_cons (And.intro rfl kV90) (zoks_cons rfl (zoks_cons (And.intro rfl kF87) (zoks_cons rfl (zoks_cons (And.intro rfl (by decide)) (zoks_cons (And.intro rfl rfl) (zoks_cons rfl (zoks_cons (And.intro rfl kF88) (zoks_cons rfl (zoks_cons (And.intro rfl ⟨_, rfl⟩) (zoks_cons rfl (zoks_cons (And.intro rfl (by decide)) (zoks_cons rfl trivial)))))))))))))))))
set_option maxRecDepth 100000 in
theorem bPl_layOne_30 : zcode (mPl_layOne) 30 qPl_layOne_30 := zcode_of (by decide +kernel) (zoks_cons rfl (zoks_cons (And.intro rfl (by decide)) (zoks_cons rfl (zoks_cons (And.intro rfl kF89) (zoks_cons rfl (zoks_cons (And.intro rfl (by decide)) (zoks_cons rfl (zoks_cons rfl (zoks_cons rfl (zoks_cons (And.intro rfl rfl) (zoks_cons rfl (zoks_cons rfl (zoks_cons rfl (zoks_cons (And.intro rfl kV91) (zoks_cons (And.intro rfl (by decide)) (zoks_cons rfl (zoks_cons rfl (zoks_cons (And.intro rfl kF90) (zoks_cons rfl (zoks_cons (And.intro rfl ⟨_, rfl⟩) (zoks_cons (And.intro rfl kF91) (zoks_cons (And.intro rfl (by decide)) (zoks_cons rfl (zoks_cons (And.intro rfl (by decide)) (zoks_cons (And.intro rfl (by decide)) (zoks_cons (And.intro rfl kV92) (zoks_cons (And.intro rfl (by decide)) (zoks_cons rfl (zoks_cons rfl (zoks_cons (And.intro rfl kF90) (zoks_cons rfl (zoks_cons (And.intro rfl ⟨_, rfl⟩) (zoks_cons rfl (zoks_cons rfl (zoks_cons (And.intro rfl kV93) (zoks_cons (And.intro rfl rfl) trivial))))))))))))))))))))))))))))))))))))
set_option maxRecDepth 100000 in
theorem bPl_layOne_95 : zcode (mPl_layOne) 95 qPl_layOne_95 := zcode_of (by decide +kernel) (zoks_cons (And.intro rfl (by decide)) (zoks_cons (And.intro rfl (by decide)) trivial))
set_option maxRecDepth 100000 in
theorem bPl_layOne_101 : zcode (mPl_layOne) 101 qPl_layOne_101 := zcode_of (by decide +kernel) (zoks_cons (And.intro rfl rfl) trivial)
theorem kPl_layOne : zcd (mPl_layOne) cdPl_layOne := by
  intro a is h
  unfold cdPl_layOne at h
  split at h
  · cases h; exact bPl_layOne_0
  · cases h; exact bPl_layOne_30
  · cases h; exact bPl_layOne_95
  · cases h; exact bPl_layOne_101
  · cases h
def qPl_isFirst_0 : List zIns := [(.aload_n 0, 1, 0, 0, 0, 0, 0, z0), (.getfield 17, 3, 3, 1, 0, 0, 0, z0), (.iload_n 1, 1, 0, 0, 0, 0, 0, z0), (.baload, 1, 2, 0, 0, 0, 0, z0), (.ifCond .ne (5), 3, 11, 0, 0, 0, 0, z0), (.iconst (0), 1, 0, 0, 0, 0, 0, z0), (.ireturn, 1, 0, 0, 1, 0, 0, z0)]
def qPl_isFirst_11 : List zIns := [(.iconst (0), 1, 0, 0, 0, 0, 0, z0), (.istore_n 2, 1, 0, 0, 0, 0, 0, z0)]
def qPl_isFirst_13 : List zIns := [(.iload_n 2, 1, 0, 0, 0, 0, 0, z0), (.iload_n 1, 1, 0, 0, 0, 0, 0, z0), (.if_icmp .ge (38), 3, 53, 0, 0, 0, 0, z0), (.aload_n 0, 1, 0, 0, 0, 0, 0, z0), (.getfield 17, 3, 3, 1, 0, 0, 0, z0), (.iload_n 2, 1, 0, 0, 0, 0, 0, z0), (.baload, 1, 2, 0, 0, 0, 0, z0), (.ifCond .eq (23), 3, 47, 0, 0, 0, 0, z0), (.aload_n 0, 1, 0, 0, 0, 0, 0, z0), (.getfield 11, 3, 3, 0, 0, 0, 0, z0), (.iload_n 2, 1, 0, 0, 0, 0, 0, z0), (.aaload, 1, 3, 0, 0, 0, 0, z0), (.aload_n 0, 1, 0, 0, 0, 0, 0, z0), (.getfield 11, 3, 3, 0, 0, 0, 0, z0), (.iload_n 1, 1, 0, 0, 0, 0, 0, z0), (.aaload, 1, 3, 0, 0, 0, 0, z0), (.invokevirtual 74, 3, 1, 0, 0, 0, 0, mRow_same), (.ifCond .eq (5), 3, 47, 0, 0, 0, 0, z0), (.iconst (0), 1, 0, 0, 0, 0, 0, z0), (.ireturn, 1, 0, 0, 1, 0, 0, z0)]
def qPl_isFirst_47 : List zIns := [(.iinc 2 (1), 3, 1, 0, 0, 0, 0, z0), (.goto (-37), 3, 13, 0, 0, 0, 0, z0)]
def qPl_isFirst_53 : List zIns := [(.iconst (1), 1, 1, 0, 0, 0, 0, z0), (.ireturn, 1, 0, 0, 1, 0, 0, z0)]
def cdPl_isFirst : zCd := fun a => match a with
  | 0 => some qPl_isFirst_0
  | 11 => some qPl_isFirst_11
  | 13 => some qPl_isFirst_13
  | 47 => some qPl_isFirst_47
  | 53 => some qPl_isFirst_53
  | _ => none
set_option maxRecDepth 100000 in
theorem bPl_isFirst_0 : zcode (mPl_isFirst) 0 qPl_isFirst_0 := zcode_of (by decide +kernel) (zoks_cons rfl (zoks_cons (And.intro rfl kF87) (zoks_cons rfl (zoks_cons (And.intro rfl rfl) (zoks_cons (And.intro rfl (by decide)) (zoks_cons (And.intro rfl (by decide)) (zoks_cons (And.intro rfl (Or.inr (Or.inl ⟨rfl, rfl⟩))) trivial)))))))
set_option maxRecDepth 100000 in
theorem bPl_isFirst_11 : zcode (mPl_isFirst) 11 qPl_isFirst_11 := zcode_of (by decide +kernel) (zoks_cons (And.intro rfl (by decide)) (zoks_cons rfl trivial))
set_option maxRecDepth 100000 in
theorem bPl_isFirst_13 : zcode (mPl_isFirst) 13 qPl_isFirst_13 := zcode_of (by decide +kernel) (zoks_cons rfl (zoks_cons rfl (zoks_cons (And.intro rfl (by decide)) (zoks_cons rfl (zoks_cons (And.intro rfl kF87) (zoks_cons rfl (zoks_cons (And.intro rfl rfl) (zoks_cons (And.intro rfl (by decide)) (zoks_cons rfl (zoks_cons (And.intro rfl kF85) (zoks_cons rfl (zoks_cons (And.intro rfl ⟨_, rfl⟩) (zoks_cons rfl (zoks_cons (And.intro rfl kF85) (zoks_cons rfl (zoks_cons (And.intro rfl ⟨_, rfl⟩) (zoks_cons (And.intro rfl kV94) (zoks_cons (And.intro rfl (by decide)) (zoks_cons (And.intro rfl (by decide)) (zoks_cons (And.intro rfl (Or.inr (Or.inl ⟨rfl, rfl⟩))) trivial))))))))))))))))))))
set_option maxRecDepth 100000 in
theorem bPl_isFirst_47 : zcode (mPl_isFirst) 47 qPl_isFirst_47 := zcode_of (by decide +kernel) (zoks_cons (And.intro rfl (by decide)) (zoks_cons (And.intro rfl (by decide)) trivial))
set_option maxRecDepth 100000 in
theorem bPl_isFirst_53 : zcode (mPl_isFirst) 53 qPl_isFirst_53 := zcode_of (by decide +kernel) (zoks_cons (And.intro rfl (by decide)) (zoks_cons (And.intro rfl (Or.inr (Or.inl ⟨rfl, rfl⟩))) trivial))
theorem kPl_isFirst : zcd (mPl_isFirst) cdPl_isFirst := by
  intro a is h
  unfold cdPl_isFirst at h
  split at h
  · cases h; exact bPl_isFirst_0
  · cases h; exact bPl_isFirst_11
  · cases h; exact bPl_isFirst_13
  · cases h; exact bPl_isFirst_47
  · cases h; exact bPl_isFirst_53
  · cases h
def qPl_fits_0 : List zIns := [(.iload_n 2, 1, 0, 0, 0, 0, 0, z0), (.istore 6, 2, 0, 0, 0, 0, 0, z0), (.iload 4, 2, 0, 0, 0, 0, 0, z0), (.istore 7, 2, 0, 0, 0, 0, 0, z0)]
def qPl_fits_7 : List zIns := [(.iload 6, 2, 0, 0, 0, 0, 0, z0), (.aload_n 1, 1, 0, 0, 0, 0, 0, z0), (.invokevirtual 78, 3, 0, 0, 0, 0, 0, mRow_size), (.if_icmp .ge (41), 3, 54, 0, 0, 0, 0, z0), (.aload_n 1, 1, 0, 0, 0, 0, 0, z0), (.iload 6, 2, 0, 0, 0, 0, 0, z0), (.invokevirtual 82, 3, 1, 0, 0, 0, 0, mRow_at), (.invokestatic 86, 3, 1, 0, 0, 0, 0, mLine_isWildcard), (.ifCond .ne (29), 3, 54, 0, 0, 0, 0, z0), (.aload_n 1, 1, 0, 0, 0, 0, 0, z0), (.iload 6, 2, 0, 0, 0, 0, 0, z0), (.invokevirtual 82, 3, 1, 0, 0, 0, 0, mRow_at), (.aload_n 3, 1, 0, 0, 0, 0, 0, z0), (.iload 7, 2, 0, 0, 0, 0, 0, z0), (.invokevirtual 82, 3, 1, 0, 0, 0, 0, mRow_at), (.if_icmp .eq (5), 3, 45, 0, 0, 0, 0, z0), (.iconst (0), 1, 0, 0, 0, 0, 0, z0), (.ireturn, 1, 0, 0, 1, 0, 0, z0)]
def qPl_fits_45 : List zIns := [(.iinc 6 (1), 3, 1, 0, 0, 0, 0, z0), (.iinc 7 (1), 3, 1, 0, 0, 0, 0, z0), (.goto (-44), 3, 7, 0, 0, 0, 0, z0)]
def qPl_fits_54 : List zIns := [(.iload 6, 2, 0, 0, 0, 0, 0, z0), (.aload_n 1, 1, 0, 0, 0, 0, 0, z0), (.invokevirtual 78, 3, 0, 0, 0, 0, 0, mRow_size), (.if_icmp .ne (18), 3, 78, 0, 0, 0, 0, z0), (.iload 7, 2, 0, 0, 0, 0, 0, z0), (.aload_n 3, 1, 0, 0, 0, 0, 0, z0), (.invokevirtual 78, 3, 0, 0, 0, 0, 0, mRow_size), (.if_icmp .ne (7), 3, 76, 0, 0, 0, 0, z0), (.iconst (1), 1, 1, 0, 0, 0, 0, z0), (.goto (4), 3, 77, 0, 0, 0, 0, z0)]
def qPl_fits_76 : List zIns := [(.iconst (0), 1, 0, 0, 0, 0, 0, z0)]
def qPl_fits_77 : List zIns := [(.ireturn, 1, 0, 0, 1, 0, 0, z0)]
def qPl_fits_78 : List zIns := [(.iload 5, 2, 0, 0, 0, 0, 0, z0), (.iconst (2), 1, 2, 0, 0, 0, 0, z0), (.if_icmp .lt (5), 3, 86, 0, 0, 0, 0, z0), (.iconst (0), 1, 0, 0, 0, 0, 0, z0), (.ireturn, 1, 0, 0, 1, 0, 0, z0)]
def qPl_fits_86 : List zIns := [(.aload_n 0, 1, 0, 0, 0, 0, 0, z0), (.getfield 21, 3, 3, 2, 0, 0, 0, z0), (.iload 5, 2, 0, 0, 0, 0, 0, z0), (.iload 7, 2, 0, 0, 0, 0, 0, z0), (.iastore, 1, 0, 0, 0, 0, 0, z0), (.iload 7, 2, 0, 0, 0, 0, 0, z0), (.istore 8, 2, 0, 0, 0, 0, 0, z0)]
def qPl_fits_99 : List zIns := [(.iload 8, 2, 0, 0, 0, 0, 0, z0), (.aload_n 3, 1, 0, 0, 0, 0, 0, z0), (.invokevirtual 78, 3, 0, 0, 0, 0, 0, mRow_size), (.if_icmp .gt (72), 3, 177, 0, 0, 0, 0, z0), (.iload 8, 2, 0, 0, 0, 0, 0, z0), (.iload 7, 2, 0, 0, 0, 0, 0, z0), (.if_icmp .le (29), 3, 141, 0, 0, 0, 0, z0), (.aload_n 1, 1, 0, 0, 0, 0, 0, z0), (.iload 6, 2, 0, 0, 0, 0, 0, z0), (.invokevirtual 82, 3, 1, 0, 0, 0, 0, mRow_at), (.bipush (42), 2, 42, 0, 0, 0, 0, z0), (.if_icmp .ne (18), 3, 141, 0, 0, 0, 0, z0), (.aload_n 3, 1, 0, 0, 0, 0, 0, z0), (.iload 8, 2, 0, 0, 0, 0, 0, z0), (.iconst (1), 1, 1, 0, 0, 0, 0, z0), (.isub, 1, 0, 0, 0, 0, 0, z0), (.invokevirtual 82, 3, 1, 0, 0, 0, 0, mRow_at), (.bipush (47), 2, 47, 0, 0, 0, 0, z0), (.if_icmp .ne (5), 3, 141, 0, 0, 0, 0, z0), (.iconst (0), 1, 0, 0, 0, 0, 0, z0), (.ireturn, 1, 0, 0, 1, 0, 0, z0)]
def qPl_fits_141 : List zIns := [(.aload_n 0, 1, 0, 0, 0, 0, 0, z0), (.getfield 25, 3, 3, 3, 0, 0, 0, z0), (.iload 5, 2, 0, 0, 0, 0, 0, z0), (.iload 8, 2, 0, 0, 0, 0, 0, z0), (.iastore, 1, 0, 0, 0, 0, 0, z0), (.aload_n 0, 1, 0, 0, 0, 0, 0, z0), (.aload_n 1, 1, 0, 0, 0, 0, 0, z0), (.iload 6, 2, 0, 0, 0, 0, 0, z0), (.iconst (1), 1, 1, 0, 0, 0, 0, z0), (.iadd, 1, 0, 0, 0, 0, 0, z0), (.aload_n 3, 1, 0, 0, 0, 0, 0, z0), (.iload 8, 2, 0, 0, 0, 0, 0, z0), (.iload 5, 2, 0, 0, 0, 0, 0, z0), (.iconst (1), 1, 1, 0, 0, 0, 0, z0), (.iadd, 1, 0, 0, 0, 0, 0, z0), (.invokevirtual 66, 3, 5, 3, 0, 0, 0, mPl_fits), (.ifCond .eq (5), 3, 171, 0, 0, 0, 0, z0), (.iconst (1), 1, 1, 0, 0, 0, 0, z0), (.ireturn, 1, 0, 0, 1, 0, 0, z0)]
def qPl_fits_171 : List zIns := [(.iinc 8 (1), 3, 1, 0, 0, 0, 0, z0), (.goto (-75), 3, 99, 0, 0, 0, 0, z0)]
def qPl_fits_177 : List zIns := [(.iconst (0), 1, 0, 0, 0, 0, 0, z0), (.ireturn, 1, 0, 0, 1, 0, 0, z0)]
def cdPl_fits : zCd := fun a => match a with
  | 0 => some qPl_fits_0
  | 7 => some qPl_fits_7
  | 45 => some qPl_fits_45
  | 54 => some qPl_fits_54
  | 76 => some qPl_fits_76
  | 77 => some qPl_fits_77
  | 78 => some qPl_fits_78
  | 86 => some qPl_fits_86
  | 99 => some qPl_fits_99
  | 141 => some qPl_fits_141
  | 171 => some qPl_fits_171
  | 177 => some qPl_fits_177
  | _ => none
set_option maxRecDepth 100000 in
theorem bPl_fits_0 : zcode (mPl_fits) 0 qPl_fits_0 := zcode_of (by decide +kernel) (zoks_cons rfl (zoks_cons rfl (zoks_cons rfl (zoks_cons rfl trivial))))
set_option maxRecDepth 100000 in
theorem bPl_fits_7 : zcode (mPl_fits) 7 qPl_fits_7 := zcode_of (by decide +kernel) (zoks_cons rfl (zoks_cons rfl (zoks_cons (And.intro rfl kV95) (zoks_cons (And.intro rfl (by decide)) (zoks_cons rfl (zoks_cons rfl (zoks_cons (And.intro rfl kV96) (zoks_cons (And.intro rfl kS20) (zoks_cons (And.intro rfl (by decide)) (zoks_cons rfl (zoks_cons rfl (zoks_cons (And.intro rfl kV96) (zoks_cons rfl (zoks_cons rfl (zoks_cons (And.intro rfl kV96) (zoks_cons (And.intro rfl (by decide)) (zoks_cons (And.intro rfl (by decide)) (zoks_cons (And.intro rfl (Or.inr (Or.inl ⟨rfl, rfl⟩))) trivial))))))))))))))))))
set_option maxRecDepth 100000 in
theorem bPl_fits_45 : zcode (mPl_fits) 45 qPl_fits_45 := zcode_of (by decide +kernel) (zoks_cons (And.intro rfl (by decide)) (zoks_cons (And.intro rfl (by decide)) (zoks_cons (And.intro rfl (by decide)) trivial)))
set_option maxRecDepth 100000 in
theorem bPl_fits_54 : zcode (mPl_fits) 54 qPl_fits_54 := zcode_of (by decide +kernel) (zoks_cons rfl (zoks_cons rfl (zoks_cons (And.intro rfl kV95) (zoks_cons (And.intro rfl (by decide)) (zoks_cons rfl (zoks_cons rfl (zoks_cons (And.intro rfl kV95) (zoks_cons (And.intro rfl (by decide)) (zoks_cons (And.intro rfl (by decide)) (zoks_cons (And.intro rfl (by decide)) trivial))))))))))
set_option maxRecDepth 100000 in
theorem bPl_fits_76 : zcode (mPl_fits) 76 qPl_fits_76 := zcode_of (by decide +kernel) (zoks_cons (And.intro rfl (by decide)) trivial)
set_option maxRecDepth 100000 in
theorem bPl_fits_77 : zcode (mPl_fits) 77 qPl_fits_77 := zcode_of (by decide +kernel) (zoks_cons (And.intro rfl (Or.inr (Or.inl ⟨rfl, rfl⟩))) trivial)
set_option maxRecDepth 100000 in
theorem bPl_fits_78 : zcode (mPl_fits) 78 qPl_fits_78 := zcode_of (by decide +kernel) (zoks_cons rfl (zoks_cons (And.intro rfl (by decide)) (zoks_cons (And.intro rfl (by decide)) (zoks_cons (And.intro rfl (by decide)) (zoks_cons (And.intro rfl (Or.inr (Or.inl ⟨rfl, rfl⟩))) trivial)))))
set_option maxRecDepth 100000 in
theorem bPl_fits_86 : zcode (mPl_fits) 86 qPl_fits_86 := zcode_of (by decide +kernel) (zoks_cons rfl (zoks_cons (And.intro rfl kF92) (zoks_cons rfl (zoks_cons rfl (zoks_cons (And.intro rfl rfl) (zoks_cons rfl (zoks_cons rfl trivial)))))))
set_option maxRecDepth 100000 in
theorem bPl_fits_99 : zcode (mPl_fits) 99 qPl_fits_99 := zcode_of (by decide +kernel) (zoks_cons rfl (zoks_cons rfl (zoks_cons (And.intro rfl kV95) (zoks_cons (And.intro rfl (by decide)) (zoks_cons rfl (zoks_cons rfl (zoks_cons (And.intro rfl (by decide)) (zoks_cons rfl (zoks_cons rfl (zoks_cons (And.intro rfl kV96) (zoks_cons (And.intro rfl (by decide)) (zoks_cons (And.intro rfl (by decide)) (zoks_cons rfl (zoks_cons rfl (zoks_cons (And.intro rfl (by decide)) (zoks_cons rfl (zoks_cons (And.intro rfl kV96) (zoks_cons (And.intro rfl (by decide)) (zoks_cons (And.intro rfl (by decide)) (zoks_cons (And.intro rfl (by decide)) (zoks_cons (And.intro rfl (Or.inr (Or.inl ⟨rfl, rfl⟩))) trivial)))))))))))))))))))))
set_option maxRecDepth 100000 in
theorem bPl_fits_141 : zcode (mPl_fits) 141 qPl_fits_141 := zcode_of (by decide +kernel) (zoks_cons rfl (zoks_cons (And.intro rfl kF93) (zoks_cons rfl (zoks_cons rfl (zoks_cons (And.intro rfl rfl) (zoks_cons rfl (zoks_cons rfl (zoks_cons rfl (zoks_cons (And.intro rfl (by decide)) (zoks_cons rfl (zoks_cons rfl (zoks_cons rfl (zoks_cons rfl (zoks_cons (And.intro rfl (by decide)) (zoks_cons rfl (zoks_cons (And.intro rfl kV92) (zoks_cons (And.intro rfl (by decide)) (zoks_cons (And.intro rfl (by decide)) (zoks_cons (And.intro rfl (Or.inr (Or.inl ⟨rfl, rfl⟩))) trivial)))))))))))))))))))
set_option maxRecDepth 100000 in
theorem bPl_fits_171 : zcode (mPl_fits) 171 qPl_fits_171 := zcode_of (by decide +kernel) (zoks_cons (And.intro rfl (by decide)) (zoks_cons (And.intro rfl (by decide)) trivial))
set_option maxRecDepth 100000 in
theorem bPl_fits_177 : zcode (mPl_fits) 177 qPl_fits_177 := zcode_of (by decide +kernel) (zoks_cons (And.intro rfl (by decide)) (zoks_cons (And.intro rfl (Or.inr (Or.inl ⟨rfl, rfl⟩))) trivial))
theorem kPl_fits : zcd (mPl_fits) cdPl_fits := by
  intro a is h
  unfold cdPl_fits at h
  split at h
  · cases h; exact bPl_fits_0
  · cases h; exact bPl_fits_7
  · cases h; exact bPl_fits_45
  · cases h; exact bPl_fits_54
  · cases h; exact bPl_fits_76
  · cases h; exact bPl_fits_77
  · cases h; exact bPl_fits_78
  · cases h; exact bPl_fits_86
  · cases h; exact bPl_fits_99
  · cases h; exact bPl_fits_141
  · cases h; exact bPl_fits_171
  · cases h; exact bPl_fits_177
  · cases h
def qPl_layBy_0 : List zIns := [(.aload_n 0, 1, 0, 0, 0, 0, 0, z0), (.getfield 17, 3, 3, 1, 0, 0, 0, z0), (.iload_n 3, 1, 0, 0, 0, 0, 0, z0), (.aload_n 1, 1, 0, 0, 0, 0, 0, z0), (.getfield 90, 3, 1, 2, 0, 0, 0, z0), (.ifCond .ne (7), 3, 16, 0, 0, 0, 0, z0), (.iconst (1), 1, 1, 0, 0, 0, 0, z0), (.goto (4), 3, 17, 0, 0, 0, 0, z0)]
def qPl_layBy_16 : List zIns := [(.iconst (0), 1, 0, 0, 0, 0, 0, z0)]
def qPl_layBy_17 : List zIns := [(.bastore, 1, 2, 0, 0, 0, 0, z0), (.iconst (0), 1, 0, 0, 0, 0, 0, z0), (.istore 4, 2, 0, 0, 0, 0, 0, z0), (.iconst (0), 1, 0, 0, 0, 0, 0, z0), (.istore 5, 2, 0, 0, 0, 0, 0, z0)]
def qPl_layBy_24 : List zIns := [(.iload 5, 2, 0, 0, 0, 0, 0, z0), (.aload_n 1, 1, 0, 0, 0, 0, 0, z0), (.getfield 94, 3, 1, 1, 0, 0, 0, z0), (.invokevirtual 78, 3, 0, 0, 0, 0, 0, mRow_size), (.if_icmp .ge (76), 3, 109, 0, 0, 0, 0, z0), (.aload_n 1, 1, 0, 0, 0, 0, 0, z0), (.getfield 94, 3, 1, 1, 0, 0, 0, z0), (.iload 5, 2, 0, 0, 0, 0, 0, z0), (.invokevirtual 82, 3, 1, 0, 0, 0, 0, mRow_at), (.istore 6, 2, 0, 0, 0, 0, 0, z0), (.iload 6, 2, 0, 0, 0, 0, 0, z0), (.invokestatic 86, 3, 1, 0, 0, 0, 0, mLine_isWildcard), (.ifCond .eq (39), 3, 91, 0, 0, 0, 0, z0), (.iload 4, 2, 0, 0, 0, 0, 0, z0), (.iconst (2), 1, 2, 0, 0, 0, 0, z0), (.if_icmp .ge (33), 3, 91, 0, 0, 0, 0, z0), (.aload_n 0, 1, 0, 0, 0, 0, 0, z0), (.getfield 11, 3, 3, 0, 0, 0, 0, z0), (.iload_n 3, 1, 0, 0, 0, 0, 0, z0), (.aaload, 1, 3, 0, 0, 0, 0, z0), (.aload_n 2, 1, 0, 0, 0, 0, 0, z0), (.aload_n 0, 1, 0, 0, 0, 0, 0, z0), (.getfield 21, 3, 3, 2, 0, 0, 0, z0), (.iload 4, 2, 0, 0, 0, 0, 0, z0), (.iaload, 1, 0, 0, 0, 0, 0, z0), (.aload_n 0, 1, 0, 0, 0, 0, 0, z0), (.getfield 25, 3, 3, 3, 0, 0, 0, z0), (.iload 4, 2, 0, 0, 0, 0, 0, z0), (.iaload, 1, 0, 0, 0, 0, 0, z0), (.invokevirtual 97, 3, 3, 0, 0, 0, 0, mRow_appendPart), (.iinc 4 (1), 3, 1, 0, 0, 0, 0, z0), (.goto (15), 3, 103, 0, 0, 0, 0, z0)]
def qPl_layBy_91 : List zIns := [(.aload_n 0, 1, 0, 0, 0, 0, 0, z0), (.getfield 11, 3, 3, 0, 0, 0, 0, z0), (.iload_n 3, 1, 0, 0, 0, 0, 0, z0), (.aaload, 1, 3, 0, 0, 0, 0, z0), (.iload 6, 2, 0, 0, 0, 0, 0, z0), (.invokevirtual 101, 3, 1, 0, 0, 0, 0, mRow_append), (.pop, 1, 0, 0, 0, 0, 0, z0)]
def qPl_layBy_103 : List zIns := [(.iinc 5 (1), 3, 1, 0, 0, 0, 0, z0), (.goto (-82), 3, 24, 0, 0, 0, 0, z0)]
def qPl_layBy_109 : List zIns := [(.return_, 1, 0, 0, 0, 0, 0, z0)]
def cdPl_layBy : zCd := fun a => match a with
  | 0 => some qPl_layBy_0
  | 16 => some qPl_layBy_16
  | 17 => some qPl_layBy_17
  | 24 => some qPl_layBy_24
  | 91 => some qPl_layBy_91
  | 103 => some qPl_layBy_103
  | 109 => some qPl_layBy_109
  | _ => none
set_option maxRecDepth 100000 in
theorem bPl_layBy_0 : zcode (mPl_layBy) 0 qPl_layBy_0 := zcode_of (by decide +kernel) (zoks_cons rfl (zoks_cons (And.intro rfl kF87) (zoks_cons rfl (zoks_cons rfl (zoks_cons (And.intro rfl kF94) (zoks_cons (And.intro rfl (by decide)) (zoks_cons (And.intro rfl (by decide)) (zoks_cons (And.intro rfl (by decide)) trivial))))))))
set_option maxRecDepth 100000 in
theorem bPl_layBy_16 : zcode (mPl_layBy) 16 qPl_layBy_16 := zcode_of (by decide +kernel) (zoks_cons (And.intro rfl (by decide)) trivial)
set_option maxRecDepth 100000 in
theorem bPl_layBy_17 : zcode (mPl_layBy) 17 qPl_layBy_17 := zcode_of (by decide +kernel) (zoks_cons (And.intro rfl rfl) (zoks_cons (And.intro rfl (by decide)) (zoks_cons rfl (zoks_cons (And.intro rfl (by decide)) (zoks_cons rfl trivial)))))
set_option maxRecDepth 100000 in
theorem bPl_layBy_24 : zcode (mPl_layBy) 24 qPl_layBy_24 := zcode_of (by decide +kernel) (zoks_cons rfl (zoks_cons rfl (zoks_cons (And.intro rfl kF95) (zoks_cons (And.intro rfl kV95) (zoks_cons (And.intro rfl (by decide)) (zoks_cons rfl (zoks_cons (And.intro rfl kF95) (zoks_cons rfl (zoks_cons (And.intro rfl kV96) (zoks_cons rfl (zoks_cons rfl (zoks_cons (And.intro rfl kS20) (zoks_cons (And.intro rfl (by decide)) (zoks_cons rfl (zoks_cons (And.intro rfl (by decide)) (zoks_cons (And.intro rfl (by decide)) (zoks_cons rfl (zoks_cons (And.intro rfl kF85) (zoks_cons rfl (zoks_cons (And.intro rfl ⟨_, rfl⟩) (zoks_cons rfl (zoks_cons rfl (zoks_cons (And.intro rfl kF92) (zoks_cons rfl (zoks_cons (And.intro rfl rfl) (zoks_cons rfl (zoks_cons (And.intro rfl kF93) (zoks_cons rfl (zoks_cons (And.intro rfl rfl) (zoks_cons (And.intro rfl kV97) (zoks_cons (And.intro rfl (by decide)) (zoks_cons (And.intro rfl (by decide)) trivial))))))))))))))))))))))))))))))))
set_option maxRecDepth 100000 in
theorem bPl_layBy_91 : zcode (mPl_layBy) 91 qPl_layBy_91 := zcode_of (by decide +kernel) (zoks_cons rfl (zoks_cons (And.intro rfl kF85) (zoks_cons rfl (zoks_cons (And.intro rfl ⟨_, rfl⟩) (zoks_cons rfl (zoks_cons (And.intro rfl kV98) (zoks_cons rfl trivial)))))))
set_option maxRecDepth 100000 in
theorem bPl_layBy_103 : zcode (mPl_layBy) 103 qPl_layBy_103 := zcode_of (by decide +kernel) (zoks_cons (And.intro rfl (by decide)) (zoks_cons (And.intro rfl (by decide)) trivial))
set_option maxRecDepth 100000 in
theorem bPl_layBy_109 : zcode (mPl_layBy) 109 qPl_layBy_109 := zcode_of (by decide +kernel) (zoks_cons (And.intro rfl rfl) trivial)
theorem kPl_layBy : zcd (mPl_layBy) cdPl_layBy := by
  intro a is h
  unfold cdPl_layBy at h
  split at h
  · cases h; exact bPl_layBy_0
  · cases h; exact bPl_layBy_16
  · cases h; exact bPl_layBy_17
  · cases h; exact bPl_layBy_24
  · cases h; exact bPl_layBy_91
  · cases h; exact bPl_layBy_103
  · cases h; exact bPl_layBy_109
  · cases h
def qRev_init_0 : List zIns := [(.aload_n 0, 1, 0, 0, 0, 0, 0, z0), (.invokespecial 3, 3, 0, 0, 1, 0, 0, z0), (.aload_n 0, 1, 0, 0, 0, 0, 0, z0), (.iconst (0), 1, 0, 0, 0, 0, 0, z0), (.putfield 9, 3, 4, 0, 0, 0, 0, z0), (.aload_n 0, 1, 0, 0, 0, 0, 0, z0), (.iconst (0), 1, 0, 0, 0, 0, 0, z0), (.putfield 15, 3, 4, 1, 0, 0, 0, z0), (.aload_n 0, 1, 0, 0, 0, 0, 0, z0), (.iconst (0), 1, 0, 0, 0, 0, 0, z0), (.putfield 18, 3, 4, 2, 0, 0, 0, z0), (.aload_n 0, 1, 0, 0, 0, 0, 0, z0), (.iconst (1), 1, 1, 0, 0, 0, 0, z0), (.putfield 21, 3, 4, 3, 0, 0, 0, z0), (.aload_n 0, 1, 0, 0, 0, 0, 0, z0), (.iconst (0), 1, 0, 0, 0, 0, 0, z0), (.putfield 25, 3, 4, 4, 0, 0, 0, z0), (.aload_n 0, 1, 0, 0, 0, 0, 0, z0), (.aconst_null, 1, 0, 0, 0, 0, 0, z0), (.putfield 28, 3, 4, 5, 0, 0, 0, z0), (.return_, 1, 0, 0, 0, 0, 0, z0)]
def cdRev_init : zCd := fun a => match a with
  | 0 => some qRev_init_0
  | _ => none
set_option maxRecDepth 100000 in
theorem bRev_init_0 : zcode (mRev_init) 0 qRev_init_0 := zcode_of (by decide +kernel) (zoks_cons rfl (zoks_cons (And.intro rfl kL7) (zoks_cons rfl (zoks_cons (And.intro rfl (by decide)) (zoks_cons (And.intro rfl (And.intro rfl kP73)) (zoks_cons rfl (zoks_cons (And.intro rfl (by decide)) (zoks_cons (And.intro rfl (And.intro rfl kP74)) (zoks_cons rfl (zoks_cons (And.intro rfl (by decide)) (zoks_cons (And.intro rfl (And.intro rfl kP75)) (zoks_cons rfl (zoks_cons (And.intro rfl (by decide)) (zoks_cons (And.intro rfl (And.intro rfl kP76)) (zoks_cons rfl (zoks_cons (And.intro rfl (by decide)) (zoks_cons (And.intro rfl (And.intro rfl kP77)) (zoks_cons rfl (zoks_cons rfl (zoks_cons (And.intro rfl (And.intro rfl kP78)) (zoks_cons (And.intro rfl rfl) trivial)))))))))))))))))))))
theorem kRev_init : zcd (mRev_init) cdRev_init := by
  intro a is h
  unfold cdRev_init at h
  split at h
  · cases h; exact bRev_init_0
  · cases h
def qRev_init2_0 : List zIns := [(.aload_n 0, 1, 0, 0, 0, 0, 0, z0), (.invokespecial 3, 3, 0, 0, 1, 0, 0, z0), (.aload_n 0, 1, 0, 0, 0, 0, 0, z0), (.aload_n 1, 1, 0, 0, 0, 0, 0, z0), (.getfield 9, 3, 4, 0, 0, 0, 0, z0), (.iconst (1), 1, 1, 0, 0, 0, 0, z0), (.iadd, 1, 0, 0, 0, 0, 0, z0), (.putfield 9, 3, 4, 0, 0, 0, 0, z0), (.aload_n 0, 1, 0, 0, 0, 0, 0, z0), (.iload_n 2, 1, 0, 0, 0, 0, 0, z0), (.putfield 15, 3, 4, 1, 0, 0, 0, z0), (.aload_n 0, 1, 0, 0, 0, 0, 0, z0), (.iload 4, 2, 0, 0, 0, 0, 0, z0), (.ifCond .eq (7), 3, 29, 0, 0, 0, 0, z0), (.iconst (0), 1, 0, 0, 0, 0, 0, z0), (.goto (4), 3, 30, 0, 0, 0, 0, z0)]
def qRev_init2_29 : List zIns := [(.iload_n 3, 1, 0, 0, 0, 0, 0, z0)]
def qRev_init2_30 : List zIns := [(.putfield 18, 3, 4, 2, 0, 0, 0, z0), (.aload_n 0, 1, 0, 0, 0, 0, 0, z0), (.iload 4, 2, 0, 0, 0, 0, 0, z0), (.putfield 21, 3, 4, 3, 0, 0, 0, z0), (.aload_n 0, 1, 0, 0, 0, 0, 0, z0), (.iload 5, 2, 0, 0, 0, 0, 0, z0), (.putfield 25, 3, 4, 4, 0, 0, 0, z0), (.aload_n 0, 1, 0, 0, 0, 0, 0, z0), (.aload_n 1, 1, 0, 0, 0, 0, 0, z0), (.putfield 28, 3, 4, 5, 0, 0, 0, z0), (.return_, 1, 0, 0, 0, 0, 0, z0)]
def cdRev_init2 : zCd := fun a => match a with
  | 0 => some qRev_init2_0
  | 29 => some qRev_init2_29
  | 30 => some qRev_init2_30
  | _ => none
set_option maxRecDepth 100000 in
theorem bRev_init2_0 : zcode (mRev_init2) 0 qRev_init2_0 := zcode_of (by decide +kernel) (zoks_cons rfl (zoks_cons (And.intro rfl kL7) (zoks_cons rfl (zoks_cons rfl (zoks_cons (And.intro rfl kF96) (zoks_cons (And.intro rfl (by decide)) (zoks_cons rfl (zoks_cons (And.intro rfl (And.intro rfl kP79)) (zoks_cons rfl (zoks_cons rfl (zoks_cons (And.intro rfl (And.intro rfl kP80)) (zoks_cons rfl (zoks_cons rfl (zoks_cons (And.intro rfl (by decide)) (zoks_cons (And.intro rfl (by decide)) (zoks_cons (And.intro rfl (by decide)) trivial))))))))))))))))
set_option maxRecDepth 100000 in
theorem bRev_init2_29 : zcode (mRev_init2) 29 qRev_init2_29 := zcode_of (by decide +kernel) (zoks_cons rfl trivial)
set_option maxRecDepth 100000 in
theorem bRev_init2_30 : zcode (mRev_init2) 30 qRev_init2_30 := zcode_of (by decide +kernel) (zoks_cons (And.intro rfl (And.intro rfl kP81)) (zoks_cons rfl (zoks_cons rfl (zoks_cons (And.intro rfl (And.intro rfl kP82)) (zoks_cons rfl (zoks_cons rfl (zoks_cons (And.intro rfl (And.intro rfl kP83)) (zoks_cons rfl (zoks_cons rfl (zoks_cons (And.intro rfl (And.intro rfl kP84)) (zoks_cons (And.intro rfl rfl) trivial)))))))))))
theorem kRev_init2 : zcd (mRev_init2) cdRev_init2 := by
  intro a is h
  unfold cdRev_init2 at h
  split at h
  · cases h; exact bRev_init2_0
  · cases h; exact bRev_init2_29
  · cases h; exact bRev_init2_30
  · cases h
def qRev_find_0 : List zIns := [(.aload_n 0, 1, 0, 0, 0, 0, 0, z0), (.astore_n 2, 1, 0, 0, 0, 0, 0, z0)]
def qRev_find_2 : List zIns := [(.aload_n 2, 1, 0, 0, 0, 0, 0, z0), (.ifnull (21), 3, 24, 0, 0, 0, 0, z0), (.aload_n 2, 1, 0, 0, 0, 0, 0, z0), (.getfield 9, 3, 4, 0, 0, 0, 0, z0), (.iload_n 1, 1, 0, 0, 0, 0, 0, z0), (.if_icmp .ne (5), 3, 16, 0, 0, 0, 0, z0), (.aload_n 2, 1, 0, 0, 0, 0, 0, z0), (.areturn, 1, 0, 0, 0, 0, 0, z0)]
def qRev_find_16 : List zIns := [(.aload_n 2, 1, 0, 0, 0, 0, 0, z0), (.getfield 28, 3, 4, 5, 0, 0, 0, z0), (.astore_n 2, 1, 0, 0, 0, 0, 0, z0), (.goto (-19), 3, 2, 0, 0, 0, 0, z0)]
def qRev_find_24 : List zIns := [(.aconst_null, 1, 0, 0, 0, 0, 0, z0), (.areturn, 1, 0, 0, 0, 0, 0, z0)]
def cdRev_find : zCd := fun a => match a with
  | 0 => some qRev_find_0
  | 2 => some qRev_find_2
  | 16 => some qRev_find_16
  | 24 => some qRev_find_24
  | _ => none
set_option maxRecDepth 100000 in
theorem bRev_find_0 : zcode (mRev_find) 0 qRev_find_0 := zcode_of (by decide +kernel) (zoks_cons rfl (zoks_cons rfl trivial))
set_option maxRecDepth 100000 in
theorem bRev_find_2 : zcode (mRev_find) 2 qRev_find_2 := zcode_of (by decide +kernel) (zoks_cons rfl (zoks_cons (And.intro rfl (by decide)) (zoks_cons rfl (zoks_cons (And.intro rfl kF96) (zoks_cons rfl (zoks_cons (And.intro rfl (by decide)) (zoks_cons rfl (zoks_cons (And.intro rfl ⟨"DepotServer$Revision", rfl⟩) trivial))))))))
set_option maxRecDepth 100000 in
theorem bRev_find_16 : zcode (mRev_find) 16 qRev_find_16 := zcode_of (by decide +kernel) (zoks_cons rfl (zoks_cons (And.intro rfl kF97) (zoks_cons rfl (zoks_cons (And.intro rfl (by decide)) trivial))))
set_option maxRecDepth 100000 in
theorem bRev_find_24 : zcode (mRev_find) 24 qRev_find_24 := zcode_of (by decide +kernel) (zoks_cons rfl (zoks_cons (And.intro rfl ⟨"DepotServer$Revision", rfl⟩) trivial))
theorem kRev_find : zcd (mRev_find) cdRev_find := by
  intro a is h
  unfold cdRev_find at h
  split at h
  · cases h; exact bRev_find_0
  · cases h; exact bRev_find_2
  · cases h; exact bRev_find_16
  · cases h; exact bRev_find_24
  · cases h
def qRev_findBy_0 : List zIns := [(.aload_n 0, 1, 0, 0, 0, 0, 0, z0), (.astore_n 2, 1, 0, 0, 0, 0, 0, z0)]
def qRev_findBy_2 : List zIns := [(.aload_n 2, 1, 0, 0, 0, 0, 0, z0), (.ifnull (21), 3, 24, 0, 0, 0, 0, z0), (.aload_n 2, 1, 0, 0, 0, 0, 0, z0), (.getfield 15, 3, 4, 1, 0, 0, 0, z0), (.iload_n 1, 1, 0, 0, 0, 0, 0, z0), (.if_icmp .gt (5), 3, 16, 0, 0, 0, 0, z0), (.aload_n 2, 1, 0, 0, 0, 0, 0, z0), (.areturn, 1, 0, 0, 0, 0, 0, z0)]
def qRev_findBy_16 : List zIns := [(.aload_n 2, 1, 0, 0, 0, 0, 0, z0), (.getfield 28, 3, 4, 5, 0, 0, 0, z0), (.astore_n 2, 1, 0, 0, 0, 0, 0, z0), (.goto (-19), 3, 2, 0, 0, 0, 0, z0)]
def qRev_findBy_24 : List zIns := [(.aconst_null, 1, 0, 0, 0, 0, 0, z0), (.areturn, 1, 0, 0, 0, 0, 0, z0)]
def cdRev_findBy : zCd := fun a => match a with
  | 0 => some qRev_findBy_0
  | 2 => some qRev_findBy_2
  | 16 => some qRev_findBy_16
  | 24 => some qRev_findBy_24
  | _ => none
set_option maxRecDepth 100000 in
theorem bRev_findBy_0 : zcode (mRev_findBy) 0 qRev_findBy_0 := zcode_of (by decide +kernel) (zoks_cons rfl (zoks_cons rfl trivial))
set_option maxRecDepth 100000 in
theorem bRev_findBy_2 : zcode (mRev_findBy) 2 qRev_findBy_2 := zcode_of (by decide +kernel) (zoks_cons rfl (zoks_cons (And.intro rfl (by decide)) (zoks_cons rfl (zoks_cons (And.intro rfl kF98) (zoks_cons rfl (zoks_cons (And.intro rfl (by decide)) (zoks_cons rfl (zoks_cons (And.intro rfl ⟨"DepotServer$Revision", rfl⟩) trivial))))))))
set_option maxRecDepth 100000 in
theorem bRev_findBy_16 : zcode (mRev_findBy) 16 qRev_findBy_16 := zcode_of (by decide +kernel) (zoks_cons rfl (zoks_cons (And.intro rfl kF97) (zoks_cons rfl (zoks_cons (And.intro rfl (by decide)) trivial))))
set_option maxRecDepth 100000 in
theorem bRev_findBy_24 : zcode (mRev_findBy) 24 qRev_findBy_24 := zcode_of (by decide +kernel) (zoks_cons rfl (zoks_cons (And.intro rfl ⟨"DepotServer$Revision", rfl⟩) trivial))
theorem kRev_findBy : zcd (mRev_findBy) cdRev_findBy := by
  intro a is h
  unfold cdRev_findBy at h
  split at h
  · cases h; exact bRev_findBy_0
  · cases h; exact bRev_findBy_2
  · cases h; exact bRev_findBy_16
  · cases h; exact bRev_findBy_24
  · cases h
def qRev_tell_0 : List zIns := [(.iload_n 1, 1, 0, 0, 0, 0, 0, z0)]
def qRev_tell_32 : List zIns := [(.aload_n 0, 1, 0, 0, 0, 0, 0, z0), (.getfield 15, 3, 4, 1, 0, 0, 0, z0), (.ireturn, 1, 0, 0, 0, 0, 0, z0)]
def qRev_tell_37 : List zIns := [(.aload_n 0, 1, 0, 0, 0, 0, 0, z0), (.getfield 18, 3, 4, 2, 0, 0, 0, z0), (.ireturn, 1, 0, 0, 0, 0, 0, z0)]
def qRev_tell_42 : List zIns := [(.aload_n 0, 1, 0, 0, 0, 0, 0, z0), (.getfield 21, 3, 4, 3, 0, 0, 0, z0), (.ifCond .eq (7), 3, 53, 0, 0, 0, 0, z0), (.iconst (1), 1, 1, 0, 0, 0, 0, z0), (.goto (4), 3, 54, 0, 0, 0, 0, z0)]
def qRev_tell_53 : List zIns := [(.iconst (0), 1, 0, 0, 0, 0, 0, z0)]
def qRev_tell_54 : List zIns := [(.ireturn, 1, 0, 0, 0, 0, 0, z0)]
def qRev_tell_55 : List zIns := [(.aload_n 0, 1, 0, 0, 0, 0, 0, z0), (.getfield 25, 3, 4, 4, 0, 0, 0, z0), (.ifCond .eq (7), 3, 66, 0, 0, 0, 0, z0), (.iconst (1), 1, 1, 0, 0, 0, 0, z0), (.goto (4), 3, 67, 0, 0, 0, 0, z0)]
def qRev_tell_66 : List zIns := [(.iconst (0), 1, 0, 0, 0, 0, 0, z0)]
def qRev_tell_67 : List zIns := [(.ireturn, 1, 0, 0, 0, 0, 0, z0)]
def qRev_tell_68 : List zIns := [(.iconst (-1), 1, 1, 0, 1, 0, 0, z0), (.ireturn, 1, 0, 0, 0, 0, 0, z0)]
def cdRev_tell : zCd := fun a => match a with
  | 0 => some qRev_tell_0
  | 32 => some qRev_tell_32
  | 37 => some qRev_tell_37
  | 42 => some qRev_tell_42
  | 53 => some qRev_tell_53
  | 54 => some qRev_tell_54
  | 55 => some qRev_tell_55
  | 66 => some qRev_tell_66
  | 67 => some qRev_tell_67
  | 68 => some qRev_tell_68
  | _ => none
set_option maxRecDepth 100000 in
theorem bRev_tell_0 : zcode (mRev_tell) 0 qRev_tell_0 := zcode_of (by decide +kernel) (zoks_cons rfl trivial)
set_option maxRecDepth 100000 in
theorem bRev_tell_32 : zcode (mRev_tell) 32 qRev_tell_32 := zcode_of (by decide +kernel) (zoks_cons rfl (zoks_cons (And.intro rfl kF98) (zoks_cons (And.intro rfl (Or.inl ⟨rfl, rfl⟩)) trivial)))
set_option maxRecDepth 100000 in
theorem bRev_tell_37 : zcode (mRev_tell) 37 qRev_tell_37 := zcode_of (by decide +kernel) (zoks_cons rfl (zoks_cons (And.intro rfl kF99) (zoks_cons (And.intro rfl (Or.inl ⟨rfl, rfl⟩)) trivial)))
set_option maxRecDepth 100000 in
theorem bRev_tell_42 : zcode (mRev_tell) 42 qRev_tell_42 := zcode_of (by decide +kernel) (zoks_cons rfl (zoks_cons (And.intro rfl kF100) (zoks_cons (And.intro rfl (by decide)) (zoks_cons (And.intro rfl (by decide)) (zoks_cons (And.intro rfl (by decide)) trivial)))))
set_option maxRecDepth 100000 in
theorem bRev_tell_53 : zcode (mRev_tell) 53 qRev_tell_53 := zcode_of (by decide +kernel) (zoks_cons (And.intro rfl (by decide)) trivial)
set_option maxRecDepth 100000 in
theorem bRev_tell_54 : zcode (mRev_tell) 54 qRev_tell_54 := zcode_of (by decide +kernel) (zoks_cons (And.intro rfl (Or.inl ⟨rfl, rfl⟩)) trivial)
set_option maxRecDepth 100000 in
theorem bRev_tell_55 : zcode (mRev_tell) 55 qRev_tell_55 := zcode_of (by decide +kernel) (zoks_cons rfl (zoks_cons (And.intro rfl kF101) (zoks_cons (And.intro rfl (by decide)) (zoks_cons (And.intro rfl (by decide)) (zoks_cons (And.intro rfl (by decide)) trivial)))))
set_option maxRecDepth 100000 in
theorem bRev_tell_66 : zcode (mRev_tell) 66 qRev_tell_66 := zcode_of (by decide +kernel) (zoks_cons (And.intro rfl (by decide)) trivial)
set_option maxRecDepth 100000 in
theorem bRev_tell_67 : zcode (mRev_tell) 67 qRev_tell_67 := zcode_of (by decide +kernel) (zoks_cons (And.intro rfl (Or.inl ⟨rfl, rfl⟩)) trivial)
set_option maxRecDepth 100000 in
theorem bRev_tell_68 : zcode (mRev_tell) 68 qRev_tell_68 := zcode_of (by decide +kernel) (zoks_cons (And.intro rfl (by decide)) (zoks_cons (And.intro rfl (Or.inl ⟨rfl, rfl⟩)) trivial))
theorem kRev_tell : zcd (mRev_tell) cdRev_tell := by
  intro a is h
  unfold cdRev_tell at h
  split at h
  · cases h; exact bRev_tell_0
  · cases h; exact bRev_tell_32
  · cases h; exact bRev_tell_37
  · cases h; exact bRev_tell_42
  · cases h; exact bRev_tell_53
  · cases h; exact bRev_tell_54
  · cases h; exact bRev_tell_55
  · cases h; exact bRev_tell_66
  · cases h; exact bRev_tell_67
  · cases h; exact bRev_tell_68
  · cases h
def qRow_init_0 : List zIns := [(.aload_n 0, 1, 0, 0, 0, 0, 0, z0), (.invokespecial 1, 3, 0, 0, 1, 0, 0, z0), (.aload_n 0, 1, 0, 0, 0, 0, 0, z0), (.iload_n 1, 1, 0, 0, 0, 0, 0, z0), (.newarray .char, 2, 1, 0, 0, 0, 0, z0), (.putfield 7, 3, 0, 0, 0, 0, 0, z0), (.return_, 1, 0, 0, 0, 0, 0, z0)]
def cdRow_init : zCd := fun a => match a with
  | 0 => some qRow_init_0
  | _ => none
set_option maxRecDepth 100000 in
theorem bRow_init_0 : zcode (mRow_init) 0 qRow_init_0 := zcode_of (by decide +kernel) (zoks_cons rfl (zoks_cons (And.intro rfl kL8) (zoks_cons rfl (zoks_cons rfl (zoks_cons (And.intro rfl (And.intro rfl zT_achar)) (zoks_cons (And.intro rfl (And.intro rfl kP85)) (zoks_cons (And.intro rfl rfl) trivial)))))))
theorem kRow_init : zcd (mRow_init) cdRow_init := by
  intro a is h
  unfold cdRow_init at h
  split at h
  · cases h; exact bRow_init_0
  · cases h
def qRow_size_0 : List zIns := [(.aload_n 0, 1, 0, 0, 0, 0, 0, z0), (.getfield 13, 3, 0, 1, 0, 0, 0, z0), (.ireturn, 1, 0, 0, 0, 0, 0, z0)]
def cdRow_size : zCd := fun a => match a with
  | 0 => some qRow_size_0
  | _ => none
set_option maxRecDepth 100000 in
theorem bRow_size_0 : zcode (mRow_size) 0 qRow_size_0 := zcode_of (by decide +kernel) (zoks_cons rfl (zoks_cons (And.intro rfl kF102) (zoks_cons (And.intro rfl (Or.inl ⟨rfl, rfl⟩)) trivial)))
theorem kRow_size : zcd (mRow_size) cdRow_size := by
  intro a is h
  unfold cdRow_size at h
  split at h
  · cases h; exact bRow_size_0
  · cases h
def qRow_at_0 : List zIns := [(.iload_n 1, 1, 0, 0, 0, 0, 0, z0), (.ifCond .lt (20), 3, 21, 0, 0, 0, 0, z0), (.iload_n 1, 1, 0, 0, 0, 0, 0, z0), (.aload_n 0, 1, 0, 0, 0, 0, 0, z0), (.getfield 13, 3, 0, 1, 0, 0, 0, z0), (.if_icmp .ge (12), 3, 21, 0, 0, 0, 0, z0), (.aload_n 0, 1, 0, 0, 0, 0, 0, z0), (.getfield 7, 3, 0, 0, 0, 0, 0, z0), (.iload_n 1, 1, 0, 0, 0, 0, 0, z0), (.caload, 1, 1, 0, 0, 0, 0, z0), (.goto (4), 3, 22, 0, 0, 0, 0, z0)]
def qRow_at_21 : List zIns := [(.iconst (0), 1, 0, 0, 0, 0, 0, z0)]
def qRow_at_22 : List zIns := [(.ireturn, 1, 0, 0, 2, 0, 0, z0)]
def cdRow_at : zCd := fun a => match a with
  | 0 => some qRow_at_0
  | 21 => some qRow_at_21
  | 22 => some qRow_at_22
  | _ => none
set_option maxRecDepth 100000 in
theorem bRow_at_0 : zcode (mRow_at) 0 qRow_at_0 := zcode_of (by decide +kernel) (zoks_cons rfl (zoks_cons (And.intro rfl (by decide)) (zoks_cons rfl (zoks_cons rfl (zoks_cons (And.intro rfl kF102) (zoks_cons (And.intro rfl (by decide)) (zoks_cons rfl (zoks_cons (And.intro rfl kF103) (zoks_cons rfl (zoks_cons (And.intro rfl rfl) (zoks_cons (And.intro rfl (by decide)) trivial)))))))))))
set_option maxRecDepth 100000 in
theorem bRow_at_21 : zcode (mRow_at) 21 qRow_at_21 := zcode_of (by decide +kernel) (zoks_cons (And.intro rfl (by decide)) trivial)
set_option maxRecDepth 100000 in
theorem bRow_at_22 : zcode (mRow_at) 22 qRow_at_22 := zcode_of (by decide +kernel) (zoks_cons (And.intro rfl (Or.inr (Or.inr ⟨rfl, rfl⟩))) trivial)
theorem kRow_at : zcd (mRow_at) cdRow_at := by
  intro a is h
  unfold cdRow_at at h
  split at h
  · cases h; exact bRow_at_0
  · cases h; exact bRow_at_21
  · cases h; exact bRow_at_22
  · cases h
def qRow_append_0 : List zIns := [(.aload_n 0, 1, 0, 0, 0, 0, 0, z0), (.getfield 13, 3, 0, 1, 0, 0, 0, z0), (.aload_n 0, 1, 0, 0, 0, 0, 0, z0), (.getfield 7, 3, 0, 0, 0, 0, 0, z0), (.arraylength, 1, 1, 0, 0, 0, 0, z0), (.if_icmp .lt (5), 3, 14, 0, 0, 0, 0, z0), (.iconst (0), 1, 0, 0, 0, 0, 0, z0), (.ireturn, 1, 0, 0, 1, 0, 0, z0)]
def qRow_append_14 : List zIns := [(.aload_n 0, 1, 0, 0, 0, 0, 0, z0), (.getfield 7, 3, 0, 0, 0, 0, 0, z0), (.aload_n 0, 1, 0, 0, 0, 0, 0, z0), (.getfield 13, 3, 0, 1, 0, 0, 0, z0), (.iload_n 1, 1, 0, 0, 0, 0, 0, z0), (.castore, 1, 1, 0, 0, 0, 0, z0), (.aload_n 0, 1, 0, 0, 0, 0, 0, z0), (.dup, 1, 0, 0, 0, 0, 0, z0), (.getfield 13, 3, 0, 1, 0, 0, 0, z0), (.iconst (1), 1, 1, 0, 0, 0, 0, z0), (.iadd, 1, 0, 0, 0, 0, 0, z0), (.putfield 13, 3, 0, 1, 0, 0, 0, z0), (.iconst (1), 1, 1, 0, 0, 0, 0, z0), (.ireturn, 1, 0, 0, 1, 0, 0, z0)]
def cdRow_append : zCd := fun a => match a with
  | 0 => some qRow_append_0
  | 14 => some qRow_append_14
  | _ => none
set_option maxRecDepth 100000 in
theorem bRow_append_0 : zcode (mRow_append) 0 qRow_append_0 := zcode_of (by decide +kernel) (zoks_cons rfl (zoks_cons (And.intro rfl kF102) (zoks_cons rfl (zoks_cons (And.intro rfl kF103) (zoks_cons (And.intro rfl ⟨_, rfl⟩) (zoks_cons (And.intro rfl (by decide)) (zoks_cons (And.intro rfl (by decide)) (zoks_cons (And.intro rfl (Or.inr (Or.inl ⟨rfl, rfl⟩))) trivial))))))))
set_option maxRecDepth 100000 in
theorem bRow_append_14 : zcode (mRow_append) 14 qRow_append_14 := zcode_of (by decide +kernel) (zoks_cons rfl (zoks_cons (And.intro rfl kF103) (zoks_cons rfl (zoks_cons (And.intro rfl kF102) (zoks_cons rfl (zoks_cons (And.intro rfl rfl) (zoks_cons rfl (zoks_cons rfl (zoks_cons (And.intro rfl kF102) (zoks_cons (And.intro rfl (by decide)) (zoks_cons rfl (zoks_cons (And.intro rfl (And.intro rfl (kP86 rfl))) (zoks_cons (And.intro rfl (by decide)) (zoks_cons (And.intro rfl (Or.inr (Or.inl ⟨rfl, rfl⟩))) trivial))))))))))))))
theorem kRow_append : zcd (mRow_append) cdRow_append := by
  intro a is h
  unfold cdRow_append at h
  split at h
  · cases h; exact bRow_append_0
  · cases h; exact bRow_append_14
  · cases h
def qRow_clear_0 : List zIns := [(.aload_n 0, 1, 0, 0, 0, 0, 0, z0), (.iconst (0), 1, 0, 0, 0, 0, 0, z0), (.putfield 13, 3, 0, 1, 0, 0, 0, z0), (.return_, 1, 0, 0, 0, 0, 0, z0)]
def cdRow_clear : zCd := fun a => match a with
  | 0 => some qRow_clear_0
  | _ => none
set_option maxRecDepth 100000 in
theorem bRow_clear_0 : zcode (mRow_clear) 0 qRow_clear_0 := zcode_of (by decide +kernel) (zoks_cons rfl (zoks_cons (And.intro rfl (by decide)) (zoks_cons (And.intro rfl (And.intro rfl (kP86 rfl))) (zoks_cons (And.intro rfl rfl) trivial))))
theorem kRow_clear : zcd (mRow_clear) cdRow_clear := by
  intro a is h
  unfold cdRow_clear at h
  split at h
  · cases h; exact bRow_clear_0
  · cases h
def qRow_appendPart_0 : List zIns := [(.iload_n 2, 1, 0, 0, 0, 0, 0, z0), (.istore 4, 2, 0, 0, 0, 0, 0, z0)]
def qRow_appendPart_3 : List zIns := [(.iload 4, 2, 0, 0, 0, 0, 0, z0), (.iload_n 3, 1, 0, 0, 0, 0, 0, z0), (.if_icmp .ge (20), 3, 26, 0, 0, 0, 0, z0), (.aload_n 0, 1, 0, 0, 0, 0, 0, z0), (.aload_n 1, 1, 0, 0, 0, 0, 0, z0), (.iload 4, 2, 0, 0, 0, 0, 0, z0), (.invokevirtual 17, 3, 1, 0, 0, 0, 0, mRow_at), (.invokevirtual 21, 3, 1, 0, 0, 0, 0, mRow_append), (.pop, 1, 0, 0, 0, 0, 0, z0), (.iinc 4 (1), 3, 1, 0, 0, 0, 0, z0), (.goto (-20), 3, 3, 0, 0, 0, 0, z0)]
def qRow_appendPart_26 : List zIns := [(.return_, 1, 0, 0, 0, 0, 0, z0)]
def cdRow_appendPart : zCd := fun a => match a with
  | 0 => some qRow_appendPart_0
  | 3 => some qRow_appendPart_3
  | 26 => some qRow_appendPart_26
  | _ => none
set_option maxRecDepth 100000 in
theorem bRow_appendPart_0 : zcode (mRow_appendPart) 0 qRow_appendPart_0 := zcode_of (by decide +kernel) (zoks_cons rfl (zoks_cons rfl trivial))
set_option maxRecDepth 100000 in
theorem bRow_appendPart_3 : zcode (mRow_appendPart) 3 qRow_appendPart_3 := zcode_of (by decide +kernel) (zoks_cons rfl (zoks_cons rfl (zoks_cons (And.intro rfl (by decide)) (zoks_cons rfl (zoks_cons rfl (zoks_cons rfl (zoks_cons (And.intro rfl kV99) (zoks_cons (And.intro rfl kV100) (zoks_cons rfl (zoks_cons (And.intro rfl (by decide)) (zoks_cons (And.intro rfl (by decide)) trivial)))))))))))
set_option maxRecDepth 100000 in
theorem bRow_appendPart_26 : zcode (mRow_appendPart) 26 qRow_appendPart_26 := zcode_of (by decide +kernel) (zoks_cons (And.intro rfl rfl) trivial)
theorem kRow_appendPart : zcd (mRow_appendPart) cdRow_appendPart := by
  intro a is h
  unfold cdRow_appendPart at h
  split at h
  · cases h; exact bRow_appendPart_0
  · cases h; exact bRow_appendPart_3
  · cases h; exact bRow_appendPart_26
  · cases h
def qRow_same_0 : List zIns := [(.aload_n 0, 1, 0, 0, 0, 0, 0, z0), (.getfield 13, 3, 0, 1, 0, 0, 0, z0), (.aload_n 1, 1, 0, 0, 0, 0, 0, z0), (.getfield 13, 3, 0, 1, 0, 0, 0, z0), (.if_icmp .eq (5), 3, 13, 0, 0, 0, 0, z0), (.iconst (0), 1, 0, 0, 0, 0, 0, z0), (.ireturn, 1, 0, 0, 1, 0, 0, z0)]
def qRow_same_13 : List zIns := [(.iconst (0), 1, 0, 0, 0, 0, 0, z0), (.istore_n 2, 1, 0, 0, 0, 0, 0, z0)]
def qRow_same_15 : List zIns := [(.iload_n 2, 1, 0, 0, 0, 0, 0, z0), (.aload_n 0, 1, 0, 0, 0, 0, 0, z0), (.getfield 13, 3, 0, 1, 0, 0, 0, z0), (.if_icmp .ge (26), 3, 46, 0, 0, 0, 0, z0), (.aload_n 0, 1, 0, 0, 0, 0, 0, z0), (.getfield 7, 3, 0, 0, 0, 0, 0, z0), (.iload_n 2, 1, 0, 0, 0, 0, 0, z0), (.caload, 1, 1, 0, 0, 0, 0, z0), (.aload_n 1, 1, 0, 0, 0, 0, 0, z0), (.getfield 7, 3, 0, 0, 0, 0, 0, z0), (.iload_n 2, 1, 0, 0, 0, 0, 0, z0), (.caload, 1, 1, 0, 0, 0, 0, z0), (.if_icmp .eq (5), 3, 40, 0, 0, 0, 0, z0), (.iconst (0), 1, 0, 0, 0, 0, 0, z0), (.ireturn, 1, 0, 0, 1, 0, 0, z0)]
def qRow_same_40 : List zIns := [(.iinc 2 (1), 3, 1, 0, 0, 0, 0, z0), (.goto (-28), 3, 15, 0, 0, 0, 0, z0)]
def qRow_same_46 : List zIns := [(.iconst (1), 1, 1, 0, 0, 0, 0, z0), (.ireturn, 1, 0, 0, 1, 0, 0, z0)]
def cdRow_same : zCd := fun a => match a with
  | 0 => some qRow_same_0
  | 13 => some qRow_same_13
  | 15 => some qRow_same_15
  | 40 => some qRow_same_40
  | 46 => some qRow_same_46
  | _ => none
set_option maxRecDepth 100000 in
theorem bRow_same_0 : zcode (mRow_same) 0 qRow_same_0 := zcode_of (by decide +kernel) (zoks_cons rfl (zoks_cons (And.intro rfl kF102) (zoks_cons rfl (zoks_cons (And.intro rfl kF102) (zoks_cons (And.intro rfl (by decide)) (zoks_cons (And.intro rfl (by decide)) (zoks_cons (And.intro rfl (Or.inr (Or.inl ⟨rfl, rfl⟩))) trivial)))))))
set_option maxRecDepth 100000 in
theorem bRow_same_13 : zcode (mRow_same) 13 qRow_same_13 := zcode_of (by decide +kernel) (zoks_cons (And.intro rfl (by decide)) (zoks_cons rfl trivial))
set_option maxRecDepth 100000 in
theorem bRow_same_15 : zcode (mRow_same) 15 qRow_same_15 := zcode_of (by decide +kernel) (zoks_cons rfl (zoks_cons rfl (zoks_cons (And.intro rfl kF102) (zoks_cons (And.intro rfl (by decide)) (zoks_cons rfl (zoks_cons (And.intro rfl kF103) (zoks_cons rfl (zoks_cons (And.intro rfl rfl) (zoks_cons rfl (zoks_cons (And.intro rfl kF103) (zoks_cons rfl (zoks_cons (And.intro rfl rfl) (zoks_cons (And.intro rfl (by decide)) (zoks_cons (And.intro rfl (by decide)) (zoks_cons (And.intro rfl (Or.inr (Or.inl ⟨rfl, rfl⟩))) trivial)))))))))))))))
set_option maxRecDepth 100000 in
theorem bRow_same_40 : zcode (mRow_same) 40 qRow_same_40 := zcode_of (by decide +kernel) (zoks_cons (And.intro rfl (by decide)) (zoks_cons (And.intro rfl (by decide)) trivial))
set_option maxRecDepth 100000 in
theorem bRow_same_46 : zcode (mRow_same) 46 qRow_same_46 := zcode_of (by decide +kernel) (zoks_cons (And.intro rfl (by decide)) (zoks_cons (And.intro rfl (Or.inr (Or.inl ⟨rfl, rfl⟩))) trivial))
theorem kRow_same : zcd (mRow_same) cdRow_same := by
  intro a is h
  unfold cdRow_same at h
  split at h
  · cases h; exact bRow_same_0
  · cases h; exact bRow_same_13
  · cases h; exact bRow_same_15
  · cases h; exact bRow_same_40
  · cases h; exact bRow_same_46
  · cases h
def qSta_init_0 : List zIns := [(.aload_n 0, 1, 0, 0, 0, 0, 0, z0), (.invokespecial 3, 3, 0, 0, 1, 0, 0, z0), (.aload_n 0, 1, 0, 0, 0, 0, 0, z0), (.bipush (12), 2, 12, 0, 0, 0, 0, z0), (.newarray .int, 2, 0, 0, 0, 0, 0, z0), (.putfield 9, 3, 6, 0, 0, 0, 0, z0), (.aload_n 0, 1, 0, 0, 0, 0, 0, z0), (.bipush (12), 2, 12, 0, 0, 0, 0, z0), (.anewarray 15, 3, 5, 0, 0, 0, 0, z0), (.putfield 17, 3, 6, 1, 0, 0, 0, z0), (.aload_n 0, 1, 0, 0, 0, 0, 0, z0), (.bipush (36), 2, 36, 0, 0, 0, 0, z0), (.anewarray 21, 3, 6, 0, 0, 0, 0, z0), (.putfield 23, 3, 6, 5, 0, 0, 0, z0), (.aload_n 0, 1, 0, 0, 0, 0, 0, z0), (.sipush (144), 3, 144, 0, 0, 0, 0, z0), (.newarray .int, 2, 0, 0, 0, 0, 0, z0), (.putfield 27, 3, 6, 6, 0, 0, 0, z0), (.iconst (0), 1, 0, 0, 0, 0, 0, z0), (.istore_n 1, 1, 0, 0, 0, 0, 0, z0)]
def qSta_init_41 : List zIns := [(.iload_n 1, 1, 0, 0, 0, 0, 0, z0), (.aload_n 0, 1, 0, 0, 0, 0, 0, z0), (.getfield 9, 3, 6, 0, 0, 0, 0, z0), (.arraylength, 1, 0, 0, 0, 0, 0, z0), (.if_icmp .ge (16), 3, 63, 0, 0, 0, 0, z0), (.aload_n 0, 1, 0, 0, 0, 0, 0, z0), (.getfield 9, 3, 6, 0, 0, 0, 0, z0), (.iload_n 1, 1, 0, 0, 0, 0, 0, z0), (.iconst (-1), 1, 1, 0, 1, 0, 0, z0), (.iastore, 1, 0, 0, 0, 0, 0, z0), (.iinc 1 (1), 3, 1, 0, 0, 0, 0, z0), (.goto (-19), 3, 41, 0, 0, 0, 0, z0)]
def qSta_init_63 : List zIns := [(.new 15, 3, 4, 6, 0, 0, 0, z0), (.dup, 1, 0, 0, 0, 0, 0, z0), (.invokespecial 30, 3, 0, 0, 0, 0, 0, mRev_init), (.astore_n 1, 1, 0, 0, 0, 0, 0, z0), (.iconst (0), 1, 0, 0, 0, 0, 0, z0), (.istore_n 2, 1, 0, 0, 0, 0, 0, z0)]
def qSta_init_73 : List zIns := [(.iload_n 2, 1, 0, 0, 0, 0, 0, z0), (.bipush (12), 2, 12, 0, 0, 0, 0, z0), (.if_icmp .ge (16), 3, 92, 0, 0, 0, 0, z0), (.aload_n 0, 1, 0, 0, 0, 0, 0, z0), (.getfield 17, 3, 6, 1, 0, 0, 0, z0), (.iload_n 2, 1, 0, 0, 0, 0, 0, z0), (.aload_n 1, 1, 0, 0, 0, 0, 0, z0), (.aastore, 1, 5, 4, 0, 0, 0, z0), (.iinc 2 (1), 3, 1, 0, 0, 0, 0, z0), (.goto (-16), 3, 73, 0, 0, 0, 0, z0)]
def qSta_init_92 : List zIns := [(.iconst (0), 1, 0, 0, 0, 0, 0, z0), (.istore_n 2, 1, 0, 0, 0, 0, 0, z0)]
def qSta_init_94 : List zIns := [(.iload_n 2, 1, 0, 0, 0, 0, 0, z0), (.aload_n 0, 1, 0, 0, 0, 0, 0, z0), (.getfield 23, 3, 6, 5, 0, 0, 0, z0), (.arraylength, 1, 6, 0, 1, 0, 0, z0), (.if_icmp .ge (22), 3, 122, 0, 0, 0, 0, z0), (.aload_n 0, 1, 0, 0, 0, 0, 0, z0), (.getfield 23, 3, 6, 5, 0, 0, 0, z0), (.iload_n 2, 1, 0, 0, 0, 0, 0, z0), (.new 21, 3, 5, 12, 0, 0, 0, z0), (.dup, 1, 0, 0, 0, 0, 0, z0), (.invokespecial 31, 3, 0, 0, 0, 0, 0, mWork_init), (.aastore, 1, 6, 5, 0, 0, 0, z0), (.iinc 2 (1), 3, 1, 0, 0, 0, 0, z0), (.goto (-25), 3, 94, 0, 0, 0, 0, z0)]
def qSta_init_122 : List zIns := [(.return_, 1, 0, 0, 0, 0, 0, z0)]
def cdSta_init : zCd := fun a => match a with
  | 0 => some qSta_init_0
  | 41 => some qSta_init_41
  | 63 => some qSta_init_63
  | 73 => some qSta_init_73
  | 92 => some qSta_init_92
  | 94 => some qSta_init_94
  | 122 => some qSta_init_122
  | _ => none
set_option maxRecDepth 100000 in
theorem bSta_init_0 : zcode (mSta_init) 0 qSta_init_0 := zcode_of (by decide +kernel) (zoks_cons rfl (zoks_cons (And.intro rfl kL9) (zoks_cons rfl (zoks_cons (And.intro rfl (by decide)) (zoks_cons (And.intro rfl (And.intro rfl zT_aint)) (zoks_cons (And.intro rfl (And.intro rfl kP87)) (zoks_cons rfl (zoks_cons (And.intro rfl (by decide)) (zoks_cons (And.intro rfl kA4) (zoks_cons (And.intro rfl (And.intro rfl kP88)) (zoks_cons rfl (zoks_cons (And.intro rfl (by decide)) (zoks_cons (And.intro rfl kA5) (zoks_cons (And.intro rfl (And.intro rfl kP89)) (zoks_cons rfl (zoks_cons (And.intro rfl (by decide)) (zoks_cons (And.intro rfl (And.intro rfl zT_aint)) (zoks_cons (And.intro rfl (And.intro rfl kP90)) (zoks_cons (And.intro rfl (by decide)) (zoks_cons rfl trivial))))))))))))))))))))
set_option maxRecDepth 100000 in
theorem bSta_init_41 : zcode (mSta_init) 41 qSta_init_41 := zcode_of (by decide +kernel) (zoks_cons rfl (zoks_cons rfl (zoks_cons (And.intro rfl kF104) (zoks_cons (And.intro rfl ⟨_, rfl⟩) (zoks_cons (And.intro rfl (by decide)) (zoks_cons rfl (zoks_cons (And.intro rfl kF104) (zoks_cons rfl (zoks_cons (And.intro rfl (by decide)) (zoks_cons (And.intro rfl rfl) (zoks_cons (And.intro rfl (by decide)) (zoks_cons (And.intro rfl (by decide)) trivial))))))))))))
set_option maxRecDepth 100000 in
theorem bSta_init_63 : zcode (mSta_init) 63 qSta_init_63 := zcode_of (by decide +kernel) (zoks_cons (And.intro rfl kN11) (zoks_cons rfl (zoks_cons (And.intro rfl kI11) (zoks_cons rfl (zoks_cons (And.intro rfl (by decide)) (zoks_cons rfl trivial))))))
set_option maxRecDepth 100000 in
theorem bSta_init_73 : zcode (mSta_init) 73 qSta_init_73 := zcode_of (by decide +kernel) (zoks_cons rfl (zoks_cons (And.intro rfl (by decide)) (zoks_cons (And.intro rfl (by decide)) (zoks_cons rfl (zoks_cons (And.intro rfl kF105) (zoks_cons rfl (zoks_cons rfl (zoks_cons (And.intro rfl ⟨zCl[4], rfl, rfl⟩) (zoks_cons (And.intro rfl (by decide)) (zoks_cons (And.intro rfl (by decide)) trivial))))))))))
set_option maxRecDepth 100000 in
theorem bSta_init_92 : zcode (mSta_init) 92 qSta_init_92 := zcode_of (by decide +kernel) (zoks_cons (And.intro rfl (by decide)) (zoks_cons rfl trivial))
set_option maxRecDepth 100000 in
theorem bSta_init_94 : zcode (mSta_init) 94 qSta_init_94 := zcode_of (by decide +kernel) (zoks_cons rfl (zoks_cons rfl (zoks_cons (And.intro rfl kF106) (zoks_cons (And.intro rfl ⟨_, rfl⟩) (zoks_cons (And.intro rfl (by decide)) (zoks_cons rfl (zoks_cons (And.intro rfl kF106) (zoks_cons rfl (zoks_cons (And.intro rfl kN12) (zoks_cons rfl (zoks_cons (And.intro rfl kI12) (zoks_cons (And.intro rfl ⟨zCl[5], rfl, rfl⟩) (zoks_cons (And.intro rfl (by decide)) (zoks_cons (And.intro rfl (by decide)) trivial))))))))))))))
set_option maxRecDepth 100000 in
theorem bSta_init_122 : zcode (mSta_init) 122 qSta_init_122 := zcode_of (by decide +kernel) (zoks_cons (And.intro rfl rfl) trivial)
theorem kSta_init : zcd (mSta_init) cdSta_init := by
  intro a is h
  unfold cdSta_init at h
  split at h
  · cases h; exact bSta_init_0
  · cases h; exact bSta_init_41
  · cases h; exact bSta_init_63
  · cases h; exact bSta_init_73
  · cases h; exact bSta_init_92
  · cases h; exact bSta_init_94
  · cases h; exact bSta_init_122
  · cases h
def qSta_work_0 : List zIns := [(.aload_n 0, 1, 0, 0, 0, 0, 0, z0), (.getfield 23, 3, 6, 5, 0, 0, 0, z0), (.iload_n 1, 1, 0, 0, 0, 0, 0, z0), (.bipush (12), 2, 12, 0, 0, 0, 0, z0), (.imul, 1, 0, 0, 0, 0, 0, z0), (.iload_n 2, 1, 0, 0, 0, 0, 0, z0), (.iadd, 1, 0, 0, 0, 0, 0, z0), (.aaload, 1, 6, 0, 0, 0, 0, z0), (.areturn, 1, 0, 0, 0, 0, 0, z0)]
def cdSta_work : zCd := fun a => match a with
  | 0 => some qSta_work_0
  | _ => none
set_option maxRecDepth 100000 in
theorem bSta_work_0 : zcode (mSta_work) 0 qSta_work_0 := zcode_of (by decide +kernel) (zoks_cons rfl (zoks_cons (And.intro rfl kF106) (zoks_cons rfl (zoks_cons (And.intro rfl (by decide)) (zoks_cons rfl (zoks_cons rfl (zoks_cons rfl (zoks_cons (And.intro rfl ⟨_, rfl⟩) (zoks_cons (And.intro rfl ⟨"DepotServer$Work", rfl⟩) trivial)))))))))
theorem kSta_work : zcd (mSta_work) cdSta_work := by
  intro a is h
  unfold cdSta_work at h
  split at h
  · cases h; exact bSta_work_0
  · cases h
def qSta_joinedUpTo_0 : List zIns := [(.aload_n 0, 1, 0, 0, 0, 0, 0, z0), (.getfield 27, 3, 6, 6, 0, 0, 0, z0), (.iload_n 1, 1, 0, 0, 0, 0, 0, z0), (.bipush (12), 2, 12, 0, 0, 0, 0, z0), (.imul, 1, 0, 0, 0, 0, 0, z0), (.iload_n 2, 1, 0, 0, 0, 0, 0, z0), (.iadd, 1, 0, 0, 0, 0, 0, z0), (.iaload, 1, 0, 0, 0, 0, 0, z0), (.ireturn, 1, 0, 0, 0, 0, 0, z0)]
def cdSta_joinedUpTo : zCd := fun a => match a with
  | 0 => some qSta_joinedUpTo_0
  | _ => none
set_option maxRecDepth 100000 in
theorem bSta_joinedUpTo_0 : zcode (mSta_joinedUpTo) 0 qSta_joinedUpTo_0 := zcode_of (by decide +kernel) (zoks_cons rfl (zoks_cons (And.intro rfl kF107) (zoks_cons rfl (zoks_cons (And.intro rfl (by decide)) (zoks_cons rfl (zoks_cons rfl (zoks_cons rfl (zoks_cons (And.intro rfl rfl) (zoks_cons (And.intro rfl (Or.inl ⟨rfl, rfl⟩)) trivial)))))))))
theorem kSta_joinedUpTo : zcd (mSta_joinedUpTo) cdSta_joinedUpTo := by
  intro a is h
  unfold cdSta_joinedUpTo at h
  split at h
  · cases h; exact bSta_joinedUpTo_0
  · cases h
def qSta_raiseJoined_0 : List zIns := [(.iload_n 1, 1, 0, 0, 0, 0, 0, z0), (.bipush (12), 2, 12, 0, 0, 0, 0, z0), (.imul, 1, 0, 0, 0, 0, 0, z0), (.iload_n 2, 1, 0, 0, 0, 0, 0, z0), (.iadd, 1, 0, 0, 0, 0, 0, z0), (.istore 4, 2, 0, 0, 0, 0, 0, z0), (.aload_n 0, 1, 0, 0, 0, 0, 0, z0), (.getfield 27, 3, 6, 6, 0, 0, 0, z0), (.iload 4, 2, 0, 0, 0, 0, 0, z0), (.aload_n 0, 1, 0, 0, 0, 0, 0, z0), (.getfield 27, 3, 6, 6, 0, 0, 0, z0), (.iload 4, 2, 0, 0, 0, 0, 0, z0), (.iaload, 1, 0, 0, 0, 0, 0, z0), (.iload_n 3, 1, 0, 0, 0, 0, 0, z0), (.invokestatic 32, 3, 2, 0, 1, 0, 0, z0), (.iastore, 1, 0, 0, 0, 0, 0, z0), (.return_, 1, 0, 0, 0, 0, 0, z0)]
def cdSta_raiseJoined : zCd := fun a => match a with
  | 0 => some qSta_raiseJoined_0
  | _ => none
set_option maxRecDepth 100000 in
theorem bSta_raiseJoined_0 : zcode (mSta_raiseJoined) 0 qSta_raiseJoined_0 := zcode_of (by decide +kernel) (zoks_cons rfl (zoks_cons (And.intro rfl (by decide)) (zoks_cons rfl (zoks_cons rfl (zoks_cons rfl (zoks_cons rfl (zoks_cons rfl (zoks_cons (And.intro rfl kF107) (zoks_cons rfl (zoks_cons rfl (zoks_cons (And.intro rfl kF107) (zoks_cons rfl (zoks_cons (And.intro rfl rfl) (zoks_cons rfl (zoks_cons (And.intro rfl kL10) (zoks_cons (And.intro rfl rfl) (zoks_cons (And.intro rfl rfl) trivial)))))))))))))))))
theorem kSta_raiseJoined : zcd (mSta_raiseJoined) cdSta_raiseJoined := by
  intro a is h
  unfold cdSta_raiseJoined at h
  split at h
  · cases h; exact bSta_raiseJoined_0
  · cases h
def qSta_copyFrom_0 : List zIns := [(.aload_n 1, 1, 0, 0, 0, 0, 0, z0), (.getfield 9, 3, 6, 0, 0, 0, 0, z0), (.iconst (0), 1, 0, 0, 0, 0, 0, z0), (.aload_n 0, 1, 0, 0, 0, 0, 0, z0), (.getfield 9, 3, 6, 0, 0, 0, 0, z0), (.iconst (0), 1, 0, 0, 0, 0, 0, z0), (.aload_n 0, 1, 0, 0, 0, 0, 0, z0), (.getfield 9, 3, 6, 0, 0, 0, 0, z0), (.arraylength, 1, 0, 0, 0, 0, 0, z0), (.invokestatic 38, 3, 0, 0, 3, 0, 0, z0), (.aload_n 1, 1, 0, 0, 0, 0, 0, z0), (.getfield 27, 3, 6, 6, 0, 0, 0, z0), (.iconst (0), 1, 0, 0, 0, 0, 0, z0), (.aload_n 0, 1, 0, 0, 0, 0, 0, z0), (.getfield 27, 3, 6, 6, 0, 0, 0, z0), (.iconst (0), 1, 0, 0, 0, 0, 0, z0), (.aload_n 0, 1, 0, 0, 0, 0, 0, z0), (.getfield 27, 3, 6, 6, 0, 0, 0, z0), (.arraylength, 1, 0, 0, 0, 0, 0, z0), (.invokestatic 38, 3, 0, 0, 3, 0, 0, z0), (.iconst (0), 1, 0, 0, 0, 0, 0, z0), (.istore_n 2, 1, 0, 0, 0, 0, 0, z0)]
def qSta_copyFrom_38 : List zIns := [(.iload_n 2, 1, 0, 0, 0, 0, 0, z0), (.bipush (12), 2, 12, 0, 0, 0, 0, z0), (.if_icmp .ge (21), 3, 62, 0, 0, 0, 0, z0), (.aload_n 0, 1, 0, 0, 0, 0, 0, z0), (.getfield 17, 3, 6, 1, 0, 0, 0, z0), (.iload_n 2, 1, 0, 0, 0, 0, 0, z0), (.aload_n 1, 1, 0, 0, 0, 0, 0, z0), (.getfield 17, 3, 6, 1, 0, 0, 0, z0), (.iload_n 2, 1, 0, 0, 0, 0, 0, z0), (.aaload, 1, 5, 0, 0, 0, 0, z0), (.aastore, 1, 5, 4, 0, 0, 0, z0), (.iinc 2 (1), 3, 1, 0, 0, 0, 0, z0), (.goto (-21), 3, 38, 0, 0, 0, 0, z0)]
def qSta_copyFrom_62 : List zIns := [(.iconst (0), 1, 0, 0, 0, 0, 0, z0), (.istore_n 2, 1, 0, 0, 0, 0, 0, z0)]
def qSta_copyFrom_64 : List zIns := [(.iload_n 2, 1, 0, 0, 0, 0, 0, z0), (.aload_n 0, 1, 0, 0, 0, 0, 0, z0), (.getfield 23, 3, 6, 5, 0, 0, 0, z0), (.arraylength, 1, 6, 0, 1, 0, 0, z0), (.if_icmp .ge (24), 3, 94, 0, 0, 0, 0, z0), (.aload_n 0, 1, 0, 0, 0, 0, 0, z0), (.getfield 23, 3, 6, 5, 0, 0, 0, z0), (.iload_n 2, 1, 0, 0, 0, 0, 0, z0), (.aaload, 1, 6, 0, 0, 0, 0, z0), (.aload_n 1, 1, 0, 0, 0, 0, 0, z0), (.getfield 23, 3, 6, 5, 0, 0, 0, z0), (.iload_n 2, 1, 0, 0, 0, 0, 0, z0), (.aaload, 1, 6, 0, 0, 0, 0, z0), (.invokevirtual 44, 3, 1, 5, 0, 0, 0, mWork_copyFrom), (.iinc 2 (1), 3, 1, 0, 0, 0, 0, z0), (.goto (-27), 3, 64, 0, 0, 0, 0, z0)]
def qSta_copyFrom_94 : List zIns := [(.aload_n 0, 1, 0, 0, 0, 0, 0, z0), (.aload_n 1, 1, 0, 0, 0, 0, 0, z0), (.getfield 48, 3, 6, 2, 0, 0, 0, z0), (.putfield 48, 3, 6, 2, 0, 0, 0, z0), (.aload_n 0, 1, 0, 0, 0, 0, 0, z0), (.aload_n 1, 1, 0, 0, 0, 0, 0, z0), (.getfield 52, 3, 6, 3, 0, 0, 0, z0), (.putfield 52, 3, 6, 3, 0, 0, 0, z0), (.aload_n 0, 1, 0, 0, 0, 0, 0, z0), (.aload_n 1, 1, 0, 0, 0, 0, 0, z0), (.getfield 55, 3, 6, 4, 0, 0, 0, z0), (.putfield 55, 3, 6, 4, 0, 0, 0, z0), (.return_, 1, 0, 0, 0, 0, 0, z0)]
def cdSta_copyFrom : zCd := fun a => match a with
  | 0 => some qSta_copyFrom_0
  | 38 => some qSta_copyFrom_38
  | 62 => some qSta_copyFrom_62
  | 64 => some qSta_copyFrom_64
  | 94 => some qSta_copyFrom_94
  | _ => none
set_option maxRecDepth 100000 in
theorem bSta_copyFrom_0 : zcode (mSta_copyFrom) 0 qSta_copyFrom_0 := zcode_of (by decide +kernel) (zoks_cons rfl (zoks_cons (And.intro rfl kF104) (zoks_cons (And.intro rfl (by decide)) (zoks_cons rfl (zoks_cons (And.intro rfl kF104) (zoks_cons (And.intro rfl (by decide)) (zoks_cons rfl (zoks_cons (And.intro rfl kF104) (zoks_cons (And.intro rfl ⟨_, rfl⟩) (zoks_cons (And.intro rfl (And.intro kL11 rfl)) (zoks_cons rfl (zoks_cons (And.intro rfl kF107) (zoks_cons (And.intro rfl (by decide)) (zoks_cons rfl (zoks_cons (And.intro rfl kF107) (zoks_cons (And.intro rfl (by decide)) (zoks_cons rfl (zoks_cons (And.intro rfl kF107) (zoks_cons (And.intro rfl ⟨_, rfl⟩) (zoks_cons (And.intro rfl (And.intro kL11 rfl)) (zoks_cons (And.intro rfl (by decide)) (zoks_cons rfl trivial))))))))))))))))))))))
set_option maxRecDepth 100000 in
theorem bSta_copyFrom_38 : zcode (mSta_copyFrom) 38 qSta_copyFrom_38 := zcode_of (by decide +kernel) (zoks_cons rfl (zoks_cons (And.intro rfl (by decide)) (zoks_cons (And.intro rfl (by decide)) (zoks_cons rfl (zoks_cons (And.intro rfl kF105) (zoks_cons rfl (zoks_cons rfl (zoks_cons (And.intro rfl kF105) (zoks_cons rfl (zoks_cons (And.intro rfl ⟨_, rfl⟩) (zoks_cons (And.intro rfl ⟨zCl[4], rfl, rfl⟩) (zoks_cons (And.intro rfl (by decide)) (zoks_cons (And.intro rfl (by decide)) trivial)))))))))))))
set_option maxRecDepth 100000 in
theorem bSta_copyFrom_62 : zcode (mSta_copyFrom) 62 qSta_copyFrom_62 := zcode_of (by decide +kernel) (zoks_cons (And.intro rfl (by decide)) (zoks_cons rfl trivial))
set_option maxRecDepth 100000 in
theorem bSta_copyFrom_64 : zcode (mSta_copyFrom) 64 qSta_copyFrom_64 := zcode_of (by decide +kernel) (zoks_cons rfl (zoks_cons rfl (zoks_cons (And.intro rfl kF106) (zoks_cons (And.intro rfl ⟨_, rfl⟩) (zoks_cons (And.intro rfl (by decide)) (zoks_cons rfl (zoks_cons (And.intro rfl kF106) (zoks_cons rfl (zoks_cons (And.intro rfl ⟨_, rfl⟩) (zoks_cons rfl (zoks_cons (And.intro rfl kF106) (zoks_cons rfl (zoks_cons (And.intro rfl ⟨_, rfl⟩) (zoks_cons (And.intro rfl kV101) (zoks_cons (And.intro rfl (by decide)) (zoks_cons (And.intro rfl (by decide)) trivial))))))))))))))))
set_option maxRecDepth 100000 in
theorem bSta_copyFrom_94 : zcode (mSta_copyFrom) 94 qSta_copyFrom_94 := zcode_of (by decide +kernel) (zoks_cons rfl (zoks_cons rfl (zoks_cons (And.intro rfl kF108) (zoks_cons (And.intro rfl (And.intro rfl (kP91 rfl))) (zoks_cons rfl (zoks_cons rfl (zoks_cons (And.intro rfl kF109) (zoks_cons (And.intro rfl (And.intro rfl (kP92 rfl))) (zoks_cons rfl (zoks_cons rfl (zoks_cons (And.intro rfl kF110) (zoks_cons (And.intro rfl (And.intro rfl (kP93 rfl))) (zoks_cons (And.intro rfl rfl) trivial)))))))))))))
theorem kSta_copyFrom : zcd (mSta_copyFrom) cdSta_copyFrom := by
  intro a is h
  unfold cdSta_copyFrom at h
  split at h
  · cases h; exact bSta_copyFrom_0
  · cases h; exact bSta_copyFrom_38
  · cases h; exact bSta_copyFrom_62
  · cases h; exact bSta_copyFrom_64
  · cases h; exact bSta_copyFrom_94
  · cases h
def qWork_init_0 : List zIns := [(.aload_n 0, 1, 0, 0, 0, 0, 0, z0), (.invokespecial 3, 3, 0, 0, 1, 0, 0, z0), (.aload_n 0, 1, 0, 0, 0, 0, 0, z0), (.iconst (0), 1, 0, 0, 0, 0, 0, z0), (.putfield 9, 3, 5, 2, 0, 0, 0, z0), (.aload_n 0, 1, 0, 0, 0, 0, 0, z0), (.iconst (-1), 1, 1, 0, 1, 0, 0, z0), (.putfield 15, 3, 5, 7, 0, 0, 0, z0), (.aload_n 0, 1, 0, 0, 0, 0, 0, z0), (.iconst (-1), 1, 1, 0, 1, 0, 0, z0), (.putfield 18, 3, 5, 9, 0, 0, 0, z0), (.return_, 1, 0, 0, 0, 0, 0, z0)]
def cdWork_init : zCd := fun a => match a with
  | 0 => some qWork_init_0
  | _ => none
set_option maxRecDepth 100000 in
theorem bWork_init_0 : zcode (mWork_init) 0 qWork_init_0 := zcode_of (by decide +kernel) (zoks_cons rfl (zoks_cons (And.intro rfl kL12) (zoks_cons rfl (zoks_cons (And.intro rfl (by decide)) (zoks_cons (And.intro rfl (And.intro rfl (kP94 rfl))) (zoks_cons rfl (zoks_cons (And.intro rfl (by decide)) (zoks_cons (And.intro rfl (And.intro rfl (kP95 rfl))) (zoks_cons rfl (zoks_cons (And.intro rfl (by decide)) (zoks_cons (And.intro rfl (And.intro rfl (kP96 rfl))) (zoks_cons (And.intro rfl rfl) trivial))))))))))))
theorem kWork_init : zcd (mWork_init) cdWork_init := by
  intro a is h
  unfold cdWork_init at h
  split at h
  · cases h; exact bWork_init_0
  · cases h
def qWork_isOpen_0 : List zIns := [(.aload_n 0, 1, 0, 0, 0, 0, 0, z0), (.getfield 9, 3, 5, 2, 0, 0, 0, z0), (.ifCond .eq (7), 3, 11, 0, 0, 0, 0, z0), (.iconst (1), 1, 1, 0, 0, 0, 0, z0), (.goto (4), 3, 12, 0, 0, 0, 0, z0)]
def qWork_isOpen_11 : List zIns := [(.iconst (0), 1, 0, 0, 0, 0, 0, z0)]
def qWork_isOpen_12 : List zIns := [(.ireturn, 1, 0, 0, 1, 0, 0, z0)]
def cdWork_isOpen : zCd := fun a => match a with
  | 0 => some qWork_isOpen_0
  | 11 => some qWork_isOpen_11
  | 12 => some qWork_isOpen_12
  | _ => none
set_option maxRecDepth 100000 in
theorem bWork_isOpen_0 : zcode (mWork_isOpen) 0 qWork_isOpen_0 := zcode_of (by decide +kernel) (zoks_cons rfl (zoks_cons (And.intro rfl kF111) (zoks_cons (And.intro rfl (by decide)) (zoks_cons (And.intro rfl (by decide)) (zoks_cons (And.intro rfl (by decide)) trivial)))))
set_option maxRecDepth 100000 in
theorem bWork_isOpen_11 : zcode (mWork_isOpen) 11 qWork_isOpen_11 := zcode_of (by decide +kernel) (zoks_cons (And.intro rfl (by decide)) trivial)
set_option maxRecDepth 100000 in
theorem bWork_isOpen_12 : zcode (mWork_isOpen) 12 qWork_isOpen_12 := zcode_of (by decide +kernel) (zoks_cons (And.intro rfl (Or.inr (Or.inl ⟨rfl, rfl⟩))) trivial)
theorem kWork_isOpen : zcd (mWork_isOpen) cdWork_isOpen := by
  intro a is h
  unfold cdWork_isOpen at h
  split at h
  · cases h; exact bWork_isOpen_0
  · cases h; exact bWork_isOpen_11
  · cases h; exact bWork_isOpen_12
  · cases h
def qWork_isOn_0 : List zIns := [(.aload_n 0, 1, 0, 0, 0, 0, 0, z0), (.invokevirtual 21, 3, 0, 5, 0, 0, 0, mWork_isOpen), (.ifCond .eq (15), 3, 19, 0, 0, 0, 0, z0), (.aload_n 0, 1, 0, 0, 0, 0, 0, z0), (.getfield 25, 3, 5, 3, 0, 0, 0, z0), (.iload_n 1, 1, 0, 0, 0, 0, 0, z0), (.if_icmp .ne (7), 3, 19, 0, 0, 0, 0, z0), (.iconst (1), 1, 1, 0, 0, 0, 0, z0), (.goto (4), 3, 20, 0, 0, 0, 0, z0)]
def qWork_isOn_19 : List zIns := [(.iconst (0), 1, 0, 0, 0, 0, 0, z0)]
def qWork_isOn_20 : List zIns := [(.ireturn, 1, 0, 0, 1, 0, 0, z0)]
def cdWork_isOn : zCd := fun a => match a with
  | 0 => some qWork_isOn_0
  | 19 => some qWork_isOn_19
  | 20 => some qWork_isOn_20
  | _ => none
set_option maxRecDepth 100000 in
theorem bWork_isOn_0 : zcode (mWork_isOn) 0 qWork_isOn_0 := zcode_of (by decide +kernel) (zoks_cons rfl (zoks_cons (And.intro rfl kV102) (zoks_cons (And.intro rfl (by decide)) (zoks_cons rfl (zoks_cons (And.intro rfl kF112) (zoks_cons rfl (zoks_cons (And.intro rfl (by decide)) (zoks_cons (And.intro rfl (by decide)) (zoks_cons (And.intro rfl (by decide)) trivial)))))))))
set_option maxRecDepth 100000 in
theorem bWork_isOn_19 : zcode (mWork_isOn) 19 qWork_isOn_19 := zcode_of (by decide +kernel) (zoks_cons (And.intro rfl (by decide)) trivial)
set_option maxRecDepth 100000 in
theorem bWork_isOn_20 : zcode (mWork_isOn) 20 qWork_isOn_20 := zcode_of (by decide +kernel) (zoks_cons (And.intro rfl (Or.inr (Or.inl ⟨rfl, rfl⟩))) trivial)
theorem kWork_isOn : zcd (mWork_isOn) cdWork_isOn := by
  intro a is h
  unfold cdWork_isOn at h
  split at h
  · cases h; exact bWork_isOn_0
  · cases h; exact bWork_isOn_19
  · cases h; exact bWork_isOn_20
  · cases h
def qWork_owes_0 : List zIns := [(.aload_n 0, 1, 0, 0, 0, 0, 0, z0), (.getfield 28, 3, 5, 6, 0, 0, 0, z0), (.ifCond .ne (11), 3, 15, 0, 0, 0, 0, z0), (.aload_n 0, 1, 0, 0, 0, 0, 0, z0), (.getfield 15, 3, 5, 7, 0, 0, 0, z0), (.iconst (-1), 1, 1, 0, 1, 0, 0, z0), (.if_icmp .eq (7), 3, 19, 0, 0, 0, 0, z0)]
def qWork_owes_15 : List zIns := [(.iconst (1), 1, 1, 0, 0, 0, 0, z0), (.goto (4), 3, 20, 0, 0, 0, 0, z0)]
def qWork_owes_19 : List zIns := [(.iconst (0), 1, 0, 0, 0, 0, 0, z0)]
def qWork_owes_20 : List zIns := [(.ireturn, 1, 0, 0, 1, 0, 0, z0)]
def cdWork_owes : zCd := fun a => match a with
  | 0 => some qWork_owes_0
  | 15 => some qWork_owes_15
  | 19 => some qWork_owes_19
  | 20 => some qWork_owes_20
  | _ => none
set_option maxRecDepth 100000 in
theorem bWork_owes_0 : zcode (mWork_owes) 0 qWork_owes_0 := zcode_of (by decide +kernel) (zoks_cons rfl (zoks_cons (And.intro rfl kF113) (zoks_cons (And.intro rfl (by decide)) (zoks_cons rfl (zoks_cons (And.intro rfl kF114) (zoks_cons (And.intro rfl (by decide)) (zoks_cons (And.intro rfl (by decide)) trivial)))))))
set_option maxRecDepth 100000 in
theorem bWork_owes_15 : zcode (mWork_owes) 15 qWork_owes_15 := zcode_of (by decide +kernel) (zoks_cons (And.intro rfl (by decide)) (zoks_cons (And.intro rfl (by decide)) trivial))
set_option maxRecDepth 100000 in
theorem bWork_owes_19 : zcode (mWork_owes) 19 qWork_owes_19 := zcode_of (by decide +kernel) (zoks_cons (And.intro rfl (by decide)) trivial)
set_option maxRecDepth 100000 in
theorem bWork_owes_20 : zcode (mWork_owes) 20 qWork_owes_20 := zcode_of (by decide +kernel) (zoks_cons (And.intro rfl (Or.inr (Or.inl ⟨rfl, rfl⟩))) trivial)
theorem kWork_owes : zcd (mWork_owes) cdWork_owes := by
  intro a is h
  unfold cdWork_owes at h
  split at h
  · cases h; exact bWork_owes_0
  · cases h; exact bWork_owes_15
  · cases h; exact bWork_owes_19
  · cases h; exact bWork_owes_20
  · cases h
def qWork_openForAdd_0 : List zIns := [(.aload_n 0, 1, 0, 0, 0, 0, 0, z0), (.iconst (1), 1, 1, 0, 0, 0, 0, z0), (.putfield 9, 3, 5, 2, 0, 0, 0, z0), (.aload_n 0, 1, 0, 0, 0, 0, 0, z0), (.iload_n 1, 1, 0, 0, 0, 0, 0, z0), (.putfield 25, 3, 5, 3, 0, 0, 0, z0), (.aload_n 0, 1, 0, 0, 0, 0, 0, z0), (.iconst (0), 1, 0, 0, 0, 0, 0, z0), (.putfield 31, 3, 5, 4, 0, 0, 0, z0), (.aload_n 0, 1, 0, 0, 0, 0, 0, z0), (.iload_n 2, 1, 0, 0, 0, 0, 0, z0), (.putfield 34, 3, 5, 5, 0, 0, 0, z0), (.aload_n 0, 1, 0, 0, 0, 0, 0, z0), (.iload_n 3, 1, 0, 0, 0, 0, 0, z0), (.putfield 38, 3, 5, 1, 0, 0, 0, z0), (.return_, 1, 0, 0, 0, 0, 0, z0)]
def cdWork_openForAdd : zCd := fun a => match a with
  | 0 => some qWork_openForAdd_0
  | _ => none
set_option maxRecDepth 100000 in
theorem bWork_openForAdd_0 : zcode (mWork_openForAdd) 0 qWork_openForAdd_0 := zcode_of (by decide +kernel) (zoks_cons rfl (zoks_cons (And.intro rfl (by decide)) (zoks_cons (And.intro rfl (And.intro rfl (kP94 rfl))) (zoks_cons rfl (zoks_cons rfl (zoks_cons (And.intro rfl (And.intro rfl (kP97 rfl))) (zoks_cons rfl (zoks_cons (And.intro rfl (by decide)) (zoks_cons (And.intro rfl (And.intro rfl (kP98 rfl))) (zoks_cons rfl (zoks_cons rfl (zoks_cons (And.intro rfl (And.intro rfl (kP99 rfl))) (zoks_cons rfl (zoks_cons rfl (zoks_cons (And.intro rfl (And.intro rfl (kP100 rfl))) (zoks_cons (And.intro rfl rfl) trivial))))))))))))))))
theorem kWork_openForAdd : zcd (mWork_openForAdd) cdWork_openForAdd := by
  intro a is h
  unfold cdWork_openForAdd at h
  split at h
  · cases h; exact bWork_openForAdd_0
  · cases h
def qWork_openHeld_0 : List zIns := [(.aload_n 0, 1, 0, 0, 0, 0, 0, z0), (.iload_n 1, 1, 0, 0, 0, 0, 0, z0), (.putfield 9, 3, 5, 2, 0, 0, 0, z0), (.aload_n 0, 1, 0, 0, 0, 0, 0, z0), (.iload_n 2, 1, 0, 0, 0, 0, 0, z0), (.putfield 25, 3, 5, 3, 0, 0, 0, z0), (.aload_n 0, 1, 0, 0, 0, 0, 0, z0), (.aload_n 0, 1, 0, 0, 0, 0, 0, z0), (.getfield 41, 3, 5, 0, 0, 0, 0, z0), (.putfield 31, 3, 5, 4, 0, 0, 0, z0), (.iload_n 1, 1, 0, 0, 0, 0, 0, z0), (.iconst (3), 1, 3, 0, 0, 0, 0, z0), (.if_icmp .ne (8), 3, 28, 0, 0, 0, 0, z0), (.aload_n 0, 1, 0, 0, 0, 0, 0, z0), (.iconst (0), 1, 0, 0, 0, 0, 0, z0), (.putfield 38, 3, 5, 1, 0, 0, 0, z0)]
def qWork_openHeld_28 : List zIns := [(.return_, 1, 0, 0, 0, 0, 0, z0)]
def cdWork_openHeld : zCd := fun a => match a with
  | 0 => some qWork_openHeld_0
  | 28 => some qWork_openHeld_28
  | _ => none
set_option maxRecDepth 100000 in
theorem bWork_openHeld_0 : zcode (mWork_openHeld) 0 qWork_openHeld_0 := zcode_of (by decide +kernel) (zoks_cons rfl (zoks_cons rfl (zoks_cons (And.intro rfl (And.intro rfl (kP94 rfl))) (zoks_cons rfl (zoks_cons rfl (zoks_cons (And.intro rfl (And.intro rfl (kP97 rfl))) (zoks_cons rfl (zoks_cons rfl (zoks_cons (And.intro rfl kF115) (zoks_cons (And.intro rfl (And.intro rfl (kP98 rfl))) (zoks_cons rfl (zoks_cons (And.intro rfl (by decide)) (zoks_cons (And.intro rfl (by decide)) (zoks_cons rfl (zoks_cons (And.intro rfl (by decide)) (zoks_cons (And.intro rfl (And.intro rfl (kP100 rfl))) trivial))))))))))))))))
set_option maxRecDepth 100000 in
theorem bWork_openHeld_28 : zcode (mWork_openHeld) 28 qWork_openHeld_28 := zcode_of (by decide +kernel) (zoks_cons (And.intro rfl rfl) trivial)
theorem kWork_openHeld : zcd (mWork_openHeld) cdWork_openHeld := by
  intro a is h
  unfold cdWork_openHeld at h
  split at h
  · cases h; exact bWork_openHeld_0
  · cases h; exact bWork_openHeld_28
  · cases h
def qWork_giveCredit_0 : List zIns := [(.aload_n 0, 1, 0, 0, 0, 0, 0, z0), (.iload_n 1, 1, 0, 0, 0, 0, 0, z0), (.putfield 18, 3, 5, 9, 0, 0, 0, z0), (.aload_n 0, 1, 0, 0, 0, 0, 0, z0), (.iload_n 2, 1, 0, 0, 0, 0, 0, z0), (.putfield 44, 3, 5, 10, 0, 0, 0, z0), (.aload_n 0, 1, 0, 0, 0, 0, 0, z0), (.iload_n 3, 1, 0, 0, 0, 0, 0, z0), (.putfield 47, 3, 5, 11, 0, 0, 0, z0), (.return_, 1, 0, 0, 0, 0, 0, z0)]
def cdWork_giveCredit : zCd := fun a => match a with
  | 0 => some qWork_giveCredit_0
  | _ => none
set_option maxRecDepth 100000 in
theorem bWork_giveCredit_0 : zcode (mWork_giveCredit) 0 qWork_giveCredit_0 := zcode_of (by decide +kernel) (zoks_cons rfl (zoks_cons rfl (zoks_cons (And.intro rfl (And.intro rfl (kP96 rfl))) (zoks_cons rfl (zoks_cons rfl (zoks_cons (And.intro rfl (And.intro rfl (kP101 rfl))) (zoks_cons rfl (zoks_cons rfl (zoks_cons (And.intro rfl (And.intro rfl (kP102 rfl))) (zoks_cons (And.intro rfl rfl) trivial))))))))))
theorem kWork_giveCredit : zcd (mWork_giveCredit) cdWork_giveCredit := by
  intro a is h
  unfold cdWork_giveCredit at h
  split at h
  · cases h; exact bWork_giveCredit_0
  · cases h
def qWork_settle_0 : List zIns := [(.aload_n 0, 1, 0, 0, 0, 0, 0, z0), (.getfield 28, 3, 5, 6, 0, 0, 0, z0), (.ifCond .eq (27), 3, 31, 0, 0, 0, 0, z0), (.aload_n 0, 1, 0, 0, 0, 0, 0, z0), (.aload_n 0, 1, 0, 0, 0, 0, 0, z0), (.getfield 28, 3, 5, 6, 0, 0, 0, z0), (.putfield 31, 3, 5, 4, 0, 0, 0, z0), (.aload_n 0, 1, 0, 0, 0, 0, 0, z0), (.aload_n 0, 1, 0, 0, 0, 0, 0, z0), (.getfield 28, 3, 5, 6, 0, 0, 0, z0), (.putfield 41, 3, 5, 0, 0, 0, 0, z0), (.aload_n 0, 1, 0, 0, 0, 0, 0, z0), (.iconst (0), 1, 0, 0, 0, 0, 0, z0), (.putfield 28, 3, 5, 6, 0, 0, 0, z0), (.goto (26), 3, 54, 0, 0, 0, 0, z0)]
def qWork_settle_31 : List zIns := [(.aload_n 0, 1, 0, 0, 0, 0, 0, z0), (.aload_n 0, 1, 0, 0, 0, 0, 0, z0), (.getfield 15, 3, 5, 7, 0, 0, 0, z0), (.aload_n 0, 1, 0, 0, 0, 0, 0, z0), (.getfield 50, 3, 5, 8, 0, 0, 0, z0), (.iload_n 1, 1, 0, 0, 0, 0, 0, z0), (.invokevirtual 53, 3, 3, 5, 0, 0, 0, mWork_giveCredit), (.aload_n 0, 1, 0, 0, 0, 0, 0, z0), (.iconst (-1), 1, 1, 0, 1, 0, 0, z0), (.putfield 15, 3, 5, 7, 0, 0, 0, z0), (.aload_n 0, 1, 0, 0, 0, 0, 0, z0), (.iconst (0), 1, 0, 0, 0, 0, 0, z0), (.putfield 50, 3, 5, 8, 0, 0, 0, z0)]
def qWork_settle_54 : List zIns := [(.return_, 1, 0, 0, 0, 0, 0, z0)]
def cdWork_settle : zCd := fun a => match a with
  | 0 => some qWork_settle_0
  | 31 => some qWork_settle_31
  | 54 => some qWork_settle_54
  | _ => none
set_option maxRecDepth 100000 in
theorem bWork_settle_0 : zcode (mWork_settle) 0 qWork_settle_0 := zcode_of (by decide +kernel) (zoks_cons rfl (zoks_cons (And.intro rfl kF113) (zoks_cons (And.intro rfl (by decide)) (zoks_cons rfl (zoks_cons rfl (zoks_cons (And.intro rfl kF113) (zoks_cons (And.intro rfl (And.intro rfl (kP98 rfl))) (zoks_cons rfl (zoks_cons rfl (zoks_cons (And.intro rfl kF113) (zoks_cons (And.intro rfl (And.intro rfl (kP103 rfl))) (zoks_cons rfl (zoks_cons (And.intro rfl (by decide)) (zoks_cons (And.intro rfl (And.intro rfl (kP104 rfl))) (zoks_cons (And.intro rfl (by decide)) trivial)))))))))))))))
set_option maxRecDepth 100000 in
theorem bWork_settle_31 : zcode (mWork_settle) 31 qWork_settle_31 := zcode_of (by decide +kernel) (zoks_cons rfl (zoks_cons rfl (zoks_cons (And.intro rfl kF114) (zoks_cons rfl (zoks_cons (And.intro rfl kF116) (zoks_cons rfl (zoks_cons (And.intro rfl kV103) (zoks_cons rfl (zoks_cons (And.intro rfl (by decide)) (zoks_cons (And.intro rfl (And.intro rfl (kP95 rfl))) (zoks_cons rfl (zoks_cons (And.intro rfl (by decide)) (zoks_cons (And.intro rfl (And.intro rfl (kP105 rfl))) trivial)))))))))))))
set_option maxRecDepth 100000 in
theorem bWork_settle_54 : zcode (mWork_settle) 54 qWork_settle_54 := zcode_of (by decide +kernel) (zoks_cons (And.intro rfl rfl) trivial)
theorem kWork_settle : zcd (mWork_settle) cdWork_settle := by
  intro a is h
  unfold cdWork_settle at h
  split at h
  · cases h; exact bWork_settle_0
  · cases h; exact bWork_settle_31
  · cases h; exact bWork_settle_54
  · cases h
def qWork_close_0 : List zIns := [(.aload_n 0, 1, 0, 0, 0, 0, 0, z0), (.iconst (0), 1, 0, 0, 0, 0, 0, z0), (.putfield 9, 3, 5, 2, 0, 0, 0, z0), (.aload_n 0, 1, 0, 0, 0, 0, 0, z0), (.iconst (0), 1, 0, 0, 0, 0, 0, z0), (.putfield 25, 3, 5, 3, 0, 0, 0, z0), (.aload_n 0, 1, 0, 0, 0, 0, 0, z0), (.iconst (0), 1, 0, 0, 0, 0, 0, z0), (.putfield 31, 3, 5, 4, 0, 0, 0, z0), (.aload_n 0, 1, 0, 0, 0, 0, 0, z0), (.iconst (0), 1, 0, 0, 0, 0, 0, z0), (.putfield 34, 3, 5, 5, 0, 0, 0, z0), (.aload_n 0, 1, 0, 0, 0, 0, 0, z0), (.iconst (0), 1, 0, 0, 0, 0, 0, z0), (.putfield 28, 3, 5, 6, 0, 0, 0, z0), (.aload_n 0, 1, 0, 0, 0, 0, 0, z0), (.iconst (-1), 1, 1, 0, 1, 0, 0, z0), (.putfield 15, 3, 5, 7, 0, 0, 0, z0), (.aload_n 0, 1, 0, 0, 0, 0, 0, z0), (.iconst (0), 1, 0, 0, 0, 0, 0, z0), (.putfield 50, 3, 5, 8, 0, 0, 0, z0), (.aload_n 0, 1, 0, 0, 0, 0, 0, z0), (.iconst (-1), 1, 1, 0, 1, 0, 0, z0), (.iconst (0), 1, 0, 0, 0, 0, 0, z0), (.iconst (0), 1, 0, 0, 0, 0, 0, z0), (.invokevirtual 53, 3, 3, 5, 0, 0, 0, mWork_giveCredit), (.return_, 1, 0, 0, 0, 0, 0, z0)]
def cdWork_close : zCd := fun a => match a with
  | 0 => some qWork_close_0
  | _ => none
set_option maxRecDepth 100000 in
theorem bWork_close_0 : zcode (mWork_close) 0 qWork_close_0 := zcode_of (by decide +kernel) (zoks_cons rfl (zoks_cons (And.intro rfl (by decide)) (zoks_cons (And.intro rfl (And.intro rfl (kP94 rfl))) (zoks_cons rfl (zoks_cons (And.intro rfl (by decide)) (zoks_cons (And.intro rfl (And.intro rfl (kP97 rfl))) (zoks_cons rfl (zoks_cons (And.intro rfl (by decide)) (zoks_cons (And.intro rfl (And.intro rfl (kP98 rfl))) (zoks_cons rfl (zoks_cons (And.intro rfl (by decide)) (zoks_cons (And.intro rfl (And.intro rfl (kP99 rfl))) (zoks_cons rfl (zoks_cons (And.intro rfl (by decide)) (zoks_cons (And.intro rfl (And.intro rfl (kP104 rfl))) (zoks_cons rfl (zoks_cons (And.intro rfl (by decide)) (zoks_cons (And.intro rfl (And.intro rfl (kP95 rfl))) (zoks_cons rfl (zoks_cons (And.intro rfl (by decide)) (zoks_cons (And.intro rfl (And.intro rfl (kP105 rfl))) (zoks_cons rfl (zoks_cons (And.intro rfl (by decide)) (zoks_cons (And.intro rfl (by decide)) (zoks_cons (And.intro rfl (by decide)) (zoks_cons (And.intro rfl kV103) (zoks_cons (And.intro rfl rfl) trivial)))))))))))))))))))))))))))
theorem kWork_close : zcd (mWork_close) cdWork_close := by
  intro a is h
  unfold cdWork_close at h
  split at h
  · cases h; exact bWork_close_0
  · cases h
def qWork_tell_0 : List zIns := [(.iload_n 1, 1, 0, 0, 0, 0, 0, z0), (.ifCond .ne (8), 3, 9, 0, 0, 0, 0, z0), (.aload_n 0, 1, 0, 0, 0, 0, 0, z0), (.getfield 9, 3, 5, 2, 0, 0, 0, z0), (.ireturn, 1, 0, 0, 0, 0, 0, z0)]
def qWork_tell_9 : List zIns := [(.aload_n 0, 1, 0, 0, 0, 0, 0, z0), (.invokevirtual 21, 3, 0, 5, 0, 0, 0, mWork_isOpen), (.ifCond .ne (5), 3, 18, 0, 0, 0, 0, z0), (.iconst (-1), 1, 1, 0, 1, 0, 0, z0), (.ireturn, 1, 0, 0, 0, 0, 0, z0)]
def qWork_tell_18 : List zIns := [(.iload_n 1, 1, 0, 0, 0, 0, 0, z0)]
def qWork_tell_52 : List zIns := [(.aload_n 0, 1, 0, 0, 0, 0, 0, z0), (.getfield 25, 3, 5, 3, 0, 0, 0, z0), (.ireturn, 1, 0, 0, 0, 0, 0, z0)]
def qWork_tell_57 : List zIns := [(.aload_n 0, 1, 0, 0, 0, 0, 0, z0), (.getfield 31, 3, 5, 4, 0, 0, 0, z0), (.ireturn, 1, 0, 0, 0, 0, 0, z0)]
def qWork_tell_62 : List zIns := [(.aload_n 0, 1, 0, 0, 0, 0, 0, z0), (.getfield 28, 3, 5, 6, 0, 0, 0, z0), (.ireturn, 1, 0, 0, 0, 0, 0, z0)]
def qWork_tell_67 : List zIns := [(.aload_n 0, 1, 0, 0, 0, 0, 0, z0), (.getfield 15, 3, 5, 7, 0, 0, 0, z0), (.ireturn, 1, 0, 0, 0, 0, 0, z0)]
def qWork_tell_72 : List zIns := [(.aload_n 0, 1, 0, 0, 0, 0, 0, z0), (.getfield 18, 3, 5, 9, 0, 0, 0, z0), (.ireturn, 1, 0, 0, 0, 0, 0, z0)]
def qWork_tell_77 : List zIns := [(.iconst (-1), 1, 1, 0, 1, 0, 0, z0), (.ireturn, 1, 0, 0, 0, 0, 0, z0)]
def cdWork_tell : zCd := fun a => match a with
  | 0 => some qWork_tell_0
  | 9 => some qWork_tell_9
  | 18 => some qWork_tell_18
  | 52 => some qWork_tell_52
  | 57 => some qWork_tell_57
  | 62 => some qWork_tell_62
  | 67 => some qWork_tell_67
  | 72 => some qWork_tell_72
  | 77 => some qWork_tell_77
  | _ => none
set_option maxRecDepth 100000 in
theorem bWork_tell_0 : zcode (mWork_tell) 0 qWork_tell_0 := zcode_of (by decide +kernel) (zoks_cons rfl (zoks_cons (And.intro rfl (by decide)) (zoks_cons rfl (zoks_cons (And.intro rfl kF111) (zoks_cons (And.intro rfl (Or.inl ⟨rfl, rfl⟩)) trivial)))))
set_option maxRecDepth 100000 in
theorem bWork_tell_9 : zcode (mWork_tell) 9 qWork_tell_9 := zcode_of (by decide +kernel) (zoks_cons rfl (zoks_cons (And.intro rfl kV102) (zoks_cons (And.intro rfl (by decide)) (zoks_cons (And.intro rfl (by decide)) (zoks_cons (And.intro rfl (Or.inl ⟨rfl, rfl⟩)) trivial)))))
set_option maxRecDepth 100000 in
theorem bWork_tell_18 : zcode (mWork_tell) 18 qWork_tell_18 := zcode_of (by decide +kernel) (zoks_cons rfl trivial)
set_option maxRecDepth 100000 in
theorem bWork_tell_52 : zcode (mWork_tell) 52 qWork_tell_52 := zcode_of (by decide +kernel) (zoks_cons rfl (zoks_cons (And.intro rfl kF112) (zoks_cons (And.intro rfl (Or.inl ⟨rfl, rfl⟩)) trivial)))
set_option maxRecDepth 100000 in
theorem bWork_tell_57 : zcode (mWork_tell) 57 qWork_tell_57 := zcode_of (by decide +kernel) (zoks_cons rfl (zoks_cons (And.intro rfl kF117) (zoks_cons (And.intro rfl (Or.inl ⟨rfl, rfl⟩)) trivial)))
set_option maxRecDepth 100000 in
theorem bWork_tell_62 : zcode (mWork_tell) 62 qWork_tell_62 := zcode_of (by decide +kernel) (zoks_cons rfl (zoks_cons (And.intro rfl kF113) (zoks_cons (And.intro rfl (Or.inl ⟨rfl, rfl⟩)) trivial)))
set_option maxRecDepth 100000 in
theorem bWork_tell_67 : zcode (mWork_tell) 67 qWork_tell_67 := zcode_of (by decide +kernel) (zoks_cons rfl (zoks_cons (And.intro rfl kF114) (zoks_cons (And.intro rfl (Or.inl ⟨rfl, rfl⟩)) trivial)))
set_option maxRecDepth 100000 in
theorem bWork_tell_72 : zcode (mWork_tell) 72 qWork_tell_72 := zcode_of (by decide +kernel) (zoks_cons rfl (zoks_cons (And.intro rfl kF118) (zoks_cons (And.intro rfl (Or.inl ⟨rfl, rfl⟩)) trivial)))
set_option maxRecDepth 100000 in
theorem bWork_tell_77 : zcode (mWork_tell) 77 qWork_tell_77 := zcode_of (by decide +kernel) (zoks_cons (And.intro rfl (by decide)) (zoks_cons (And.intro rfl (Or.inl ⟨rfl, rfl⟩)) trivial))
theorem kWork_tell : zcd (mWork_tell) cdWork_tell := by
  intro a is h
  unfold cdWork_tell at h
  split at h
  · cases h; exact bWork_tell_0
  · cases h; exact bWork_tell_9
  · cases h; exact bWork_tell_18
  · cases h; exact bWork_tell_52
  · cases h; exact bWork_tell_57
  · cases h; exact bWork_tell_62
  · cases h; exact bWork_tell_67
  · cases h; exact bWork_tell_72
  · cases h; exact bWork_tell_77
  · cases h
def qWork_copyFrom_0 : List zIns := [(.aload_n 0, 1, 0, 0, 0, 0, 0, z0), (.aload_n 1, 1, 0, 0, 0, 0, 0, z0), (.getfield 41, 3, 5, 0, 0, 0, 0, z0), (.putfield 41, 3, 5, 0, 0, 0, 0, z0), (.aload_n 0, 1, 0, 0, 0, 0, 0, z0), (.aload_n 1, 1, 0, 0, 0, 0, 0, z0), (.getfield 38, 3, 5, 1, 0, 0, 0, z0), (.putfield 38, 3, 5, 1, 0, 0, 0, z0), (.aload_n 0, 1, 0, 0, 0, 0, 0, z0), (.aload_n 1, 1, 0, 0, 0, 0, 0, z0), (.getfield 9, 3, 5, 2, 0, 0, 0, z0), (.putfield 9, 3, 5, 2, 0, 0, 0, z0), (.aload_n 0, 1, 0, 0, 0, 0, 0, z0), (.aload_n 1, 1, 0, 0, 0, 0, 0, z0), (.getfield 25, 3, 5, 3, 0, 0, 0, z0), (.putfield 25, 3, 5, 3, 0, 0, 0, z0), (.aload_n 0, 1, 0, 0, 0, 0, 0, z0), (.aload_n 1, 1, 0, 0, 0, 0, 0, z0), (.getfield 31, 3, 5, 4, 0, 0, 0, z0), (.putfield 31, 3, 5, 4, 0, 0, 0, z0), (.aload_n 0, 1, 0, 0, 0, 0, 0, z0), (.aload_n 1, 1, 0, 0, 0, 0, 0, z0), (.getfield 34, 3, 5, 5, 0, 0, 0, z0), (.putfield 34, 3, 5, 5, 0, 0, 0, z0), (.aload_n 0, 1, 0, 0, 0, 0, 0, z0), (.aload_n 1, 1, 0, 0, 0, 0, 0, z0), (.getfield 28, 3, 5, 6, 0, 0, 0, z0), (.putfield 28, 3, 5, 6, 0, 0, 0, z0), (.aload_n 0, 1, 0, 0, 0, 0, 0, z0), (.aload_n 1, 1, 0, 0, 0, 0, 0, z0), (.getfield 15, 3, 5, 7, 0, 0, 0, z0), (.putfield 15, 3, 5, 7, 0, 0, 0, z0), (.aload_n 0, 1, 0, 0, 0, 0, 0, z0), (.aload_n 1, 1, 0, 0, 0, 0, 0, z0), (.getfield 50, 3, 5, 8, 0, 0, 0, z0), (.putfield 50, 3, 5, 8, 0, 0, 0, z0), (.aload_n 0, 1, 0, 0, 0, 0, 0, z0), (.aload_n 1, 1, 0, 0, 0, 0, 0, z0), (.getfield 18, 3, 5, 9, 0, 0, 0, z0), (.aload_n 1, 1, 0, 0, 0, 0, 0, z0), (.getfield 44, 3, 5, 10, 0, 0, 0, z0), (.aload_n 1, 1, 0, 0, 0, 0, 0, z0), (.getfield 47, 3, 5, 11, 0, 0, 0, z0), (.invokevirtual 53, 3, 3, 5, 0, 0, 0, mWork_giveCredit), (.return_, 1, 0, 0, 0, 0, 0, z0)]
def cdWork_copyFrom : zCd := fun a => match a with
  | 0 => some qWork_copyFrom_0
  | _ => none
set_option maxRecDepth 100000 in
theorem bWork_copyFrom_0 : zcode (mWork_copyFrom) 0 qWork_copyFrom_0 := zcode_of (by decide +kernel) (zoks_cons rfl (zoks_cons rfl (zoks_cons (And.intro rfl kF115) (zoks_cons (And.intro rfl (And.intro rfl (kP103 rfl))) (zoks_cons rfl (zoks_cons rfl (zoks_cons (And.intro rfl kF119) (zoks_cons (And.intro rfl (And.intro rfl (kP100 rfl))) (zoks_cons rfl (zoks_cons rfl (zoks_cons (And.intro rfl kF111) (zoks_cons (And.intro rfl (And.intro rfl (kP94 rfl))) (zoks_cons rfl (zoks_cons rfl (zoks_cons (And.intro rfl kF112) (zoks_cons (And.intro rfl (And.intro rfl (kP97 rfl))) (zoks_cons rfl (zoks_cons rfl (zoks_cons (And.intro rfl kF117) (zoks_cons (And.intro rfl (And.intro rfl (kP98 rfl))) (zoks_cons rfl (zoks_cons rfl (zoks_cons (And.intro rfl kF120) (zoks_cons (And.intro rfl (And.intro rfl (kP99 rfl))) (zoks_cons rfl (zoks_cons rfl (zoks_cons (And.intro rfl kF113) (zoks_cons (And.intro rfl (And.intro rfl (kP104 rfl))) (zoks_cons rfl (zoks_cons rfl (zoks_cons (And.intro rfl kF114) (zoks_cons (And.intro rfl (And.intro rfl (kP95 rfl))) (zoks_cons rfl (zoks_cons rfl (zoks_cons (And.intro rfl kF116) (zoks_cons (And.intro rfl (And.intro rfl (kP105 rfl))) (zoks_cons rfl (zoks_cons rfl (zoks_cons (And.intro rfl kF118) (zoks_cons rfl (zoks_cons (And.intro rfl kF121) (zoks_cons rfl (zoks_cons (And.intro rfl kF122) (zoks_cons (And.intro rfl kV103) (zoks_cons (And.intro rfl rfl) trivial)))))))))))))))))))))))))))))))))))))))))))))
theorem kWork_copyFrom : zcd (mWork_copyFrom) cdWork_copyFrom := by
  intro a is h
  unfold cdWork_copyFrom at h
  split at h
  · cases h; exact bWork_copyFrom_0
  · cases h
