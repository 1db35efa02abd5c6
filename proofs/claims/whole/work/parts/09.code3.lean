/-! The code of methods as runs of instructions. Written by gen/code.py. -/
def qM_init_0 : List zIns := [(.aload_n 0, 1, 0, 0, 0, 0, 0, z0), (.invokespecial 1, 3, 0, 0, 1, 0, 0, z0), (.aload_n 0, 1, 0, 0, 0, 0, 0, z0), (.bipush (32), 2, 32, 0, 0, 0, 0, z0), (.newarray .char, 2, 1, 0, 0, 0, 0, z0), (.putfield 7, 3, 9, 1, 0, 0, 0, z0), (.aload_n 0, 1, 0, 0, 0, 0, 0, z0), (.sipush (144), 3, 144, 0, 0, 0, 0, z0), (.newarray .char, 2, 1, 0, 0, 0, 0, z0), (.putfield 13, 3, 9, 3, 0, 0, 0, z0), (.aload_n 0, 1, 0, 0, 0, 0, 0, z0), (.bipush (12), 2, 12, 0, 0, 0, 0, z0), (.newarray .int, 2, 0, 0, 0, 0, 0, z0), (.putfield 16, 3, 9, 4, 0, 0, 0, z0), (.aload_n 0, 1, 0, 0, 0, 0, 0, z0), (.bipush (120), 2, 120, 0, 0, 0, 0, z0), (.newarray .char, 2, 1, 0, 0, 0, 0, z0), (.putfield 20, 3, 9, 6, 0, 0, 0, z0), (.aload_n 0, 1, 0, 0, 0, 0, 0, z0), (.bipush (120), 2, 120, 0, 0, 0, 0, z0), (.newarray .char, 2, 1, 0, 0, 0, 0, z0), (.putfield 23, 3, 9, 7, 0, 0, 0, z0), (.aload_n 0, 1, 0, 0, 0, 0, 0, z0), (.bipush (10), 2, 10, 0, 0, 0, 0, z0), (.newarray .int, 2, 0, 0, 0, 0, 0, z0), (.putfield 26, 3, 9, 8, 0, 0, 0, z0), (.aload_n 0, 1, 0, 0, 0, 0, 0, z0), (.bipush (10), 2, 10, 0, 0, 0, 0, z0), (.newarray .int, 2, 0, 0, 0, 0, 0, z0), (.putfield 29, 3, 9, 9, 0, 0, 0, z0), (.aload_n 0, 1, 0, 0, 0, 0, 0, z0), (.sipush (864), 3, 864, 0, 0, 0, 0, z0), (.newarray .char, 2, 1, 0, 0, 0, 0, z0), (.putfield 32, 3, 9, 11, 0, 0, 0, z0), (.aload_n 0, 1, 0, 0, 0, 0, 0, z0), (.bipush (36), 2, 36, 0, 0, 0, 0, z0), (.newarray .int, 2, 0, 0, 0, 0, 0, z0), (.putfield 35, 3, 9, 12, 0, 0, 0, z0), (.aload_n 0, 1, 0, 0, 0, 0, 0, z0), (.bipush (36), 2, 36, 0, 0, 0, 0, z0), (.newarray .boolean, 2, 2, 0, 0, 0, 0, z0), (.putfield 38, 3, 9, 13, 0, 0, 0, z0), (.aload_n 0, 1, 0, 0, 0, 0, 0, z0), (.iconst (2), 1, 2, 0, 0, 0, 0, z0), (.newarray .int, 2, 0, 0, 0, 0, 0, z0), (.putfield 42, 3, 9, 14, 0, 0, 0, z0), (.aload_n 0, 1, 0, 0, 0, 0, 0, z0), (.iconst (2), 1, 2, 0, 0, 0, 0, z0), (.newarray .int, 2, 0, 0, 0, 0, 0, z0), (.putfield 45, 3, 9, 15, 0, 0, 0, z0), (.aload_n 0, 1, 0, 0, 0, 0, 0, z0), (.sipush (512), 3, 512, 0, 0, 0, 0, z0), (.newarray .int, 2, 0, 0, 0, 0, 0, z0), (.putfield 48, 3, 9, 18, 0, 0, 0, z0), (.aload_n 0, 1, 0, 0, 0, 0, 0, z0), (.sipush (512), 3, 512, 0, 0, 0, 0, z0), (.newarray .int, 2, 0, 0, 0, 0, 0, z0), (.putfield 51, 3, 9, 19, 0, 0, 0, z0), (.aload_n 0, 1, 0, 0, 0, 0, 0, z0), (.sipush (512), 3, 512, 0, 0, 0, 0, z0), (.newarray .int, 2, 0, 0, 0, 0, 0, z0), (.putfield 54, 3, 9, 20, 0, 0, 0, z0), (.aload_n 0, 1, 0, 0, 0, 0, 0, z0), (.sipush (512), 3, 512, 0, 0, 0, 0, z0), (.newarray .int, 2, 0, 0, 0, 0, 0, z0), (.putfield 57, 3, 9, 21, 0, 0, 0, z0), (.aload_n 0, 1, 0, 0, 0, 0, 0, z0), (.sipush (512), 3, 512, 0, 0, 0, 0, z0), (.newarray .int, 2, 0, 0, 0, 0, 0, z0), (.putfield 60, 3, 9, 22, 0, 0, 0, z0), (.aload_n 0, 1, 0, 0, 0, 0, 0, z0), (.bipush (12), 2, 12, 0, 0, 0, 0, z0), (.newarray .int, 2, 0, 0, 0, 0, 0, z0), (.putfield 63, 3, 9, 23, 0, 0, 0, z0), (.aload_n 0, 1, 0, 0, 0, 0, 0, z0), (.bipush (48), 2, 48, 0, 0, 0, 0, z0), (.newarray .int, 2, 0, 0, 0, 0, 0, z0), (.putfield 66, 3, 9, 25, 0, 0, 0, z0), (.aload_n 0, 1, 0, 0, 0, 0, 0, z0), (.bipush (48), 2, 48, 0, 0, 0, 0, z0), (.newarray .int, 2, 0, 0, 0, 0, 0, z0), (.putfield 69, 3, 9, 26, 0, 0, 0, z0), (.aload_n 0, 1, 0, 0, 0, 0, 0, z0), (.bipush (48), 2, 48, 0, 0, 0, 0, z0), (.newarray .int, 2, 0, 0, 0, 0, 0, z0), (.putfield 72, 3, 9, 27, 0, 0, 0, z0), (.aload_n 0, 1, 0, 0, 0, 0, 0, z0), (.bipush (48), 2, 48, 0, 0, 0, 0, z0), (.newarray .boolean, 2, 2, 0, 0, 0, 0, z0), (.putfield 75, 3, 9, 28, 0, 0, 0, z0), (.aload_n 0, 1, 0, 0, 0, 0, 0, z0), (.bipush (48), 2, 48, 0, 0, 0, 0, z0), (.newarray .boolean, 2, 2, 0, 0, 0, 0, z0), (.putfield 78, 3, 9, 29, 0, 0, 0, z0), (.aload_n 0, 1, 0, 0, 0, 0, 0, z0), (.sipush (144), 3, 144, 0, 0, 0, 0, z0), (.newarray .int, 2, 0, 0, 0, 0, 0, z0), (.putfield 81, 3, 9, 32, 0, 0, 0, z0), (.aload_n 0, 1, 0, 0, 0, 0, 0, z0), (.bipush (36), 2, 36, 0, 0, 0, 0, z0), (.newarray .int, 2, 0, 0, 0, 0, 0, z0), (.putfield 84, 3, 9, 33, 0, 0, 0, z0), (.aload_n 0, 1, 0, 0, 0, 0, 0, z0), (.bipush (36), 2, 36, 0, 0, 0, 0, z0), (.newarray .int, 2, 0, 0, 0, 0, 0, z0), (.putfield 87, 3, 9, 34, 0, 0, 0, z0), (.aload_n 0, 1, 0, 0, 0, 0, 0, z0), (.bipush (36), 2, 36, 0, 0, 0, 0, z0), (.newarray .int, 2, 0, 0, 0, 0, 0, z0), (.putfield 90, 3, 9, 35, 0, 0, 0, z0), (.aload_n 0, 1, 0, 0, 0, 0, 0, z0), (.bipush (36), 2, 36, 0, 0, 0, 0, z0), (.newarray .int, 2, 0, 0, 0, 0, 0, z0), (.putfield 93, 3, 9, 36, 0, 0, 0, z0), (.aload_n 0, 1, 0, 0, 0, 0, 0, z0), (.bipush (36), 2, 36, 0, 0, 0, 0, z0), (.newarray .int, 2, 0, 0, 0, 0, 0, z0), (.putfield 96, 3, 9, 37, 0, 0, 0, z0), (.aload_n 0, 1, 0, 0, 0, 0, 0, z0), (.bipush (36), 2, 36, 0, 0, 0, 0, z0), (.newarray .boolean, 2, 2, 0, 0, 0, 0, z0), (.putfield 99, 3, 9, 38, 0, 0, 0, z0), (.aload_n 0, 1, 0, 0, 0, 0, 0, z0), (.bipush (36), 2, 36, 0, 0, 0, 0, z0), (.newarray .int, 2, 0, 0, 0, 0, 0, z0), (.putfield 102, 3, 9, 39, 0, 0, 0, z0), (.aload_n 0, 1, 0, 0, 0, 0, 0, z0), (.bipush (36), 2, 36, 0, 0, 0, 0, z0), (.newarray .int, 2, 0, 0, 0, 0, 0, z0), (.putfield 105, 3, 9, 40, 0, 0, 0, z0), (.aload_n 0, 1, 0, 0, 0, 0, 0, z0), (.bipush (36), 2, 36, 0, 0, 0, 0, z0), (.newarray .int, 2, 0, 0, 0, 0, 0, z0), (.putfield 108, 3, 9, 41, 0, 0, 0, z0), (.aload_n 0, 1, 0, 0, 0, 0, 0, z0), (.bipush (36), 2, 36, 0, 0, 0, 0, z0), (.newarray .int, 2, 0, 0, 0, 0, 0, z0), (.putfield 111, 3, 9, 42, 0, 0, 0, z0), (.aload_n 0, 1, 0, 0, 0, 0, 0, z0), (.bipush (36), 2, 36, 0, 0, 0, 0, z0), (.newarray .int, 2, 0, 0, 0, 0, 0, z0), (.putfield 114, 3, 9, 43, 0, 0, 0, z0), (.aload_n 0, 1, 0, 0, 0, 0, 0, z0), (.bipush (36), 2, 36, 0, 0, 0, 0, z0), (.newarray .boolean, 2, 2, 0, 0, 0, 0, z0), (.putfield 117, 3, 9, 44, 0, 0, 0, z0), (.return_, 1, 0, 0, 0, 0, 0, z0)]
def cdM_init : zCd := fun a => match a with
  | 0 => some qM_init_0
  | _ => none
set_option maxRecDepth 100000 in
theorem bM_init_0 : zcode (mM_init) 0 qM_init_0 := zcode_of (by decide +kernel) (zoks_cons rfl (zoks_cons (And.intro rfl kL1) (zoks_cons rfl (zoks_cons (And.intro rfl (by decide)) (zoks_cons (And.intro rfl (And.intro rfl zT_achar)) (zoks_cons (And.intro rfl (And.intro rfl kP14)) (zoks_cons rfl (zoks_cons (And.intro rfl (by decide)) (zoks_cons (And.intro rfl (And.intro rfl zT_achar)) (zoks_cons (And.intro rfl (And.intro rfl kP15)) (zoks_cons rfl (zoks_cons (And.intro rfl (by decide)) (zoks_cons (And.intro rfl (And.intro rfl zT_aint)) (zoks_cons (And.intro rfl (And.intro rfl kP16)) (zoks_cons rfl (zoks_cons (And.intro rfl (by decide)) (zoks_cons (And.intro rfl (And.intro rfl zT_achar)) (zoks_cons (And.intro rfl (And.intro rfl kP17)) (zoks_cons rfl (zoks_cons (And.intro rfl (by decide)) (zoks_cons (And.intro rfl (And.intro rfl zT_achar)) (zoks_cons (And.intro rfl (And.intro rfl kP18)) (zoks_cons rfl (zoks_cons (And.intro rfl (by decide)) (zoks_cons (And.intro rfl (And.intro rfl zT_aint)) (zoks_cons (And.intro rfl (And.intro rfl kP19)) (zoks_cons rfl (zoks_cons (And.intro rfl (by decide)) (zoks_cons (And.intro rfl (And.intro rfl zT_aint)) (zoks_cons (And.intro rfl (And.intro rfl kP20)) (zoks_cons rfl (zoks_cons (And.intro rfl (by decide)) (zoks_cons (And.intro rfl (And.intro rfl zT_achar)) (zoks_cons (And.intro rfl (And.intro rfl kP21)) (zoks_cons rfl (zoks_cons (And.intro rfl (by decide)) (zoks_cons (And.intro rfl (And.intro rfl zT_aint)) (zoks_cons (And.intro rfl (And.intro rfl kP22)) (zoks_cons rfl (zoks_cons (And.intro rfl (by decide)) (zoks_cons (And.intro rfl (And.intro rfl zT_aboolean)) (zoks_cons (And.intro rfl (And.intro rfl kP23)) (zoks_cons rfl (zoks_cons (And.intro rfl (by decide)) (zoks_cons (And.intro rfl (And.intro rfl zT_aint)) (zoks_cons (And.intro rfl (And.intro rfl kP24)) (zoks_cons rfl (zoks_cons (And.intro rfl (by decide)) (zoks_cons (And.intro rfl (And.intro rfl zT_aint)) (zoks_cons (And.intro rfl (And.intro rfl kP25)) (zoks_cons rfl (zoks_cons (And.intro rfl (by decide)) (zoks_cons (And.intro rfl (And.intro rfl zT_aint)) (zoks_cons (And.intro rfl (And.intro rfl kP26)) (zoks_cons rfl (zoks_cons (And.intro rfl (by decide)) (zoks_cons (And.intro rfl (And.intro rfl zT_aint)) (zoks_cons (And.intro rfl (And.intro rfl kP27)) (zoks_cons rfl (zoks_cons (And.intro rfl (by decide)) (zoks_cons (And.intro rfl (And.intro rfl zT_aint)) (zoks_cons (And.intro rfl (And.intro rfl kP28)) (zoks_cons rfl (zoks_cons (And.intro rfl (by decide)) (zoks_cons (And.intro rfl (And.intro rfl zT_aint)) (zoks_cons (And.intro rfl (And.intro rfl kP29)) (zoks_cons rfl (zoks_cons (And.intro rfl (by decide)) (zoks_cons (And.intro rfl (And.intro rfl zT_aint)) (zoks_cons (And.intro rfl (And.intro rfl kP30)) (zoks_cons rfl (zoks_cons (And.intro rfl (by decide)) (zoks_cons (And.intro rfl (And.intro rfl zT_aint)) (zoks_cons (And.intro rfl (And.intro rfl kP31)) (zoks_cons rfl (zoks_cons (And.intro rfl (by decide)) (zoks_cons (And.intro rfl (And.intro rfl zT_aint)) (zoks_cons (And.intro rfl (And.intro rfl kP32)) (zoks_cons rfl (zoks_cons (And.intro rfl (by decide)) (zoks_cons (And.intro rfl (And.intro rfl zT_aint)) (zoks_cons (And.intro rfl (And.intro rfl kP33)) (zoks_cons rfl (zoks_cons (And.intro rfl (by decide)) (zoks_cons (And.intro rfl (And.intro rfl zT_aint)) (zoks_cons (And.intro rfl (And.intro rfl kP34)) (zoks_cons rfl (zoks_cons (And.intro rfl (by decide)) (zoks_cons (And.intro rfl (And.intro rfl zT_aboolean)) (zoks_cons (And.intro rfl (And.intro rfl kP35)) (zoks_cons rfl (zoks_cons (And.intro rfl (by decide)) (zoks_cons (And.intro rfl (And.intro rfl zT_aboolean)) (zoks_cons (And.intro rfl (And.intro rfl kP36)) (zoks_cons rfl (zoks_cons (And.intro rfl (by decide)) (zoks_cons (And.intro rfl (And.intro rfl zT_aint)) (zoks_cons (And.intro rfl (And.intro rfl kP37)) (zoks_cons rfl (zoks_cons (And.intro rfl (by decide)) (zoks_cons (And.intro rfl (And.intro rfl zT_aint)) (zoks_cons (And.intro rfl (And.intro rfl kP38)) (zoks_cons rfl (zoks_cons (And.intro rfl (by decide)) (zoks_cons (And.intro rfl (And.intro rfl zT_aint)) (zoks_cons (And.intro rfl (And.intro rfl kP39)) (zoks_cons rfl (zoks_cons (And.intro rfl (by decide)) (zoks_cons (And.intro rfl (And.intro rfl zT_aint)) (zoks_cons (And.intro rfl (And.intro rfl kP40)) (zoks_cons rfl (zoks_cons (And.intro rfl (by decide)) (zoks_cons (And.intro rfl (And.intro rfl zT_aint)) (zoks_cons (And.intro rfl (And.intro rfl kP41)) (zoks_cons rfl (zoks_cons (And.intro rfl (by decide)) (zoks_cons (And.intro rfl (And.intro rfl zT_aint)) (zoks_cons (And.intro rfl (And.intro rfl kP42)) (zoks_cons rfl (zoks_cons (And.intro rfl (by decide)) (zoks_cons (And.intro rfl (And.intro rfl zT_aboolean)) (zoks_cons (And.intro rfl (And.intro rfl kP43)) (zoks_cons rfl (zoks_cons (And.intro rfl (by decide)) (zoks_cons (And.intro rfl (And.intro rfl zT_aint)) (zoks_cons (And.intro rfl (And.intro rfl kP44)) (zoks_cons rfl (zoks_cons (And.intro rfl (by decide)) (zoks_cons (And.intro rfl (And.intro rfl zT_aint)) (zoks_cons (And.intro rfl (And.intro rfl kP45)) (zoks_cons rfl (zoks_cons (And.intro rfl (by decide)) (zoks_cons (And.intro rfl (And.intro rfl zT_aint)) (zoks_cons (And.intro rfl (And.intro rfl kP46)) (zoks_cons rfl (zoks_cons (And.intro rfl (by decide)) (zoks_cons (And.intro rfl (And.intro rfl zT_aint)) (zoks_cons (And.intro rfl (And.intro rfl kP47)) (zoks_cons rfl (zoks_cons (And.intro rfl (by decide)) (zoks_cons (And.intro rfl (And.intro rfl zT_aint)) (zoks_cons (And.intro rfl (And.intro rfl kP48)) (zoks_cons rfl (zoks_cons (And.intro rfl (by decide)) (zoks_cons (And.intro rfl (And.intro rfl zT_aboolean)) (zoks_cons (And.intro rfl (And.intro rfl kP49)) (zoks_cons (And.intro rfl rfl) trivial)))))))))))))))))))))))))))))))))))))))))))))))))))))))))))))))))))))))))))))))))))))))))))))))))))))))))))))))))))))))))))))))))))))))))))))))))))
theorem kM_init : zcd (mM_init) cdM_init := by
  intro a is h
  unfold cdM_init at h
  split at h
  · cases h; exact bM_init_0
  · cases h
def qM_isClient_0 : List zIns := [(.iload_n 0, 1, 0, 0, 0, 0, 0, z0), (.ifCond .lt (12), 3, 13, 0, 0, 0, 0, z0), (.iload_n 0, 1, 0, 0, 0, 0, 0, z0), (.iconst (2), 1, 2, 0, 0, 0, 0, z0), (.if_icmp .gt (7), 3, 13, 0, 0, 0, 0, z0), (.iconst (1), 1, 1, 0, 0, 0, 0, z0), (.goto (4), 3, 14, 0, 0, 0, 0, z0)]
def qM_isClient_13 : List zIns := [(.iconst (0), 1, 0, 0, 0, 0, 0, z0)]
def qM_isClient_14 : List zIns := [(.ireturn, 1, 0, 0, 1, 0, 0, z0)]
def cdM_isClient : zCd := fun a => match a with
  | 0 => some qM_isClient_0
  | 13 => some qM_isClient_13
  | 14 => some qM_isClient_14
  | _ => none
set_option maxRecDepth 100000 in
theorem bM_isClient_0 : zcode (mM_isClient) 0 qM_isClient_0 := zcode_of (by decide +kernel) (zoks_cons rfl (zoks_cons (And.intro rfl (by decide)) (zoks_cons rfl (zoks_cons (And.intro rfl (by decide)) (zoks_cons (And.intro rfl (by decide)) (zoks_cons (And.intro rfl (by decide)) (zoks_cons (And.intro rfl (by decide)) trivial)))))))
set_option maxRecDepth 100000 in
theorem bM_isClient_13 : zcode (mM_isClient) 13 qM_isClient_13 := zcode_of (by decide +kernel) (zoks_cons (And.intro rfl (by decide)) trivial)
set_option maxRecDepth 100000 in
theorem bM_isClient_14 : zcode (mM_isClient) 14 qM_isClient_14 := zcode_of (by decide +kernel) (zoks_cons (And.intro rfl (Or.inr (Or.inl ⟨rfl, rfl⟩))) trivial)
theorem kM_isClient : zcd (mM_isClient) cdM_isClient := by
  intro a is h
  unfold cdM_isClient at h
  split at h
  · cases h; exact bM_isClient_0
  · cases h; exact bM_isClient_13
  · cases h; exact bM_isClient_14
  · cases h
def qM_isFile_0 : List zIns := [(.iload_n 1, 1, 0, 0, 0, 0, 0, z0), (.ifCond .lt (15), 3, 16, 0, 0, 0, 0, z0), (.iload_n 1, 1, 0, 0, 0, 0, 0, z0), (.aload_n 0, 1, 0, 0, 0, 0, 0, z0), (.getfield 120, 3, 9, 2, 0, 0, 0, z0), (.if_icmp .ge (7), 3, 16, 0, 0, 0, 0, z0), (.iconst (1), 1, 1, 0, 0, 0, 0, z0), (.goto (4), 3, 17, 0, 0, 0, 0, z0)]
def qM_isFile_16 : List zIns := [(.iconst (0), 1, 0, 0, 0, 0, 0, z0)]
def qM_isFile_17 : List zIns := [(.ireturn, 1, 0, 0, 1, 0, 0, z0)]
def cdM_isFile : zCd := fun a => match a with
  | 0 => some qM_isFile_0
  | 16 => some qM_isFile_16
  | 17 => some qM_isFile_17
  | _ => none
set_option maxRecDepth 100000 in
theorem bM_isFile_0 : zcode (mM_isFile) 0 qM_isFile_0 := zcode_of (by decide +kernel) (zoks_cons rfl (zoks_cons (And.intro rfl (by decide)) (zoks_cons rfl (zoks_cons rfl (zoks_cons (And.intro rfl kF30) (zoks_cons (And.intro rfl (by decide)) (zoks_cons (And.intro rfl (by decide)) (zoks_cons (And.intro rfl (by decide)) trivial))))))))
set_option maxRecDepth 100000 in
theorem bM_isFile_16 : zcode (mM_isFile) 16 qM_isFile_16 := zcode_of (by decide +kernel) (zoks_cons (And.intro rfl (by decide)) trivial)
set_option maxRecDepth 100000 in
theorem bM_isFile_17 : zcode (mM_isFile) 17 qM_isFile_17 := zcode_of (by decide +kernel) (zoks_cons (And.intro rfl (Or.inr (Or.inl ⟨rfl, rfl⟩))) trivial)
theorem kM_isFile : zcd (mM_isFile) cdM_isFile := by
  intro a is h
  unfold cdM_isFile at h
  split at h
  · cases h; exact bM_isFile_0
  · cases h; exact bM_isFile_16
  · cases h; exact bM_isFile_17
  · cases h
def qM_isList_0 : List zIns := [(.iload_n 0, 1, 0, 0, 0, 0, 0, z0), (.ifCond .eq (8), 3, 9, 0, 0, 0, 0, z0), (.iload_n 0, 1, 0, 0, 0, 0, 0, z0), (.iconst (1), 1, 1, 0, 0, 0, 0, z0), (.if_icmp .ne (7), 3, 13, 0, 0, 0, 0, z0)]
def qM_isList_9 : List zIns := [(.iconst (1), 1, 1, 0, 0, 0, 0, z0), (.goto (4), 3, 14, 0, 0, 0, 0, z0)]
def qM_isList_13 : List zIns := [(.iconst (0), 1, 0, 0, 0, 0, 0, z0)]
def qM_isList_14 : List zIns := [(.ireturn, 1, 0, 0, 1, 0, 0, z0)]
def cdM_isList : zCd := fun a => match a with
  | 0 => some qM_isList_0
  | 9 => some qM_isList_9
  | 13 => some qM_isList_13
  | 14 => some qM_isList_14
  | _ => none
set_option maxRecDepth 100000 in
theorem bM_isList_0 : zcode (mM_isList) 0 qM_isList_0 := zcode_of (by decide +kernel) (zoks_cons rfl (zoks_cons (And.intro rfl (by decide)) (zoks_cons rfl (zoks_cons (And.intro rfl (by decide)) (zoks_cons (And.intro rfl (by decide)) trivial)))))
set_option maxRecDepth 100000 in
theorem bM_isList_9 : zcode (mM_isList) 9 qM_isList_9 := zcode_of (by decide +kernel) (zoks_cons (And.intro rfl (by decide)) (zoks_cons (And.intro rfl (by decide)) trivial))
set_option maxRecDepth 100000 in
theorem bM_isList_13 : zcode (mM_isList) 13 qM_isList_13 := zcode_of (by decide +kernel) (zoks_cons (And.intro rfl (by decide)) trivial)
set_option maxRecDepth 100000 in
theorem bM_isList_14 : zcode (mM_isList) 14 qM_isList_14 := zcode_of (by decide +kernel) (zoks_cons (And.intro rfl (Or.inr (Or.inl ⟨rfl, rfl⟩))) trivial)
theorem kM_isList : zcd (mM_isList) cdM_isList := by
  intro a is h
  unfold cdM_isList at h
  split at h
  · cases h; exact bM_isList_0
  · cases h; exact bM_isList_9
  · cases h; exact bM_isList_13
  · cases h; exact bM_isList_14
  · cases h
def qM_both_0 : List zIns := [(.iload_n 1, 1, 0, 0, 0, 0, 0, z0), (.invokestatic 124, 3, 1, 0, 0, 0, 0, mM_isClient), (.ifCond .eq (15), 3, 19, 0, 0, 0, 0, z0), (.aload_n 0, 1, 0, 0, 0, 0, 0, z0), (.iload_n 2, 1, 0, 0, 0, 0, 0, z0), (.invokevirtual 128, 3, 1, 9, 0, 0, 0, mM_isFile), (.ifCond .eq (7), 3, 19, 0, 0, 0, 0, z0), (.iconst (1), 1, 1, 0, 0, 0, 0, z0), (.goto (4), 3, 20, 0, 0, 0, 0, z0)]
def qM_both_19 : List zIns := [(.iconst (0), 1, 0, 0, 0, 0, 0, z0)]
def qM_both_20 : List zIns := [(.ireturn, 1, 0, 0, 1, 0, 0, z0)]
def cdM_both : zCd := fun a => match a with
  | 0 => some qM_both_0
  | 19 => some qM_both_19
  | 20 => some qM_both_20
  | _ => none
set_option maxRecDepth 100000 in
theorem bM_both_0 : zcode (mM_both) 0 qM_both_0 := zcode_of (by decide +kernel) (zoks_cons rfl (zoks_cons (And.intro rfl kS4) (zoks_cons (And.intro rfl (by decide)) (zoks_cons rfl (zoks_cons rfl (zoks_cons (And.intro rfl kV44) (zoks_cons (And.intro rfl (by decide)) (zoks_cons (And.intro rfl (by decide)) (zoks_cons (And.intro rfl (by decide)) trivial)))))))))
set_option maxRecDepth 100000 in
theorem bM_both_19 : zcode (mM_both) 19 qM_both_19 := zcode_of (by decide +kernel) (zoks_cons (And.intro rfl (by decide)) trivial)
set_option maxRecDepth 100000 in
theorem bM_both_20 : zcode (mM_both) 20 qM_both_20 := zcode_of (by decide +kernel) (zoks_cons (And.intro rfl (Or.inr (Or.inl ⟨rfl, rfl⟩))) trivial)
theorem kM_both : zcd (mM_both) cdM_both := by
  intro a is h
  unfold cdM_both at h
  split at h
  · cases h; exact bM_both_0
  · cases h; exact bM_both_19
  · cases h; exact bM_both_20
  · cases h
def qM_write_0 : List zIns := [(.aload_n 0, 1, 0, 0, 0, 0, 0, z0), (.getfield 131, 3, 9, 0, 0, 0, 0, z0), (.bipush (32), 2, 32, 0, 0, 0, 0, z0), (.if_icmp .ge (15), 3, 21, 0, 0, 0, 0, z0), (.iload_n 1, 1, 0, 0, 0, 0, 0, z0), (.bipush (32), 2, 32, 0, 0, 0, 0, z0), (.if_icmp .lt (9), 3, 21, 0, 0, 0, 0, z0), (.iload_n 1, 1, 0, 0, 0, 0, 0, z0), (.bipush (126), 2, 126, 0, 0, 0, 0, z0), (.if_icmp .le (5), 3, 23, 0, 0, 0, 0, z0)]
def qM_write_21 : List zIns := [(.iconst (0), 1, 0, 0, 0, 0, 0, z0), (.ireturn, 1, 0, 0, 1, 0, 0, z0)]
def qM_write_23 : List zIns := [(.aload_n 0, 1, 0, 0, 0, 0, 0, z0), (.getfield 7, 3, 9, 1, 0, 0, 0, z0), (.aload_n 0, 1, 0, 0, 0, 0, 0, z0), (.getfield 131, 3, 9, 0, 0, 0, 0, z0), (.iload_n 1, 1, 0, 0, 0, 0, 0, z0), (.castore, 1, 1, 0, 0, 0, 0, z0), (.aload_n 0, 1, 0, 0, 0, 0, 0, z0), (.dup, 1, 0, 0, 0, 0, 0, z0), (.getfield 131, 3, 9, 0, 0, 0, 0, z0), (.iconst (1), 1, 1, 0, 0, 0, 0, z0), (.iadd, 1, 0, 0, 0, 0, 0, z0), (.putfield 131, 3, 9, 0, 0, 0, 0, z0), (.iconst (1), 1, 1, 0, 0, 0, 0, z0), (.ireturn, 1, 0, 0, 1, 0, 0, z0)]
def cdM_write : zCd := fun a => match a with
  | 0 => some qM_write_0
  | 21 => some qM_write_21
  | 23 => some qM_write_23
  | _ => none
set_option maxRecDepth 100000 in
theorem bM_write_0 : zcode (mM_write) 0 qM_write_0 := zcode_of (by decide +kernel) (zoks_cons rfl (zoks_cons (And.intro rfl kF31) (zoks_cons (And.intro rfl (by decide)) (zoks_cons (And.intro rfl (by decide)) (zoks_cons rfl (zoks_cons (And.intro rfl (by decide)) (zoks_cons (And.intro rfl (by decide)) (zoks_cons rfl (zoks_cons (And.intro rfl (by decide)) (zoks_cons (And.intro rfl (by decide)) trivial))))))))))
set_option maxRecDepth 100000 in
theorem bM_write_21 : zcode (mM_write) 21 qM_write_21 := zcode_of (by decide +kernel) (zoks_cons (And.intro rfl (by decide)) (zoks_cons (And.intro rfl (Or.inr (Or.inl ⟨rfl, rfl⟩))) trivial))
set_option maxRecDepth 100000 in
theorem bM_write_23 : zcode (mM_write) 23 qM_write_23 := zcode_of (by decide +kernel) (zoks_cons rfl (zoks_cons (And.intro rfl kF32) (zoks_cons rfl (zoks_cons (And.intro rfl kF31) (zoks_cons rfl (zoks_cons (And.intro rfl rfl) (zoks_cons rfl (zoks_cons rfl (zoks_cons (And.intro rfl kF31) (zoks_cons (And.intro rfl (by decide)) (zoks_cons rfl (zoks_cons (And.intro rfl (And.intro rfl (kP50 rfl))) (zoks_cons (And.intro rfl (by decide)) (zoks_cons (And.intro rfl (Or.inr (Or.inl ⟨rfl, rfl⟩))) trivial))))))))))))))
theorem kM_write : zcd (mM_write) cdM_write := by
  intro a is h
  unfold cdM_write at h
  split at h
  · cases h; exact bM_write_0
  · cases h; exact bM_write_21
  · cases h; exact bM_write_23
  · cases h
def qM_letter_0 : List zIns := [(.iload_n 0, 1, 0, 0, 0, 0, 0, z0), (.bipush (97), 2, 97, 0, 0, 0, 0, z0), (.if_icmp .lt (9), 3, 12, 0, 0, 0, 0, z0), (.iload_n 0, 1, 0, 0, 0, 0, 0, z0), (.bipush (122), 2, 122, 0, 0, 0, 0, z0), (.if_icmp .le (9), 3, 18, 0, 0, 0, 0, z0)]
def qM_letter_12 : List zIns := [(.iload_n 0, 1, 0, 0, 0, 0, 0, z0), (.bipush (47), 2, 47, 0, 0, 0, 0, z0), (.if_icmp .ne (7), 3, 22, 0, 0, 0, 0, z0)]
def qM_letter_18 : List zIns := [(.iconst (1), 1, 1, 0, 0, 0, 0, z0), (.goto (4), 3, 23, 0, 0, 0, 0, z0)]
def qM_letter_22 : List zIns := [(.iconst (0), 1, 0, 0, 0, 0, 0, z0)]
def qM_letter_23 : List zIns := [(.ireturn, 1, 0, 0, 1, 0, 0, z0)]
def cdM_letter : zCd := fun a => match a with
  | 0 => some qM_letter_0
  | 12 => some qM_letter_12
  | 18 => some qM_letter_18
  | 22 => some qM_letter_22
  | 23 => some qM_letter_23
  | _ => none
set_option maxRecDepth 100000 in
theorem bM_letter_0 : zcode (mM_letter) 0 qM_letter_0 := zcode_of (by decide +kernel) (zoks_cons rfl (zoks_cons (And.intro rfl (by decide)) (zoks_cons (And.intro rfl (by decide)) (zoks_cons rfl (zoks_cons (And.intro rfl (by decide)) (zoks_cons (And.intro rfl (by decide)) trivial))))))
set_option maxRecDepth 100000 in
theorem bM_letter_12 : zcode (mM_letter) 12 qM_letter_12 := zcode_of (by decide +kernel) (zoks_cons rfl (zoks_cons (And.intro rfl (by decide)) (zoks_cons (And.intro rfl (by decide)) trivial)))
set_option maxRecDepth 100000 in
theorem bM_letter_18 : zcode (mM_letter) 18 qM_letter_18 := zcode_of (by decide +kernel) (zoks_cons (And.intro rfl (by decide)) (zoks_cons (And.intro rfl (by decide)) trivial))
set_option maxRecDepth 100000 in
theorem bM_letter_22 : zcode (mM_letter) 22 qM_letter_22 := zcode_of (by decide +kernel) (zoks_cons (And.intro rfl (by decide)) trivial)
set_option maxRecDepth 100000 in
theorem bM_letter_23 : zcode (mM_letter) 23 qM_letter_23 := zcode_of (by decide +kernel) (zoks_cons (And.intro rfl (Or.inr (Or.inl ⟨rfl, rfl⟩))) trivial)
theorem kM_letter : zcd (mM_letter) cdM_letter := by
  intro a is h
  unfold cdM_letter at h
  split at h
  · cases h; exact bM_letter_0
  · cases h; exact bM_letter_12
  · cases h; exact bM_letter_18
  · cases h; exact bM_letter_22
  · cases h; exact bM_letter_23
  · cases h
def qM_isPath_0 : List zIns := [(.aload_n 0, 1, 0, 0, 0, 0, 0, z0), (.getfield 131, 3, 9, 0, 0, 0, 0, z0), (.iconst (1), 1, 1, 0, 0, 0, 0, z0), (.if_icmp .lt (43), 3, 48, 0, 0, 0, 0, z0), (.aload_n 0, 1, 0, 0, 0, 0, 0, z0), (.getfield 131, 3, 9, 0, 0, 0, 0, z0), (.bipush (12), 2, 12, 0, 0, 0, 0, z0), (.if_icmp .gt (34), 3, 48, 0, 0, 0, 0, z0), (.aload_n 0, 1, 0, 0, 0, 0, 0, z0), (.getfield 7, 3, 9, 1, 0, 0, 0, z0), (.iconst (0), 1, 0, 0, 0, 0, 0, z0), (.caload, 1, 1, 0, 0, 0, 0, z0), (.bipush (47), 2, 47, 0, 0, 0, 0, z0), (.if_icmp .eq (23), 3, 48, 0, 0, 0, 0, z0), (.aload_n 0, 1, 0, 0, 0, 0, 0, z0), (.getfield 7, 3, 9, 1, 0, 0, 0, z0), (.aload_n 0, 1, 0, 0, 0, 0, 0, z0), (.getfield 131, 3, 9, 0, 0, 0, 0, z0), (.iconst (1), 1, 1, 0, 0, 0, 0, z0), (.isub, 1, 0, 0, 0, 0, 0, z0), (.caload, 1, 1, 0, 0, 0, 0, z0), (.bipush (47), 2, 47, 0, 0, 0, 0, z0), (.if_icmp .eq (7), 3, 48, 0, 0, 0, 0, z0), (.iconst (1), 1, 1, 0, 0, 0, 0, z0), (.goto (4), 3, 49, 0, 0, 0, 0, z0)]
def qM_isPath_48 : List zIns := [(.iconst (0), 1, 0, 0, 0, 0, 0, z0)]
def qM_isPath_49 : List zIns := [(.istore_n 1, 1, 0, 0, 0, 0, 0, z0), (.iconst (0), 1, 0, 0, 0, 0, 0, z0), (.istore_n 2, 1, 0, 0, 0, 0, 0, z0)]
def qM_isPath_52 : List zIns := [(.iload_n 2, 1, 0, 0, 0, 0, 0, z0), (.aload_n 0, 1, 0, 0, 0, 0, 0, z0), (.getfield 131, 3, 9, 0, 0, 0, 0, z0), (.if_icmp .ge (59), 3, 116, 0, 0, 0, 0, z0), (.iload_n 1, 1, 0, 0, 0, 0, 0, z0), (.ifCond .eq (55), 3, 116, 0, 0, 0, 0, z0), (.aload_n 0, 1, 0, 0, 0, 0, 0, z0), (.getfield 7, 3, 9, 1, 0, 0, 0, z0), (.iload_n 2, 1, 0, 0, 0, 0, 0, z0), (.caload, 1, 1, 0, 0, 0, 0, z0), (.invokestatic 134, 3, 1, 0, 0, 0, 0, mM_letter), (.ifCond .eq (35), 3, 108, 0, 0, 0, 0, z0), (.iload_n 2, 1, 0, 0, 0, 0, 0, z0), (.ifCond .eq (27), 3, 104, 0, 0, 0, 0, z0), (.aload_n 0, 1, 0, 0, 0, 0, 0, z0), (.getfield 7, 3, 9, 1, 0, 0, 0, z0), (.iload_n 2, 1, 0, 0, 0, 0, 0, z0), (.caload, 1, 1, 0, 0, 0, 0, z0), (.bipush (47), 2, 47, 0, 0, 0, 0, z0), (.if_icmp .ne (16), 3, 104, 0, 0, 0, 0, z0), (.aload_n 0, 1, 0, 0, 0, 0, 0, z0), (.getfield 7, 3, 9, 1, 0, 0, 0, z0), (.iload_n 2, 1, 0, 0, 0, 0, 0, z0), (.iconst (1), 1, 1, 0, 0, 0, 0, z0), (.isub, 1, 0, 0, 0, 0, 0, z0), (.caload, 1, 1, 0, 0, 0, 0, z0), (.bipush (47), 2, 47, 0, 0, 0, 0, z0), (.if_icmp .eq (7), 3, 108, 0, 0, 0, 0, z0)]
def qM_isPath_104 : List zIns := [(.iconst (1), 1, 1, 0, 0, 0, 0, z0), (.goto (4), 3, 109, 0, 0, 0, 0, z0)]
def qM_isPath_108 : List zIns := [(.iconst (0), 1, 0, 0, 0, 0, 0, z0)]
def qM_isPath_109 : List zIns := [(.istore_n 1, 1, 0, 0, 0, 0, 0, z0), (.iinc 2 (1), 3, 1, 0, 0, 0, 0, z0), (.goto (-61), 3, 52, 0, 0, 0, 0, z0)]
def qM_isPath_116 : List zIns := [(.iload_n 1, 1, 0, 0, 0, 0, 0, z0), (.ireturn, 1, 0, 0, 1, 0, 0, z0)]
def cdM_isPath : zCd := fun a => match a with
  | 0 => some qM_isPath_0
  | 48 => some qM_isPath_48
  | 49 => some qM_isPath_49
  | 52 => some qM_isPath_52
  | 104 => some qM_isPath_104
  | 108 => some qM_isPath_108
  | 109 => some qM_isPath_109
  | 116 => some qM_isPath_116
  | _ => none
set_option maxRecDepth 100000 in
theorem bM_isPath_0 : zcode (mM_isPath) 0 qM_isPath_0 := zcode_of (by decide +kernel) (zoks_cons rfl (zoks_cons (And.intro rfl kF31) (zoks_cons (And.intro rfl (by decide)) (zoks_cons (And.intro rfl (by decide)) (zoks_cons rfl (zoks_cons (And.intro rfl kF31) (zoks_cons (And.intro rfl (by decide)) (zoks_cons (And.intro rfl (by decide)) (zoks_cons rfl (zoks_cons (And.intro rfl kF32) (zoks_cons (And.intro rfl (by decide)) (zoks_cons (And.intro rfl rfl) (zoks_cons (And.intro rfl (by decide)) (zoks_cons (And.intro rfl (by decide)) (zoks_cons rfl (zoks_cons (And.intro rfl kF32) (zoks_cons rfl (zoks_cons (And.intro rfl kF31) (zoks_cons (And.intro rfl (by decide)) (zoks_cons rfl (zoks_cons (And.intro rfl rfl) (zoks_cons (And.intro rfl (by decide)) (zoks_cons (And.intro rfl (by decide)) (zoks_cons (And.intro rfl (by decide)) (zoks_cons (And.intro rfl (by decide)) trivial)))))))))))))))))))))))))
set_option maxRecDepth 100000 in
theorem bM_isPath_48 : zcode (mM_isPath) 48 qM_isPath_48 := zcode_of (by decide +kernel) (zoks_cons (And.intro rfl (by decide)) trivial)
set_option maxRecDepth 100000 in
theorem bM_isPath_49 : zcode (mM_isPath) 49 qM_isPath_49 := zcode_of (by decide +kernel) (zoks_cons rfl (zoks_cons (And.intro rfl (by decide)) (zoks_cons rfl trivial)))
set_option maxRecDepth 100000 in
theorem bM_isPath_52 : zcode (mM_isPath) 52 qM_isPath_52 := zcode_of (by decide +kernel) (zoks_cons rfl (zoks_cons rfl (zoks_cons (And.intro rfl kF31) (zoks_cons (And.intro rfl (by decide)) (zoks_cons rfl (zoks_cons (And.intro rfl (by decide)) (zoks_cons rfl (zoks_cons (And.intro rfl kF32) (zoks_cons rfl (zoks_cons (And.intro rfl rfl) (zoks_cons (And.intro rfl kS5) (zoks_cons (And.intro rfl (by decide)) (zoks_cons rfl (zoks_cons (And.intro rfl (by decide)) (zoks_cons rfl (zoks_cons (And.intro rfl kF32) (zoks_cons rfl (zoks_cons (And.intro rfl rfl) (zoks_cons (And.intro rfl (by decide)) (zoks_cons (And.intro rfl (by decide)) (zoks_cons rfl (zoks_cons (And.intro rfl kF32) (zoks_cons rfl (zoks_cons (And.intro rfl (by decide)) (zoks_cons rfl (zoks_cons (And.intro rfl rfl) (zoks_cons (And.intro rfl (by decide)) (zoks_cons (And.intro rfl (by decide)) trivial))))))))))))))))))))))))))))
set_option maxRecDepth 100000 in
theorem bM_isPath_104 : zcode (mM_isPath) 104 qM_isPath_104 := zcode_of (by decide +kernel) (zoks_cons (And.intro rfl (by decide)) (zoks_cons (And.intro rfl (by decide)) trivial))
set_option maxRecDepth 100000 in
theorem bM_isPath_108 : zcode (mM_isPath) 108 qM_isPath_108 := zcode_of (by decide +kernel) (zoks_cons (And.intro rfl (by decide)) trivial)
set_option maxRecDepth 100000 in
theorem bM_isPath_109 : zcode (mM_isPath) 109 qM_isPath_109 := zcode_of (by decide +kernel) (zoks_cons rfl (zoks_cons (And.intro rfl (by decide)) (zoks_cons (And.intro rfl (by decide)) trivial)))
set_option maxRecDepth 100000 in
theorem bM_isPath_116 : zcode (mM_isPath) 116 qM_isPath_116 := zcode_of (by decide +kernel) (zoks_cons rfl (zoks_cons (And.intro rfl (Or.inr (Or.inl ⟨rfl, rfl⟩))) trivial))
theorem kM_isPath : zcd (mM_isPath) cdM_isPath := by
  intro a is h
  unfold cdM_isPath at h
  split at h
  · cases h; exact bM_isPath_0
  · cases h; exact bM_isPath_48
  · cases h; exact bM_isPath_49
  · cases h; exact bM_isPath_52
  · cases h; exact bM_isPath_104
  · cases h; exact bM_isPath_108
  · cases h; exact bM_isPath_109
  · cases h; exact bM_isPath_116
  · cases h
def qM_isPathOf_0 : List zIns := [(.aload_n 0, 1, 0, 0, 0, 0, 0, z0), (.getfield 16, 3, 9, 4, 0, 0, 0, z0), (.iload_n 1, 1, 0, 0, 0, 0, 0, z0), (.iaload, 1, 0, 0, 0, 0, 0, z0), (.aload_n 0, 1, 0, 0, 0, 0, 0, z0), (.getfield 131, 3, 9, 0, 0, 0, 0, z0), (.if_icmp .ne (7), 3, 17, 0, 0, 0, 0, z0), (.iconst (1), 1, 1, 0, 0, 0, 0, z0), (.goto (4), 3, 18, 0, 0, 0, 0, z0)]
def qM_isPathOf_17 : List zIns := [(.iconst (0), 1, 0, 0, 0, 0, 0, z0)]
def qM_isPathOf_18 : List zIns := [(.istore_n 2, 1, 0, 0, 0, 0, 0, z0), (.iconst (0), 1, 0, 0, 0, 0, 0, z0), (.istore_n 3, 1, 0, 0, 0, 0, 0, z0)]
def qM_isPathOf_21 : List zIns := [(.iload_n 3, 1, 0, 0, 0, 0, 0, z0), (.aload_n 0, 1, 0, 0, 0, 0, 0, z0), (.getfield 131, 3, 9, 0, 0, 0, 0, z0), (.if_icmp .ge (39), 3, 65, 0, 0, 0, 0, z0), (.iload_n 2, 1, 0, 0, 0, 0, 0, z0), (.ifCond .eq (35), 3, 65, 0, 0, 0, 0, z0), (.aload_n 0, 1, 0, 0, 0, 0, 0, z0), (.getfield 13, 3, 9, 3, 0, 0, 0, z0), (.bipush (12), 2, 12, 0, 0, 0, 0, z0), (.iload_n 1, 1, 0, 0, 0, 0, 0, z0), (.imul, 1, 0, 0, 0, 0, 0, z0), (.iload_n 3, 1, 0, 0, 0, 0, 0, z0), (.iadd, 1, 0, 0, 0, 0, 0, z0), (.caload, 1, 1, 0, 0, 0, 0, z0), (.aload_n 0, 1, 0, 0, 0, 0, 0, z0), (.getfield 7, 3, 9, 1, 0, 0, 0, z0), (.iload_n 3, 1, 0, 0, 0, 0, 0, z0), (.caload, 1, 1, 0, 0, 0, 0, z0), (.if_icmp .ne (7), 3, 57, 0, 0, 0, 0, z0), (.iconst (1), 1, 1, 0, 0, 0, 0, z0), (.goto (4), 3, 58, 0, 0, 0, 0, z0)]
def qM_isPathOf_57 : List zIns := [(.iconst (0), 1, 0, 0, 0, 0, 0, z0)]
def qM_isPathOf_58 : List zIns := [(.istore_n 2, 1, 0, 0, 0, 0, 0, z0), (.iinc 3 (1), 3, 1, 0, 0, 0, 0, z0), (.goto (-41), 3, 21, 0, 0, 0, 0, z0)]
def qM_isPathOf_65 : List zIns := [(.iload_n 2, 1, 0, 0, 0, 0, 0, z0), (.ireturn, 1, 0, 0, 1, 0, 0, z0)]
def cdM_isPathOf : zCd := fun a => match a with
  | 0 => some qM_isPathOf_0
  | 17 => some qM_isPathOf_17
  | 18 => some qM_isPathOf_18
  | 21 => some qM_isPathOf_21
  | 57 => some qM_isPathOf_57
  | 58 => some qM_isPathOf_58
  | 65 => some qM_isPathOf_65
  | _ => none
set_option maxRecDepth 100000 in
theorem bM_isPathOf_0 : zcode (mM_isPathOf) 0 qM_isPathOf_0 := zcode_of (by decide +kernel) (zoks_cons rfl (zoks_cons (And.intro rfl kF33) (zoks_cons rfl (zoks_cons (And.intro rfl rfl) (zoks_cons rfl (zoks_cons (And.intro rfl kF31) (zoks_cons (And.intro rfl (by decide)) (zoks_cons (And.intro rfl (by decide)) (zoks_cons (And.intro rfl (by decide)) trivial)))))))))
set_option maxRecDepth 100000 in
theorem bM_isPathOf_17 : zcode (mM_isPathOf) 17 qM_isPathOf_17 := zcode_of (by decide +kernel) (zoks_cons (And.intro rfl (by decide)) trivial)
set_option maxRecDepth 100000 in
theorem bM_isPathOf_18 : zcode (mM_isPathOf) 18 qM_isPathOf_18 := zcode_of (by decide +kernel) (zoks_cons rfl (zoks_cons (And.intro rfl (by decide)) (zoks_cons rfl trivial)))
set_option maxRecDepth 100000 in
theorem bM_isPathOf_21 : zcode (mM_isPathOf) 21 qM_isPathOf_21 := zcode_of (by decide +kernel) (zoks_cons rfl (zoks_cons rfl (zoks_cons (And.intro rfl kF31) (zoks_cons (And.intro rfl (by decide)) (zoks_cons rfl (zoks_cons (And.intro rfl (by decide)) (zoks_cons rfl (zoks_cons (And.intro rfl kF34) (zoks_cons (And.intro rfl (by decide)) (zoks_cons rfl (zoks_cons rfl (zoks_cons rfl (zoks_cons rfl (zoks_cons (And.intro rfl rfl) (zoks_cons rfl (zoks_cons (And.intro rfl kF32) (zoks_cons rfl (zoks_cons (And.intro rfl rfl) (zoks_cons (And.intro rfl (by decide)) (zoks_cons (And.intro rfl (by decide)) (zoks_cons (And.intro rfl (by decide)) trivial)))))))))))))))))))))
set_option maxRecDepth 100000 in
theorem bM_isPathOf_57 : zcode (mM_isPathOf) 57 qM_isPathOf_57 := zcode_of (by decide +kernel) (zoks_cons (And.intro rfl (by decide)) trivial)
set_option maxRecDepth 100000 in
theorem bM_isPathOf_58 : zcode (mM_isPathOf) 58 qM_isPathOf_58 := zcode_of (by decide +kernel) (zoks_cons rfl (zoks_cons (And.intro rfl (by decide)) (zoks_cons (And.intro rfl (by decide)) trivial)))
set_option maxRecDepth 100000 in
theorem bM_isPathOf_65 : zcode (mM_isPathOf) 65 qM_isPathOf_65 := zcode_of (by decide +kernel) (zoks_cons rfl (zoks_cons (And.intro rfl (Or.inr (Or.inl ⟨rfl, rfl⟩))) trivial))
theorem kM_isPathOf : zcd (mM_isPathOf) cdM_isPathOf := by
  intro a is h
  unfold cdM_isPathOf at h
  split at h
  · cases h; exact bM_isPathOf_0
  · cases h; exact bM_isPathOf_17
  · cases h; exact bM_isPathOf_18
  · cases h; exact bM_isPathOf_21
  · cases h; exact bM_isPathOf_57
  · cases h; exact bM_isPathOf_58
  · cases h; exact bM_isPathOf_65
  · cases h
def qM_file_0 : List zIns := [(.aload_n 0, 1, 0, 0, 0, 0, 0, z0), (.invokevirtual 138, 3, 0, 9, 0, 0, 0, mM_isPath), (.istore_n 1, 1, 0, 0, 0, 0, 0, z0), (.iconst (-1), 1, 1, 0, 1, 0, 0, z0), (.istore_n 2, 1, 0, 0, 0, 0, 0, z0), (.iconst (0), 1, 0, 0, 0, 0, 0, z0), (.istore_n 3, 1, 0, 0, 0, 0, 0, z0)]
def qM_file_9 : List zIns := [(.iload_n 3, 1, 0, 0, 0, 0, 0, z0), (.aload_n 0, 1, 0, 0, 0, 0, 0, z0), (.getfield 120, 3, 9, 2, 0, 0, 0, z0), (.if_icmp .ge (27), 3, 41, 0, 0, 0, 0, z0), (.iload_n 1, 1, 0, 0, 0, 0, 0, z0), (.ifCond .eq (23), 3, 41, 0, 0, 0, 0, z0), (.aload_n 0, 1, 0, 0, 0, 0, 0, z0), (.iload_n 3, 1, 0, 0, 0, 0, 0, z0), (.invokevirtual 142, 3, 1, 9, 0, 0, 0, mM_isPathOf), (.ifCond .eq (7), 3, 33, 0, 0, 0, 0, z0), (.iload_n 3, 1, 0, 0, 0, 0, 0, z0), (.goto (4), 3, 34, 0, 0, 0, 0, z0)]
def qM_file_33 : List zIns := [(.iload_n 2, 1, 0, 0, 0, 0, 0, z0)]
def qM_file_34 : List zIns := [(.istore_n 2, 1, 0, 0, 0, 0, 0, z0), (.iinc 3 (1), 3, 1, 0, 0, 0, 0, z0), (.goto (-29), 3, 9, 0, 0, 0, 0, z0)]
def qM_file_41 : List zIns := [(.iload_n 1, 1, 0, 0, 0, 0, 0, z0), (.ifCond .eq (85), 3, 127, 0, 0, 0, 0, z0), (.iload_n 2, 1, 0, 0, 0, 0, 0, z0), (.ifCond .ge (81), 3, 127, 0, 0, 0, 0, z0), (.aload_n 0, 1, 0, 0, 0, 0, 0, z0), (.getfield 120, 3, 9, 2, 0, 0, 0, z0), (.bipush (12), 2, 12, 0, 0, 0, 0, z0), (.if_icmp .ge (72), 3, 127, 0, 0, 0, 0, z0), (.iconst (0), 1, 0, 0, 0, 0, 0, z0), (.istore_n 3, 1, 0, 0, 0, 0, 0, z0)]
def qM_file_60 : List zIns := [(.iload_n 3, 1, 0, 0, 0, 0, 0, z0), (.aload_n 0, 1, 0, 0, 0, 0, 0, z0), (.getfield 131, 3, 9, 0, 0, 0, 0, z0), (.if_icmp .ge (29), 3, 94, 0, 0, 0, 0, z0), (.aload_n 0, 1, 0, 0, 0, 0, 0, z0), (.getfield 13, 3, 9, 3, 0, 0, 0, z0), (.bipush (12), 2, 12, 0, 0, 0, 0, z0), (.aload_n 0, 1, 0, 0, 0, 0, 0, z0), (.getfield 120, 3, 9, 2, 0, 0, 0, z0), (.imul, 1, 0, 0, 0, 0, 0, z0), (.iload_n 3, 1, 0, 0, 0, 0, 0, z0), (.iadd, 1, 0, 0, 0, 0, 0, z0), (.aload_n 0, 1, 0, 0, 0, 0, 0, z0), (.getfield 7, 3, 9, 1, 0, 0, 0, z0), (.iload_n 3, 1, 0, 0, 0, 0, 0, z0), (.caload, 1, 1, 0, 0, 0, 0, z0), (.castore, 1, 1, 0, 0, 0, 0, z0), (.iinc 3 (1), 3, 1, 0, 0, 0, 0, z0), (.goto (-31), 3, 60, 0, 0, 0, 0, z0)]
def qM_file_94 : List zIns := [(.aload_n 0, 1, 0, 0, 0, 0, 0, z0), (.getfield 16, 3, 9, 4, 0, 0, 0, z0), (.aload_n 0, 1, 0, 0, 0, 0, 0, z0), (.getfield 120, 3, 9, 2, 0, 0, 0, z0), (.aload_n 0, 1, 0, 0, 0, 0, 0, z0), (.getfield 131, 3, 9, 0, 0, 0, 0, z0), (.iastore, 1, 0, 0, 0, 0, 0, z0), (.aload_n 0, 1, 0, 0, 0, 0, 0, z0), (.getfield 120, 3, 9, 2, 0, 0, 0, z0), (.istore_n 2, 1, 0, 0, 0, 0, 0, z0), (.aload_n 0, 1, 0, 0, 0, 0, 0, z0), (.dup, 1, 0, 0, 0, 0, 0, z0), (.getfield 120, 3, 9, 2, 0, 0, 0, z0), (.iconst (1), 1, 1, 0, 0, 0, 0, z0), (.iadd, 1, 0, 0, 0, 0, 0, z0), (.putfield 120, 3, 9, 2, 0, 0, 0, z0), (.aload_n 0, 1, 0, 0, 0, 0, 0, z0), (.iconst (0), 1, 0, 0, 0, 0, 0, z0), (.putfield 145, 3, 9, 10, 0, 0, 0, z0)]
def qM_file_127 : List zIns := [(.aload_n 0, 1, 0, 0, 0, 0, 0, z0), (.iconst (0), 1, 0, 0, 0, 0, 0, z0), (.putfield 131, 3, 9, 0, 0, 0, 0, z0), (.iload_n 1, 1, 0, 0, 0, 0, 0, z0), (.ifCond .ne (7), 3, 140, 0, 0, 0, 0, z0), (.iconst (-1), 1, 1, 0, 1, 0, 0, z0), (.goto (13), 3, 150, 0, 0, 0, 0, z0)]
def qM_file_140 : List zIns := [(.iload_n 2, 1, 0, 0, 0, 0, 0, z0), (.ifCond .ge (8), 3, 149, 0, 0, 0, 0, z0), (.bipush (-2), 2, 2, 0, 1, 0, 0, z0), (.goto (4), 3, 150, 0, 0, 0, 0, z0)]
def qM_file_149 : List zIns := [(.iload_n 2, 1, 0, 0, 0, 0, 0, z0)]
def qM_file_150 : List zIns := [(.ireturn, 1, 0, 0, 0, 0, 0, z0)]
def cdM_file : zCd := fun a => match a with
  | 0 => some qM_file_0
  | 9 => some qM_file_9
  | 33 => some qM_file_33
  | 34 => some qM_file_34
  | 41 => some qM_file_41
  | 60 => some qM_file_60
  | 94 => some qM_file_94
  | 127 => some qM_file_127
  | 140 => some qM_file_140
  | 149 => some qM_file_149
  | 150 => some qM_file_150
  | _ => none
set_option maxRecDepth 100000 in
theorem bM_file_0 : zcode (mM_file) 0 qM_file_0 := zcode_of (by decide +kernel) (zoks_cons rfl (zoks_cons (And.intro rfl kV45) (zoks_cons rfl (zoks_cons (And.intro rfl (by decide)) (zoks_cons rfl (zoks_cons (And.intro rfl (by decide)) (zoks_cons rfl trivial)))))))
set_option maxRecDepth 100000 in
theorem bM_file_9 : zcode (mM_file) 9 qM_file_9 := zcode_of (by decide +kernel) (zoks_cons rfl (zoks_cons rfl (zoks_cons (And.intro rfl kF30) (zoks_cons (And.intro rfl (by decide)) (zoks_cons rfl (zoks_cons (And.intro rfl (by decide)) (zoks_cons rfl (zoks_cons rfl (zoks_cons (And.intro rfl kV46) (zoks_cons (And.intro rfl (by decide)) (zoks_cons rfl (zoks_cons (And.intro rfl (by decide)) trivial))))))))))))
set_option maxRecDepth 100000 in
theorem bM_file_33 : zcode (mM_file) 33 qM_file_33 := zcode_of (by decide +kernel) (zoks_cons rfl trivial)
set_option maxRecDepth 100000 in
theorem bM_file_34 : zcode (mM_file) 34 qM_file_34 := zcode_of (by decide +kernel) (zoks_cons rfl (zoks_cons (And.intro rfl (by decide)) (zoks_cons (And.intro rfl (by decide)) trivial)))
set_option maxRecDepth 100000 in
theorem bM_file_41 : zcode (mM_file) 41 qM_file_41 := zcode_of (by decide +kernel) (zoks_cons rfl (zoks_cons (And.intro rfl (by decide)) (zoks_cons rfl (zoks_cons (And.intro rfl (by decide)) (zoks_cons rfl (zoks_cons (And.intro rfl kF30) (zoks_cons (And.intro rfl (by decide)) (zoks_cons (And.intro rfl (by decide)) (zoks_cons (And.intro rfl (by decide)) (zoks_cons rfl trivial))))))))))
set_option maxRecDepth 100000 in
theorem bM_file_60 : zcode (mM_file) 60 qM_file_60 := zcode_of (by decide +kernel) (zoks_cons rfl (zoks_cons rfl (zoks_cons (And.intro rfl kF31) (zoks_cons (And.intro rfl (by decide)) (zoks_cons rfl (zoks_cons (And.intro rfl kF34) (zoks_cons (And.intro rfl (by decide)) (zoks_cons rfl (zoks_cons (And.intro rfl kF30) (zoks_cons rfl (zoks_cons rfl (zoks_cons rfl (zoks_cons rfl (zoks_cons (And.intro rfl kF32) (zoks_cons rfl (zoks_cons (And.intro rfl rfl) (zoks_cons (And.intro rfl rfl) (zoks_cons (And.intro rfl (by decide)) (zoks_cons (And.intro rfl (by decide)) trivial)))))))))))))))))))
set_option maxRecDepth 100000 in
theorem bM_file_94 : zcode (mM_file) 94 qM_file_94 := zcode_of (by decide +kernel) (zoks_cons rfl (zoks_cons (And.intro rfl kF33) (zoks_cons rfl (zoks_cons (And.intro rfl kF30) (zoks_cons rfl (zoks_cons (And.intro rfl kF31) (zoks_cons (And.intro rfl rfl) (zoks_cons rfl (zoks_cons (And.intro rfl kF30) (zoks_cons rfl (zoks_cons rfl (zoks_cons rfl (zoks_cons (And.intro rfl kF30) (zoks_cons (And.intro rfl (by decide)) (zoks_cons rfl (zoks_cons (And.intro rfl (And.intro rfl (kP51 rfl))) (zoks_cons rfl (zoks_cons (And.intro rfl (by decide)) (zoks_cons (And.intro rfl (And.intro rfl (kP52 rfl))) trivial)))))))))))))))))))
set_option maxRecDepth 100000 in
theorem bM_file_127 : zcode (mM_file) 127 qM_file_127 := zcode_of (by decide +kernel) (zoks_cons rfl (zoks_cons (And.intro rfl (by decide)) (zoks_cons (And.intro rfl (And.intro rfl (kP50 rfl))) (zoks_cons rfl (zoks_cons (And.intro rfl (by decide)) (zoks_cons (And.intro rfl (by decide)) (zoks_cons (And.intro rfl (by decide)) trivial)))))))
set_option maxRecDepth 100000 in
theorem bM_file_140 : zcode (mM_file) 140 qM_file_140 := zcode_of (by decide +kernel) (zoks_cons rfl (zoks_cons (And.intro rfl (by decide)) (zoks_cons (And.intro rfl (by decide)) (zoks_cons (And.intro rfl (by decide)) trivial))))
set_option maxRecDepth 100000 in
theorem bM_file_149 : zcode (mM_file) 149 qM_file_149 := zcode_of (by decide +kernel) (zoks_cons rfl trivial)
set_option maxRecDepth 100000 in
theorem bM_file_150 : zcode (mM_file) 150 qM_file_150 := zcode_of (by decide +kernel) (zoks_cons (And.intro rfl (Or.inl ⟨rfl, rfl⟩)) trivial)
theorem kM_file : zcd (mM_file) cdM_file := by
  intro a is h
  unfold cdM_file at h
  split at h
  · cases h; exact bM_file_0
  · cases h; exact bM_file_9
  · cases h; exact bM_file_33
  · cases h; exact bM_file_34
  · cases h; exact bM_file_41
  · cases h; exact bM_file_60
  · cases h; exact bM_file_94
  · cases h; exact bM_file_127
  · cases h; exact bM_file_140
  · cases h; exact bM_file_149
  · cases h; exact bM_file_150
  · cases h
def qM_wild_0 : List zIns := [(.iload_n 0, 1, 0, 0, 0, 0, 0, z0), (.bipush (42), 2, 42, 0, 0, 0, 0, z0), (.if_icmp .eq (9), 3, 12, 0, 0, 0, 0, z0), (.iload_n 0, 1, 0, 0, 0, 0, 0, z0), (.bipush (126), 2, 126, 0, 0, 0, 0, z0), (.if_icmp .ne (7), 3, 16, 0, 0, 0, 0, z0)]
def qM_wild_12 : List zIns := [(.iconst (1), 1, 1, 0, 0, 0, 0, z0), (.goto (4), 3, 17, 0, 0, 0, 0, z0)]
def qM_wild_16 : List zIns := [(.iconst (0), 1, 0, 0, 0, 0, 0, z0)]
def qM_wild_17 : List zIns := [(.ireturn, 1, 0, 0, 1, 0, 0, z0)]
def cdM_wild : zCd := fun a => match a with
  | 0 => some qM_wild_0
  | 12 => some qM_wild_12
  | 16 => some qM_wild_16
  | 17 => some qM_wild_17
  | _ => none
set_option maxRecDepth 100000 in
theorem bM_wild_0 : zcode (mM_wild) 0 qM_wild_0 := zcode_of (by decide +kernel) (zoks_cons rfl (zoks_cons (And.intro rfl (by decide)) (zoks_cons (And.intro rfl (by decide)) (zoks_cons rfl (zoks_cons (And.intro rfl (by decide)) (zoks_cons (And.intro rfl (by decide)) trivial))))))
set_option maxRecDepth 100000 in
theorem bM_wild_12 : zcode (mM_wild) 12 qM_wild_12 := zcode_of (by decide +kernel) (zoks_cons (And.intro rfl (by decide)) (zoks_cons (And.intro rfl (by decide)) trivial))
set_option maxRecDepth 100000 in
theorem bM_wild_16 : zcode (mM_wild) 16 qM_wild_16 := zcode_of (by decide +kernel) (zoks_cons (And.intro rfl (by decide)) trivial)
set_option maxRecDepth 100000 in
theorem bM_wild_17 : zcode (mM_wild) 17 qM_wild_17 := zcode_of (by decide +kernel) (zoks_cons (And.intro rfl (Or.inr (Or.inl ⟨rfl, rfl⟩))) trivial)
theorem kM_wild : zcd (mM_wild) cdM_wild := by
  intro a is h
  unfold cdM_wild at h
  split at h
  · cases h; exact bM_wild_0
  · cases h; exact bM_wild_12
  · cases h; exact bM_wild_16
  · cases h; exact bM_wild_17
  · cases h
def qM_wildcards_0 : List zIns := [(.iconst (0), 1, 0, 0, 0, 0, 0, z0), (.istore_n 3, 1, 0, 0, 0, 0, 0, z0), (.iload_n 2, 1, 0, 0, 0, 0, 0, z0), (.iload_n 1, 1, 0, 0, 0, 0, 0, z0), (.isub, 1, 0, 0, 0, 0, 0, z0), (.iconst (1), 1, 1, 0, 0, 0, 0, z0), (.if_icmp .lt (15), 3, 21, 0, 0, 0, 0, z0), (.iload_n 2, 1, 0, 0, 0, 0, 0, z0), (.iload_n 1, 1, 0, 0, 0, 0, 0, z0), (.isub, 1, 0, 0, 0, 0, 0, z0), (.bipush (12), 2, 12, 0, 0, 0, 0, z0), (.if_icmp .gt (7), 3, 21, 0, 0, 0, 0, z0), (.iconst (1), 1, 1, 0, 0, 0, 0, z0), (.goto (4), 3, 22, 0, 0, 0, 0, z0)]
def qM_wildcards_21 : List zIns := [(.iconst (0), 1, 0, 0, 0, 0, 0, z0)]
def qM_wildcards_22 : List zIns := [(.istore 4, 2, 0, 0, 0, 0, 0, z0), (.iload_n 1, 1, 0, 0, 0, 0, 0, z0), (.istore 5, 2, 0, 0, 0, 0, 0, z0)]
def qM_wildcards_27 : List zIns := [(.iload 5, 2, 0, 0, 0, 0, 0, z0), (.iload_n 2, 1, 0, 0, 0, 0, 0, z0), (.if_icmp .ge (68), 3, 98, 0, 0, 0, 0, z0), (.iload 4, 2, 0, 0, 0, 0, 0, z0), (.ifCond .eq (63), 3, 98, 0, 0, 0, 0, z0), (.aload_n 0, 1, 0, 0, 0, 0, 0, z0), (.getfield 7, 3, 9, 1, 0, 0, 0, z0), (.iload 5, 2, 0, 0, 0, 0, 0, z0), (.caload, 1, 1, 0, 0, 0, 0, z0), (.invokestatic 134, 3, 1, 0, 0, 0, 0, mM_letter), (.ifCond .ne (16), 3, 64, 0, 0, 0, 0, z0), (.aload_n 0, 1, 0, 0, 0, 0, 0, z0), (.getfield 7, 3, 9, 1, 0, 0, 0, z0), (.iload 5, 2, 0, 0, 0, 0, 0, z0), (.caload, 1, 1, 0, 0, 0, 0, z0), (.invokestatic 149, 3, 1, 0, 0, 0, 0, mM_wild), (.ifCond .eq (7), 3, 68, 0, 0, 0, 0, z0)]
def qM_wildcards_64 : List zIns := [(.iconst (1), 1, 1, 0, 0, 0, 0, z0), (.goto (4), 3, 69, 0, 0, 0, 0, z0)]
def qM_wildcards_68 : List zIns := [(.iconst (0), 1, 0, 0, 0, 0, 0, z0)]
def qM_wildcards_69 : List zIns := [(.istore 4, 2, 0, 0, 0, 0, 0, z0), (.aload_n 0, 1, 0, 0, 0, 0, 0, z0), (.getfield 7, 3, 9, 1, 0, 0, 0, z0), (.iload 5, 2, 0, 0, 0, 0, 0, z0), (.caload, 1, 1, 0, 0, 0, 0, z0), (.invokestatic 149, 3, 1, 0, 0, 0, 0, mM_wild), (.ifCond .eq (9), 3, 90, 0, 0, 0, 0, z0), (.iload_n 3, 1, 0, 0, 0, 0, 0, z0), (.iconst (1), 1, 1, 0, 0, 0, 0, z0), (.iadd, 1, 0, 0, 0, 0, 0, z0), (.goto (4), 3, 91, 0, 0, 0, 0, z0)]
def qM_wildcards_90 : List zIns := [(.iload_n 3, 1, 0, 0, 0, 0, 0, z0)]
def qM_wildcards_91 : List zIns := [(.istore_n 3, 1, 0, 0, 0, 0, 0, z0), (.iinc 5 (1), 3, 1, 0, 0, 0, 0, z0), (.goto (-68), 3, 27, 0, 0, 0, 0, z0)]
def qM_wildcards_98 : List zIns := [(.iload 4, 2, 0, 0, 0, 0, 0, z0), (.ifCond .eq (8), 3, 108, 0, 0, 0, 0, z0), (.iload_n 3, 1, 0, 0, 0, 0, 0, z0), (.iconst (2), 1, 2, 0, 0, 0, 0, z0), (.if_icmp .le (7), 3, 112, 0, 0, 0, 0, z0)]
def qM_wildcards_108 : List zIns := [(.iconst (3), 1, 3, 0, 0, 0, 0, z0), (.goto (4), 3, 113, 0, 0, 0, 0, z0)]
def qM_wildcards_112 : List zIns := [(.iload_n 3, 1, 0, 0, 0, 0, 0, z0)]
def qM_wildcards_113 : List zIns := [(.ireturn, 1, 0, 0, 0, 0, 0, z0)]
def cdM_wildcards : zCd := fun a => match a with
  | 0 => some qM_wildcards_0
  | 21 => some qM_wildcards_21
  | 22 => some qM_wildcards_22
  | 27 => some qM_wildcards_27
  | 64 => some qM_wildcards_64
  | 68 => some qM_wildcards_68
  | 69 => some qM_wildcards_69
  | 90 => some qM_wildcards_90
  | 91 => some qM_wildcards_91
  | 98 => some qM_wildcards_98
  | 108 => some qM_wildcards_108
  | 112 => some qM_wildcards_112
  | 113 => some qM_wildcards_113
  | _ => none
set_option maxRecDepth 100000 in
theorem bM_wildcards_0 : zcode (mM_wildcards) 0 qM_wildcards_0 := zcode_of (by decide +kernel) (zoks_cons (And.intro rfl (by decide)) (zoks_cons rfl (zoks_cons rfl (zoks_cons rfl (zoks_cons rfl (zoks_cons (And.intro rfl (by decide)) (zoks_cons (And.intro rfl (by decide)) (zoks_cons rfl (zoks_cons rfl (zoks_cons rfl (zoks_cons (And.intro rfl (by decide)) (zoks_cons (And.intro rfl (by decide)) (zoks_cons (And.intro rfl (by decide)) (zoks_cons (And.intro rfl (by decide)) trivial))))))))))))))
set_option maxRecDepth 100000 in
theorem bM_wildcards_21 : zcode (mM_wildcards) 21 qM_wildcards_21 := zcode_of (by decide +kernel) (zoks_cons (And.intro rfl (by decide)) trivial)
set_option maxRecDepth 100000 in
theorem bM_wildcards_22 : zcode (mM_wildcards) 22 qM_wildcards_22 := zcode_of (by decide +kernel) (zoks_cons rfl (zoks_cons rfl (zoks_cons rfl trivial)))
set_option maxRecDepth 100000 in
theorem bM_wildcards_27 : zcode (mM_wildcards) 27 qM_wildcards_27 := zcode_of (by decide +kernel) (zoks_cons rfl (zoks_cons rfl (zoks_cons (And.intro rfl (by decide)) (zoks_cons rfl (zoks_cons (And.intro rfl (by decide)) (zoks_cons rfl (zoks_cons (And.intro rfl kF32) (zoks_cons rfl (zoks_cons (And.intro rfl rfl) (zoks_cons (And.intro rfl kS5) (zoks_cons (And.intro rfl (by decide)) (zoks_cons rfl (zoks_cons (And.intro rfl kF32) (zoks_cons rfl (zoks_cons (And.intro rfl rfl) (zoks_cons (And.intro rfl kS6) (zoks_cons (And.intro rfl (by decide)) trivial)))))))))))))))))
set_option maxRecDepth 100000 in
theorem bM_wildcards_64 : zcode (mM_wildcards) 64 qM_wildcards_64 := zcode_of (by decide +kernel) (zoks_cons (And.intro rfl (by decide)) (zoks_cons (And.intro rfl (by decide)) trivial))
set_option maxRecDepth 100000 in
theorem bM_wildcards_68 : zcode (mM_wildcards) 68 qM_wildcards_68 := zcode_of (by decide +kernel) (zoks_cons (And.intro rfl (by decide)) trivial)
set_option maxRecDepth 100000 in
theorem bM_wildcards_69 : zcode (mM_wildcards) 69 qM_wildcards_69 := zcode_of (by decide +kernel) (zoks_cons rfl (zoks_cons rfl (zoks_cons (And.intro rfl kF32) (zoks_cons rfl (zoks_cons (And.intro rfl rfl) (zoks_cons (And.intro rfl kS6) (zoks_cons (And.intro rfl (by decide)) (zoks_cons rfl (zoks_cons (And.intro rfl (by decide)) (zoks_cons rfl (zoks_cons (And.intro rfl (by decide)) trivial)))))))))))
set_option maxRecDepth 100000 in
theorem bM_wildcards_90 : zcode (mM_wildcards) 90 qM_wildcards_90 := zcode_of (by decide +kernel) (zoks_cons rfl trivial)
set_option maxRecDepth 100000 in
theorem bM_wildcards_91 : zcode (mM_wildcards) 91 qM_wildcards_91 := zcode_of (by decide +kernel) (zoks_cons rfl (zoks_cons (And.intro rfl (by decide)) (zoks_cons (And.intro rfl (by decide)) trivial)))
set_option maxRecDepth 100000 in
theorem bM_wildcards_98 : zcode (mM_wildcards) 98 qM_wildcards_98 := zcode_of (by decide +kernel) (zoks_cons rfl (zoks_cons (And.intro rfl (by decide)) (zoks_cons rfl (zoks_cons (And.intro rfl (by decide)) (zoks_cons (And.intro rfl (by decide)) trivial)))))
set_option maxRecDepth 100000 in
theorem bM_wildcards_108 : zcode (mM_wildcards) 108 qM_wildcards_108 := zcode_of (by decide +kernel) (zoks_cons (And.intro rfl (by decide)) (zoks_cons (And.intro rfl (by decide)) trivial))
set_option maxRecDepth 100000 in
theorem bM_wildcards_112 : zcode (mM_wildcards) 112 qM_wildcards_112 := zcode_of (by decide +kernel) (zoks_cons rfl trivial)
set_option maxRecDepth 100000 in
theorem bM_wildcards_113 : zcode (mM_wildcards) 113 qM_wildcards_113 := zcode_of (by decide +kernel) (zoks_cons (And.intro rfl (Or.inl ⟨rfl, rfl⟩)) trivial)
theorem kM_wildcards : zcd (mM_wildcards) cdM_wildcards := by
  intro a is h
  unfold cdM_wildcards at h
  split at h
  · cases h; exact bM_wildcards_0
  · cases h; exact bM_wildcards_21
  · cases h; exact bM_wildcards_22
  · cases h; exact bM_wildcards_27
  · cases h; exact bM_wildcards_64
  · cases h; exact bM_wildcards_68
  · cases h; exact bM_wildcards_69
  · cases h; exact bM_wildcards_90
  · cases h; exact bM_wildcards_91
  · cases h; exact bM_wildcards_98
  · cases h; exact bM_wildcards_108
  · cases h; exact bM_wildcards_112
  · cases h; exact bM_wildcards_113
  · cases h
def qM_wildcard_0 : List zIns := [(.iconst (0), 1, 0, 0, 0, 0, 0, z0), (.istore 4, 2, 0, 0, 0, 0, 0, z0), (.iload_n 1, 1, 0, 0, 0, 0, 0, z0), (.istore 5, 2, 0, 0, 0, 0, 0, z0)]
def qM_wildcard_6 : List zIns := [(.iload 5, 2, 0, 0, 0, 0, 0, z0), (.iload_n 2, 1, 0, 0, 0, 0, 0, z0), (.if_icmp .ge (39), 3, 48, 0, 0, 0, 0, z0), (.aload_n 0, 1, 0, 0, 0, 0, 0, z0), (.getfield 7, 3, 9, 1, 0, 0, 0, z0), (.iload 5, 2, 0, 0, 0, 0, 0, z0), (.caload, 1, 1, 0, 0, 0, 0, z0), (.invokestatic 149, 3, 1, 0, 0, 0, 0, mM_wild), (.ifCond .eq (20), 3, 42, 0, 0, 0, 0, z0), (.iload 4, 2, 0, 0, 0, 0, 0, z0), (.iload_n 3, 1, 0, 0, 0, 0, 0, z0), (.if_icmp .ne (11), 3, 39, 0, 0, 0, 0, z0), (.aload_n 0, 1, 0, 0, 0, 0, 0, z0), (.getfield 7, 3, 9, 1, 0, 0, 0, z0), (.iload 5, 2, 0, 0, 0, 0, 0, z0), (.caload, 1, 1, 0, 0, 0, 0, z0), (.ireturn, 1, 0, 0, 2, 0, 0, z0)]
def qM_wildcard_39 : List zIns := [(.iinc 4 (1), 3, 1, 0, 0, 0, 0, z0)]
def qM_wildcard_42 : List zIns := [(.iinc 5 (1), 3, 1, 0, 0, 0, 0, z0), (.goto (-39), 3, 6, 0, 0, 0, 0, z0)]
def qM_wildcard_48 : List zIns := [(.bipush (32), 2, 32, 0, 0, 0, 0, z0), (.ireturn, 1, 0, 0, 2, 0, 0, z0)]
def cdM_wildcard : zCd := fun a => match a with
  | 0 => some qM_wildcard_0
  | 6 => some qM_wildcard_6
  | 39 => some qM_wildcard_39
  | 42 => some qM_wildcard_42
  | 48 => some qM_wildcard_48
  | _ => none
set_option maxRecDepth 100000 in
theorem bM_wildcard_0 : zcode (mM_wildcard) 0 qM_wildcard_0 := zcode_of (by decide +kernel) (zoks_cons (And.intro rfl (by decide)) (zoks_cons rfl (zoks_cons rfl (zoks_cons rfl trivial))))
set_option maxRecDepth 100000 in
theorem bM_wildcard_6 : zcode (mM_wildcard) 6 qM_wildcard_6 := zcode_of (by decide +kernel) (zoks_cons rfl (zoks_cons rfl (zoks_cons (And.intro rfl (by decide)) (zoks_cons rfl (zoks_cons (And.intro rfl kF32) (zoks_cons rfl (zoks_cons (And.intro rfl rfl) (zoks_cons (And.intro rfl kS6) (zoks_cons (And.intro rfl (by decide)) (zoks_cons rfl (zoks_cons rfl (zoks_cons (And.intro rfl (by decide)) (zoks_cons rfl (zoks_cons (And.intro rfl kF32) (zoks_cons rfl (zoks_cons (And.intro rfl rfl) (zoks_cons (And.intro rfl (Or.inr (Or.inr ⟨rfl, rfl⟩))) trivial)))))))))))))))))
set_option maxRecDepth 100000 in
theorem bM_wildcard_39 : zcode (mM_wildcard) 39 qM_wildcard_39 := zcode_of (by decide +kernel) (zoks_cons (And.intro rfl (by decide)) trivial)
set_option maxRecDepth 100000 in
theorem bM_wildcard_42 : zcode (mM_wildcard) 42 qM_wildcard_42 := zcode_of (by decide +kernel) (zoks_cons (And.intro rfl (by decide)) (zoks_cons (And.intro rfl (by decide)) trivial))
set_option maxRecDepth 100000 in
theorem bM_wildcard_48 : zcode (mM_wildcard) 48 qM_wildcard_48 := zcode_of (by decide +kernel) (zoks_cons (And.intro rfl (by decide)) (zoks_cons (And.intro rfl (Or.inr (Or.inr ⟨rfl, rfl⟩))) trivial))
theorem kM_wildcard : zcd (mM_wildcard) cdM_wildcard := by
  intro a is h
  unfold cdM_wildcard at h
  split at h
  · cases h; exact bM_wildcard_0
  · cases h; exact bM_wildcard_6
  · cases h; exact bM_wildcard_39
  · cases h; exact bM_wildcard_42
  · cases h; exact bM_wildcard_48
  · cases h
def qM_split_0 : List zIns := [(.aload_n 0, 1, 0, 0, 0, 0, 0, z0), (.getfield 131, 3, 9, 0, 0, 0, 0, z0), (.ifCond .le (36), 3, 40, 0, 0, 0, 0, z0), (.aload_n 0, 1, 0, 0, 0, 0, 0, z0), (.getfield 7, 3, 9, 1, 0, 0, 0, z0), (.iconst (0), 1, 0, 0, 0, 0, 0, z0), (.caload, 1, 1, 0, 0, 0, 0, z0), (.bipush (45), 2, 45, 0, 0, 0, 0, z0), (.if_icmp .ne (25), 3, 40, 0, 0, 0, 0, z0), (.aload_n 0, 1, 0, 0, 0, 0, 0, z0), (.iconst (1), 1, 1, 0, 0, 0, 0, z0), (.aload_n 0, 1, 0, 0, 0, 0, 0, z0), (.getfield 131, 3, 9, 0, 0, 0, 0, z0), (.invokevirtual 152, 3, 2, 9, 0, 0, 0, mM_wildcards), (.iconst (3), 1, 3, 0, 0, 0, 0, z0), (.if_icmp .ge (10), 3, 38, 0, 0, 0, 0, z0), (.aload_n 0, 1, 0, 0, 0, 0, 0, z0), (.getfield 131, 3, 9, 0, 0, 0, 0, z0), (.goto (4), 3, 39, 0, 0, 0, 0, z0)]
def qM_split_38 : List zIns := [(.iconst (-1), 1, 1, 0, 1, 0, 0, z0)]
def qM_split_39 : List zIns := [(.ireturn, 1, 0, 0, 0, 0, 0, z0)]
def qM_split_40 : List zIns := [(.iconst (0), 1, 0, 0, 0, 0, 0, z0), (.istore_n 1, 1, 0, 0, 0, 0, 0, z0)]
def qM_split_42 : List zIns := [(.iload_n 1, 1, 0, 0, 0, 0, 0, z0), (.aload_n 0, 1, 0, 0, 0, 0, 0, z0), (.getfield 131, 3, 9, 0, 0, 0, 0, z0), (.if_icmp .ge (20), 3, 67, 0, 0, 0, 0, z0), (.aload_n 0, 1, 0, 0, 0, 0, 0, z0), (.getfield 7, 3, 9, 1, 0, 0, 0, z0), (.iload_n 1, 1, 0, 0, 0, 0, 0, z0), (.caload, 1, 1, 0, 0, 0, 0, z0), (.bipush (62), 2, 62, 0, 0, 0, 0, z0), (.if_icmp .eq (9), 3, 67, 0, 0, 0, 0, z0), (.iinc 1 (1), 3, 1, 0, 0, 0, 0, z0), (.goto (-22), 3, 42, 0, 0, 0, 0, z0)]
def qM_split_67 : List zIns := [(.aload_n 0, 1, 0, 0, 0, 0, 0, z0), (.iconst (0), 1, 0, 0, 0, 0, 0, z0), (.iload_n 1, 1, 0, 0, 0, 0, 0, z0), (.invokevirtual 152, 3, 2, 9, 0, 0, 0, mM_wildcards), (.istore_n 2, 1, 0, 0, 0, 0, 0, z0), (.iload_n 1, 1, 0, 0, 0, 0, 0, z0), (.aload_n 0, 1, 0, 0, 0, 0, 0, z0), (.getfield 131, 3, 9, 0, 0, 0, 0, z0), (.if_icmp .ge (23), 3, 102, 0, 0, 0, 0, z0), (.iload_n 2, 1, 0, 0, 0, 0, 0, z0), (.iconst (2), 1, 2, 0, 0, 0, 0, z0), (.if_icmp .gt (18), 3, 102, 0, 0, 0, 0, z0), (.aload_n 0, 1, 0, 0, 0, 0, 0, z0), (.iload_n 1, 1, 0, 0, 0, 0, 0, z0), (.iconst (1), 1, 1, 0, 0, 0, 0, z0), (.iadd, 1, 0, 0, 0, 0, 0, z0), (.aload_n 0, 1, 0, 0, 0, 0, 0, z0), (.getfield 131, 3, 9, 0, 0, 0, 0, z0), (.invokevirtual 152, 3, 2, 9, 0, 0, 0, mM_wildcards), (.iload_n 2, 1, 0, 0, 0, 0, 0, z0), (.if_icmp .eq (5), 3, 104, 0, 0, 0, 0, z0)]
def qM_split_102 : List zIns := [(.iconst (-1), 1, 1, 0, 1, 0, 0, z0), (.ireturn, 1, 0, 0, 0, 0, 0, z0)]
def qM_split_104 : List zIns := [(.iconst (0), 1, 0, 0, 0, 0, 0, z0), (.istore_n 3, 1, 0, 0, 0, 0, 0, z0)]
def qM_split_106 : List zIns := [(.iload_n 3, 1, 0, 0, 0, 0, 0, z0), (.iload_n 2, 1, 0, 0, 0, 0, 0, z0), (.if_icmp .ge (33), 3, 141, 0, 0, 0, 0, z0), (.aload_n 0, 1, 0, 0, 0, 0, 0, z0), (.iconst (0), 1, 0, 0, 0, 0, 0, z0), (.iload_n 1, 1, 0, 0, 0, 0, 0, z0), (.iload_n 3, 1, 0, 0, 0, 0, 0, z0), (.invokevirtual 156, 3, 3, 9, 0, 0, 0, mM_wildcard), (.aload_n 0, 1, 0, 0, 0, 0, 0, z0), (.iload_n 1, 1, 0, 0, 0, 0, 0, z0), (.iconst (1), 1, 1, 0, 0, 0, 0, z0), (.iadd, 1, 0, 0, 0, 0, 0, z0), (.aload_n 0, 1, 0, 0, 0, 0, 0, z0), (.getfield 131, 3, 9, 0, 0, 0, 0, z0), (.iload_n 3, 1, 0, 0, 0, 0, 0, z0), (.invokevirtual 156, 3, 3, 9, 0, 0, 0, mM_wildcard), (.if_icmp .eq (5), 3, 135, 0, 0, 0, 0, z0), (.iconst (-1), 1, 1, 0, 1, 0, 0, z0), (.ireturn, 1, 0, 0, 0, 0, 0, z0)]
def qM_split_135 : List zIns := [(.iinc 3 (1), 3, 1, 0, 0, 0, 0, z0), (.goto (-32), 3, 106, 0, 0, 0, 0, z0)]
def qM_split_141 : List zIns := [(.iload_n 1, 1, 0, 0, 0, 0, 0, z0), (.iconst (1), 1, 1, 0, 0, 0, 0, z0), (.iadd, 1, 0, 0, 0, 0, 0, z0), (.ireturn, 1, 0, 0, 0, 0, 0, z0)]
def cdM_split : zCd := fun a => match a with
  | 0 => some qM_split_0
  | 38 => some qM_split_38
  | 39 => some qM_split_39
  | 40 => some qM_split_40
  | 42 => some qM_split_42
  | 67 => some qM_split_67
  | 102 => some qM_split_102
  | 104 => some qM_split_104
  | 106 => some qM_split_106
  | 135 => some qM_split_135
  | 141 => some qM_split_141
  | _ => none
set_option maxRecDepth 100000 in
theorem bM_split_0 : zcode (mM_split) 0 qM_split_0 := zcode_of (by decide +kernel) (zoks_cons rfl (zoks_cons (And.intro rfl kF31) (zoks_cons (And.intro rfl (by decide)) (zoks_cons rfl (zoks_cons (And.intro rfl kF32) (zoks_cons (And.intro rfl (by decide)) (zoks_cons (And.intro rfl rfl) (zoks_cons (And.intro rfl (by decide)) (zoks_cons (And.intro rfl (by decide)) (zoks_cons rfl (zoks_cons (And.intro rfl (by decide)) (zoks_cons rfl (zoks_cons (And.intro rfl kF31) (zoks_cons (And.intro rfl kV47) (zoks_cons (And.intro rfl (by decide)) (zoks_cons (And.intro rfl (by decide)) (zoks_cons rfl (zoks_cons (And.intro rfl kF31) (zoks_cons (And.intro rfl (by decide)) trivial)))))))))))))))))))
set_option maxRecDepth 100000 in
theorem bM_split_38 : zcode (mM_split) 38 qM_split_38 := zcode_of (by decide +kernel) (zoks_cons (And.intro rfl (by decide)) trivial)
set_option maxRecDepth 100000 in
theorem bM_split_39 : zcode (mM_split) 39 qM_split_39 := zcode_of (by decide +kernel) (zoks_cons (And.intro rfl (Or.inl ⟨rfl, rfl⟩)) trivial)
set_option maxRecDepth 100000 in
theorem bM_split_40 : zcode (mM_split) 40 qM_split_40 := zcode_of (by decide +kernel) (zoks_cons (And.intro rfl (by decide)) (zoks_cons rfl trivial))
set_option maxRecDepth 100000 in
theorem bM_split_42 : zcode (mM_split) 42 qM_split_42 := zcode_of (by decide +kernel) (zoks_cons rfl (zoks_cons rfl (zoks_cons (And.intro rfl kF31) (zoks_cons (And.intro rfl (by decide)) (zoks_cons rfl (zoks_cons (And.intro rfl kF32) (zoks_cons rfl (zoks_cons (And.intro rfl rfl) (zoks_cons (And.intro rfl (by decide)) (zoks_cons (And.intro rfl (by decide)) (zoks_cons (And.intro rfl (by decide)) (zoks_cons (And.intro rfl (by decide)) trivial))))))))))))
set_option maxRecDepth 100000 in
theorem bM_split_67 : zcode (mM_split) 67 qM_split_67 := zcode_of (by decide +kernel) (zoks_cons rfl (zoks_cons (And.intro rfl (by decide)) (zoks_cons rfl (zoks_cons (And.intro rfl kV47) (zoks_cons rfl (zoks_cons rfl (zoks_cons rfl (zoks_cons (And.intro rfl kF31) (zoks_cons (And.intro rfl (by decide)) (zoks_cons rfl (zoks_cons (And.intro rfl (by decide)) (zoks_cons (And.intro rfl (by decide)) (zoks_cons rfl (zoks_cons rfl (zoks_cons (And.intro rfl (by decide)) (zoks_cons rfl (zoks_cons rfl (zoks_cons (And.intro rfl kF31) (zoks_cons (And.intro rfl kV47) (zoks_cons rfl (zoks_cons (And.intro rfl (by decide)) trivial)))))))))))))))))))))
set_option maxRecDepth 100000 in
theorem bM_split_102 : zcode (mM_split) 102 qM_split_102 := zcode_of (by decide +kernel) (zoks_cons (And.intro rfl (by decide)) (zoks_cons (And.intro rfl (Or.inl ⟨rfl, rfl⟩)) trivial))
set_option maxRecDepth 100000 in
theorem bM_split_104 : zcode (mM_split) 104 qM_split_104 := zcode_of (by decide +kernel) (zoks_cons (And.intro rfl (by decide)) (zoks_cons rfl trivial))
set_option maxRecDepth 100000 in
theorem bM_split_106 : zcode (mM_split) 106 qM_split_106 := zcode_of (by decide +kernel) (zoks_cons rfl (zoks_cons rfl (zoks_cons (And.intro rfl (by decide)) (zoks_cons rfl (zoks_cons (And.intro rfl (by decide)) (zoks_cons rfl (zoks_cons rfl (zoks_cons (And.intro rfl kV48) (zoks_cons rfl (zoks_cons rfl (zoks_cons (And.intro rfl (by decide)) (zoks_cons rfl (zoks_cons rfl (zoks_cons (And.intro rfl kF31) (zoks_cons rfl (zoks_cons (And.intro rfl kV48) (zoks_cons (And.intro rfl (by decide)) (zoks_cons (And.intro rfl (by decide)) (zoks_cons (And.intro rfl (Or.inl ⟨rfl, rfl⟩)) trivial)))))))))))))))))))
set_option maxRecDepth 100000 in
theorem bM_split_135 : zcode (mM_split) 135 qM_split_135 := zcode_of (by decide +kernel) (zoks_cons (And.intro rfl (by decide)) (zoks_cons (And.intro rfl (by decide)) trivial))
set_option maxRecDepth 100000 in
theorem bM_split_141 : zcode (mM_split) 141 qM_split_141 := zcode_of (by decide +kernel) (zoks_cons rfl (zoks_cons (And.intro rfl (by decide)) (zoks_cons rfl (zoks_cons (And.intro rfl (Or.inl ⟨rfl, rfl⟩)) trivial))))
theorem kM_split : zcd (mM_split) cdM_split := by
  intro a is h
  unfold cdM_split at h
  split at h
  · cases h; exact bM_split_0
  · cases h; exact bM_split_38
  · cases h; exact bM_split_39
  · cases h; exact bM_split_40
  · cases h; exact bM_split_42
  · cases h; exact bM_split_67
  · cases h; exact bM_split_102
  · cases h; exact bM_split_104
  · cases h; exact bM_split_106
  · cases h; exact bM_split_135
  · cases h; exact bM_split_141
  · cases h
def qM_line_0 : List zIns := [(.aload_n 0, 1, 0, 0, 0, 0, 0, z0), (.invokevirtual 160, 3, 0, 9, 0, 0, 0, mM_split), (.istore_n 1, 1, 0, 0, 0, 0, 0, z0), (.iload_n 1, 1, 0, 0, 0, 0, 0, z0), (.ifCond .ge (7), 3, 13, 0, 0, 0, 0, z0), (.iconst (-1), 1, 1, 0, 1, 0, 0, z0), (.goto (21), 3, 31, 0, 0, 0, 0, z0)]
def qM_line_13 : List zIns := [(.aload_n 0, 1, 0, 0, 0, 0, 0, z0), (.getfield 164, 3, 9, 5, 0, 0, 0, z0), (.bipush (10), 2, 10, 0, 0, 0, 0, z0), (.if_icmp .lt (8), 3, 27, 0, 0, 0, 0, z0), (.bipush (-2), 2, 2, 0, 1, 0, 0, z0), (.goto (7), 3, 31, 0, 0, 0, 0, z0)]
def qM_line_27 : List zIns := [(.aload_n 0, 1, 0, 0, 0, 0, 0, z0), (.getfield 164, 3, 9, 5, 0, 0, 0, z0)]
def qM_line_31 : List zIns := [(.istore_n 2, 1, 0, 0, 0, 0, 0, z0), (.iload_n 2, 1, 0, 0, 0, 0, 0, z0), (.ifCond .lt (178), 3, 211, 0, 0, 0, 0, z0), (.aload_n 0, 1, 0, 0, 0, 0, 0, z0), (.getfield 7, 3, 9, 1, 0, 0, 0, z0), (.iconst (0), 1, 0, 0, 0, 0, 0, z0), (.caload, 1, 1, 0, 0, 0, 0, z0), (.bipush (45), 2, 45, 0, 0, 0, 0, z0), (.if_icmp .ne (7), 3, 51, 0, 0, 0, 0, z0), (.iconst (1), 1, 1, 0, 0, 0, 0, z0), (.goto (4), 3, 52, 0, 0, 0, 0, z0)]
def qM_line_51 : List zIns := [(.iconst (0), 1, 0, 0, 0, 0, 0, z0)]
def qM_line_52 : List zIns := [(.istore_n 3, 1, 0, 0, 0, 0, 0, z0), (.iload_n 3, 1, 0, 0, 0, 0, 0, z0), (.ifCond .eq (7), 3, 61, 0, 0, 0, 0, z0), (.iconst (1), 1, 1, 0, 0, 0, 0, z0), (.goto (4), 3, 62, 0, 0, 0, 0, z0)]
def qM_line_61 : List zIns := [(.iconst (0), 1, 0, 0, 0, 0, 0, z0)]
def qM_line_62 : List zIns := [(.istore 4, 2, 0, 0, 0, 0, 0, z0), (.iload_n 3, 1, 0, 0, 0, 0, 0, z0), (.ifCond .eq (10), 3, 75, 0, 0, 0, 0, z0), (.aload_n 0, 1, 0, 0, 0, 0, 0, z0), (.getfield 131, 3, 9, 0, 0, 0, 0, z0), (.goto (6), 3, 78, 0, 0, 0, 0, z0)]
def qM_line_75 : List zIns := [(.iload_n 1, 1, 0, 0, 0, 0, 0, z0), (.iconst (1), 1, 1, 0, 0, 0, 0, z0), (.isub, 1, 0, 0, 0, 0, 0, z0)]
def qM_line_78 : List zIns := [(.istore 5, 2, 0, 0, 0, 0, 0, z0), (.aload_n 0, 1, 0, 0, 0, 0, 0, z0), (.getfield 26, 3, 9, 8, 0, 0, 0, z0), (.aload_n 0, 1, 0, 0, 0, 0, 0, z0), (.getfield 164, 3, 9, 5, 0, 0, 0, z0), (.iload 5, 2, 0, 0, 0, 0, 0, z0), (.iload 4, 2, 0, 0, 0, 0, 0, z0), (.isub, 1, 0, 0, 0, 0, 0, z0), (.iastore, 1, 0, 0, 0, 0, 0, z0), (.iload 4, 2, 0, 0, 0, 0, 0, z0), (.istore 6, 2, 0, 0, 0, 0, 0, z0)]
def qM_line_98 : List zIns := [(.iload 6, 2, 0, 0, 0, 0, 0, z0), (.iload 5, 2, 0, 0, 0, 0, 0, z0), (.if_icmp .ge (34), 3, 136, 0, 0, 0, 0, z0), (.aload_n 0, 1, 0, 0, 0, 0, 0, z0), (.getfield 20, 3, 9, 6, 0, 0, 0, z0), (.bipush (12), 2, 12, 0, 0, 0, 0, z0), (.aload_n 0, 1, 0, 0, 0, 0, 0, z0), (.getfield 164, 3, 9, 5, 0, 0, 0, z0), (.imul, 1, 0, 0, 0, 0, 0, z0), (.iload 6, 2, 0, 0, 0, 0, 0, z0), (.iadd, 1, 0, 0, 0, 0, 0, z0), (.iload 4, 2, 0, 0, 0, 0, 0, z0), (.isub, 1, 0, 0, 0, 0, 0, z0), (.aload_n 0, 1, 0, 0, 0, 0, 0, z0), (.getfield 7, 3, 9, 1, 0, 0, 0, z0), (.iload 6, 2, 0, 0, 0, 0, 0, z0), (.caload, 1, 1, 0, 0, 0, 0, z0), (.castore, 1, 1, 0, 0, 0, 0, z0), (.iinc 6 (1), 3, 1, 0, 0, 0, 0, z0), (.goto (-35), 3, 98, 0, 0, 0, 0, z0)]
def qM_line_136 : List zIns := [(.aload_n 0, 1, 0, 0, 0, 0, 0, z0), (.getfield 29, 3, 9, 9, 0, 0, 0, z0), (.aload_n 0, 1, 0, 0, 0, 0, 0, z0), (.getfield 164, 3, 9, 5, 0, 0, 0, z0), (.iload_n 3, 1, 0, 0, 0, 0, 0, z0), (.ifCond .eq (7), 3, 152, 0, 0, 0, 0, z0), (.iconst (0), 1, 0, 0, 0, 0, 0, z0), (.goto (9), 3, 158, 0, 0, 0, 0, z0)]
def qM_line_152 : List zIns := [(.aload_n 0, 1, 0, 0, 0, 0, 0, z0), (.getfield 131, 3, 9, 0, 0, 0, 0, z0), (.iload_n 1, 1, 0, 0, 0, 0, 0, z0), (.isub, 1, 0, 0, 0, 0, 0, z0)]
def qM_line_158 : List zIns := [(.iastore, 1, 0, 0, 0, 0, 0, z0), (.iload_n 1, 1, 0, 0, 0, 0, 0, z0), (.istore 6, 2, 0, 0, 0, 0, 0, z0)]
def qM_line_162 : List zIns := [(.iload 6, 2, 0, 0, 0, 0, 0, z0), (.aload_n 0, 1, 0, 0, 0, 0, 0, z0), (.getfield 131, 3, 9, 0, 0, 0, 0, z0), (.if_icmp .ge (33), 3, 201, 0, 0, 0, 0, z0), (.aload_n 0, 1, 0, 0, 0, 0, 0, z0), (.getfield 23, 3, 9, 7, 0, 0, 0, z0), (.bipush (12), 2, 12, 0, 0, 0, 0, z0), (.aload_n 0, 1, 0, 0, 0, 0, 0, z0), (.getfield 164, 3, 9, 5, 0, 0, 0, z0), (.imul, 1, 0, 0, 0, 0, 0, z0), (.iload 6, 2, 0, 0, 0, 0, 0, z0), (.iadd, 1, 0, 0, 0, 0, 0, z0), (.iload_n 1, 1, 0, 0, 0, 0, 0, z0), (.isub, 1, 0, 0, 0, 0, 0, z0), (.aload_n 0, 1, 0, 0, 0, 0, 0, z0), (.getfield 7, 3, 9, 1, 0, 0, 0, z0), (.iload 6, 2, 0, 0, 0, 0, 0, z0), (.caload, 1, 1, 0, 0, 0, 0, z0), (.castore, 1, 1, 0, 0, 0, 0, z0), (.iinc 6 (1), 3, 1, 0, 0, 0, 0, z0), (.goto (-36), 3, 162, 0, 0, 0, 0, z0)]
def qM_line_201 : List zIns := [(.aload_n 0, 1, 0, 0, 0, 0, 0, z0), (.dup, 1, 0, 0, 0, 0, 0, z0), (.getfield 164, 3, 9, 5, 0, 0, 0, z0), (.iconst (1), 1, 1, 0, 0, 0, 0, z0), (.iadd, 1, 0, 0, 0, 0, 0, z0), (.putfield 164, 3, 9, 5, 0, 0, 0, z0)]
def qM_line_211 : List zIns := [(.aload_n 0, 1, 0, 0, 0, 0, 0, z0), (.iconst (0), 1, 0, 0, 0, 0, 0, z0), (.putfield 131, 3, 9, 0, 0, 0, 0, z0), (.iload_n 2, 1, 0, 0, 0, 0, 0, z0), (.ireturn, 1, 0, 0, 0, 0, 0, z0)]
def cdM_line : zCd := fun a => match a with
  | 0 => some qM_line_0
  | 13 => some qM_line_13
  | 27 => some qM_line_27
  | 31 => some qM_line_31
  | 51 => some qM_line_51
  | 52 => some qM_line_52
  | 61 => some qM_line_61
  | 62 => some qM_line_62
  | 75 => some qM_line_75
  | 78 => some qM_line_78
  | 98 => some qM_line_98
  | 136 => some qM_line_136
  | 152 => some qM_line_152
  | 158 => some qM_line_158
  | 162 => some qM_line_162
  | 201 => some qM_line_201
  | 211 => some qM_line_211
  | _ => none
set_option maxRecDepth 100000 in
theorem bM_line_0 : zcode (mM_line) 0 qM_line_0 := zcode_of (by decide +kernel) (zoks_cons rfl (zoks_cons (And.intro rfl kV49) (zoks_cons rfl (zoks_cons rfl (zoks_cons (And.intro rfl (by decide)) (zoks_cons (And.intro rfl (by decide)) (zoks_cons (And.intro rfl (by decide)) trivial)))))))
set_option maxRecDepth 100000 in
theorem bM_line_13 : zcode (mM_line) 13 qM_line_13 := zcode_of (by decide +kernel) (zoks_cons rfl (zoks_cons (And.intro rfl kF35) (zoks_cons (And.intro rfl (by decide)) (zoks_cons (And.intro rfl (by decide)) (zoks_cons (And.intro rfl (by decide)) (zoks_cons (And.intro rfl (by decide)) trivial))))))
set_option maxRecDepth 100000 in
theorem bM_line_27 : zcode (mM_line) 27 qM_line_27 := zcode_of (by decide +kernel) (zoks_cons rfl (zoks_cons (And.intro rfl kF35) trivial))
set_option maxRecDepth 100000 in
theorem bM_line_31 : zcode (mM_line) 31 qM_line_31 := zcode_of (by decide +kernel) (zoks_cons rfl (zoks_cons rfl (zoks_cons (And.intro rfl (by decide)) (zoks_cons rfl (zoks_cons (And.intro rfl kF32) (zoks_cons (And.intro rfl (by decide)) (zoks_cons (And.intro rfl rfl) (zoks_cons (And.intro rfl (by decide)) (zoks_cons (And.intro rfl (by decide)) (zoks_cons (And.intro rfl (by decide)) (zoks_cons (And.intro rfl (by decide)) trivial)))))))))))
set_option maxRecDepth 100000 in
theorem bM_line_51 : zcode (mM_line) 51 qM_line_51 := zcode_of (by decide +kernel) (zoks_cons (And.intro rfl (by decide)) trivial)
set_option maxRecDepth 100000 in
theorem bM_line_52 : zcode (mM_line) 52 qM_line_52 := zcode_of (by decide +kernel) (zoks_cons rfl (zoks_cons rfl (zoks_cons (And.intro rfl (by decide)) (zoks_cons (And.intro rfl (by decide)) (zoks_cons (And.intro rfl (by decide)) trivial)))))
set_option maxRecDepth 100000 in
theorem bM_line_61 : zcode (mM_line) 61 qM_line_61 := zcode_of (by decide +kernel) (zoks_cons (And.intro rfl (by decide)) trivial)
set_option maxRecDepth 100000 in
theorem bM_line_62 : zcode (mM_line) 62 qM_line_62 := zcode_of (by decide +kernel) (zoks_cons rfl (zoks_cons rfl (zoks_cons (And.intro rfl (by decide)) (zoks_cons rfl (zoks_cons (And.intro rfl kF31) (zoks_cons (And.intro rfl (by decide)) trivial))))))
set_option maxRecDepth 100000 in
theorem bM_line_75 : zcode (mM_line) 75 qM_line_75 := zcode_of (by decide +kernel) (zoks_cons rfl (zoks_cons (And.intro rfl (by decide)) (zoks_cons rfl trivial)))
set_option maxRecDepth 100000 in
theorem bM_line_78 : zcode (mM_line) 78 qM_line_78 := zcode_of (by decide +kernel) (zoks_cons rfl (zoks_cons rfl (zoks_cons (And.intro rfl kF36) (zoks_cons rfl (zoks_cons (And.intro rfl kF35) (zoks_cons rfl (zoks_cons rfl (zoks_cons rfl (zoks_cons (And.intro rfl rfl) (zoks_cons rfl (zoks_cons rfl trivial)))))))))))
set_option maxRecDepth 100000 in
theorem bM_line_98 : zcode (mM_line) 98 qM_line_98 := zcode_of (by decide +kernel) (zoks_cons rfl (zoks_cons rfl (zoks_cons (And.intro rfl (by decide)) (zoks_cons rfl (zoks_cons (And.intro rfl kF37) (zoks_cons (And.intro rfl (by decide)) (zoks_cons rfl (zoks_cons (And.intro rfl kF35) (zoks_cons rfl (zoks_cons rfl (zoks_cons rfl (zoks_cons rfl (zoks_cons rfl (zoks_cons rfl (zoks_cons (And.intro rfl kF32) (zoks_cons rfl (zoks_cons (And.intro rfl rfl) (zoks_cons (And.intro rfl rfl) (zoks_cons (And.intro rfl (by decide)) (zoks_cons (And.intro rfl (by decide)) trivial))))))))))))))))))))
set_option maxRecDepth 100000 in
theorem bM_line_136 : zcode (mM_line) 136 qM_line_136 := zcode_of (by decide +kernel) (zoks_cons rfl (zoks_cons (And.intro rfl kF38) (zoks_cons rfl (zoks_cons (And.intro rfl kF35) (zoks_cons rfl (zoks_cons (And.intro rfl (by decide)) (zoks_cons (And.intro rfl (by decide)) (zoks_cons (And.intro rfl (by decide)) trivial))))))))
set_option maxRecDepth 100000 in
theorem bM_line_152 : zcode (mM_line) 152 qM_line_152 := zcode_of (by decide +kernel) (zoks_cons rfl (zoks_cons (And.intro rfl kF31) (zoks_cons rfl (zoks_cons rfl trivial))))
set_option maxRecDepth 100000 in
theorem bM_line_158 : zcode (mM_line) 158 qM_line_158 := zcode_of (by decide +kernel) (zoks_cons (And.intro rfl rfl) (zoks_cons rfl (zoks_cons rfl trivial)))
set_option maxRecDepth 100000 in
theorem bM_line_162 : zcode (mM_line) 162 qM_line_162 := zcode_of (by decide +kernel) (zoks_cons rfl (zoks_cons rfl (zoks_cons (And.intro rfl kF31) (zoks_cons (And.intro rfl (by decide)) (zoks_cons rfl (zoks_cons (And.intro rfl kF39) (zoks_cons (And.intro rfl (by decide)) (zoks_cons rfl (zoks_cons (And.intro rfl kF35) (zoks_cons rfl (zoks_cons rfl (zoks_cons rfl (zoks_cons rfl (zoks_cons rfl (zoks_cons rfl (zoks_cons (And.intro rfl kF32) (zoks_cons rfl (zoks_cons (And.intro rfl rfl) (zoks_cons (And.intro rfl rfl) (zoks_cons (And.intro rfl (by decide)) (zoks_cons (And.intro rfl (by decide)) trivial)))))))))))))))))))))
set_option maxRecDepth 100000 in
theorem bM_line_201 : zcode (mM_line) 201 qM_line_201 := zcode_of (by decide +kernel) (zoks_cons rfl (zoks_cons rfl (zoks_cons (And.intro rfl kF35) (zoks_cons (And.intro rfl (by decide)) (zoks_cons rfl (zoks_cons (And.intro rfl (And.intro rfl (kP53 rfl))) trivial))))))
set_option maxRecDepth 100000 in
theorem bM_line_211 : zcode (mM_line) 211 qM_line_211 := zcode_of (by decide +kernel) (zoks_cons rfl (zoks_cons (And.intro rfl (by decide)) (zoks_cons (And.intro rfl (And.intro rfl (kP50 rfl))) (zoks_cons rfl (zoks_cons (And.intro rfl (Or.inl ⟨rfl, rfl⟩)) trivial)))))
theorem kM_line : zcd (mM_line) cdM_line := by
  intro a is h
  unfold cdM_line at h
  split at h
  · cases h; exact bM_line_0
  · cases h; exact bM_line_13
  · cases h; exact bM_line_27
  · cases h; exact bM_line_31
  · cases h; exact bM_line_51
  · cases h; exact bM_line_52
  · cases h; exact bM_line_61
  · cases h; exact bM_line_62
  · cases h; exact bM_line_75
  · cases h; exact bM_line_78
  · cases h; exact bM_line_98
  · cases h; exact bM_line_136
  · cases h; exact bM_line_152
  · cases h; exact bM_line_158
  · cases h; exact bM_line_162
  · cases h; exact bM_line_201
  · cases h; exact bM_line_211
  · cases h
def qM_fitsWith_0 : List zIns := [(.iconst (0), 1, 0, 0, 0, 0, 0, z0), (.istore 5, 2, 0, 0, 0, 0, 0, z0), (.iconst (0), 1, 0, 0, 0, 0, 0, z0), (.istore 6, 2, 0, 0, 0, 0, 0, z0), (.iconst (0), 1, 0, 0, 0, 0, 0, z0), (.istore 7, 2, 0, 0, 0, 0, 0, z0)]
def qM_fitsWith_9 : List zIns := [(.iload 7, 2, 0, 0, 0, 0, 0, z0), (.aload_n 0, 1, 0, 0, 0, 0, 0, z0), (.getfield 26, 3, 9, 8, 0, 0, 0, z0), (.iload_n 1, 1, 0, 0, 0, 0, 0, z0), (.iaload, 1, 0, 0, 0, 0, 0, z0), (.if_icmp .ge (171), 3, 188, 0, 0, 0, 0, z0), (.aload_n 0, 1, 0, 0, 0, 0, 0, z0), (.getfield 20, 3, 9, 6, 0, 0, 0, z0), (.bipush (12), 2, 12, 0, 0, 0, 0, z0), (.iload_n 1, 1, 0, 0, 0, 0, 0, z0), (.imul, 1, 0, 0, 0, 0, 0, z0), (.iload 7, 2, 0, 0, 0, 0, 0, z0), (.iadd, 1, 0, 0, 0, 0, 0, z0), (.caload, 1, 1, 0, 0, 0, 0, z0), (.istore 8, 2, 0, 0, 0, 0, 0, z0), (.iload 8, 2, 0, 0, 0, 0, 0, z0), (.invokestatic 149, 3, 1, 0, 0, 0, 0, mM_wild), (.ifCond .ne (7), 3, 46, 0, 0, 0, 0, z0), (.iconst (1), 1, 1, 0, 0, 0, 0, z0), (.goto (14), 3, 57, 0, 0, 0, 0, z0)]
def qM_fitsWith_46 : List zIns := [(.iload 6, 2, 0, 0, 0, 0, 0, z0), (.ifCond .ne (7), 3, 55, 0, 0, 0, 0, z0), (.iload_n 3, 1, 0, 0, 0, 0, 0, z0), (.goto (5), 3, 57, 0, 0, 0, 0, z0)]
def qM_fitsWith_55 : List zIns := [(.iload 4, 2, 0, 0, 0, 0, 0, z0)]
def qM_fitsWith_57 : List zIns := [(.istore 9, 2, 0, 0, 0, 0, 0, z0), (.iload 5, 2, 0, 0, 0, 0, 0, z0), (.iload 9, 2, 0, 0, 0, 0, 0, z0), (.iadd, 1, 0, 0, 0, 0, 0, z0), (.aload_n 0, 1, 0, 0, 0, 0, 0, z0), (.getfield 16, 3, 9, 4, 0, 0, 0, z0), (.iload_n 2, 1, 0, 0, 0, 0, 0, z0), (.iaload, 1, 0, 0, 0, 0, 0, z0), (.if_icmp .gt (28), 3, 98, 0, 0, 0, 0, z0), (.iload 8, 2, 0, 0, 0, 0, 0, z0), (.invokestatic 149, 3, 1, 0, 0, 0, 0, mM_wild), (.ifCond .ne (22), 3, 100, 0, 0, 0, 0, z0), (.aload_n 0, 1, 0, 0, 0, 0, 0, z0), (.getfield 13, 3, 9, 3, 0, 0, 0, z0), (.bipush (12), 2, 12, 0, 0, 0, 0, z0), (.iload_n 2, 1, 0, 0, 0, 0, 0, z0), (.imul, 1, 0, 0, 0, 0, 0, z0), (.iload 5, 2, 0, 0, 0, 0, 0, z0), (.iadd, 1, 0, 0, 0, 0, 0, z0), (.caload, 1, 1, 0, 0, 0, 0, z0), (.iload 8, 2, 0, 0, 0, 0, 0, z0), (.if_icmp .eq (5), 3, 100, 0, 0, 0, 0, z0)]
def qM_fitsWith_98 : List zIns := [(.iconst (0), 1, 0, 0, 0, 0, 0, z0), (.ireturn, 1, 0, 0, 1, 0, 0, z0)]
def qM_fitsWith_100 : List zIns := [(.iload 5, 2, 0, 0, 0, 0, 0, z0), (.istore 10, 2, 0, 0, 0, 0, 0, z0)]
def qM_fitsWith_104 : List zIns := [(.iload 10, 2, 0, 0, 0, 0, 0, z0), (.iload 5, 2, 0, 0, 0, 0, 0, z0), (.iload 9, 2, 0, 0, 0, 0, 0, z0), (.iadd, 1, 0, 0, 0, 0, 0, z0), (.if_icmp .ge (35), 3, 146, 0, 0, 0, 0, z0), (.iload 8, 2, 0, 0, 0, 0, 0, z0), (.bipush (42), 2, 42, 0, 0, 0, 0, z0), (.if_icmp .ne (28), 3, 146, 0, 0, 0, 0, z0), (.aload_n 0, 1, 0, 0, 0, 0, 0, z0), (.getfield 13, 3, 9, 3, 0, 0, 0, z0), (.bipush (12), 2, 12, 0, 0, 0, 0, z0), (.iload_n 2, 1, 0, 0, 0, 0, 0, z0), (.imul, 1, 0, 0, 0, 0, 0, z0), (.iload 10, 2, 0, 0, 0, 0, 0, z0), (.iadd, 1, 0, 0, 0, 0, 0, z0), (.caload, 1, 1, 0, 0, 0, 0, z0), (.bipush (47), 2, 47, 0, 0, 0, 0, z0), (.if_icmp .ne (5), 3, 140, 0, 0, 0, 0, z0), (.iconst (0), 1, 0, 0, 0, 0, 0, z0), (.ireturn, 1, 0, 0, 1, 0, 0, z0)]
def qM_fitsWith_140 : List zIns := [(.iinc 10 (1), 3, 1, 0, 0, 0, 0, z0), (.goto (-39), 3, 104, 0, 0, 0, 0, z0)]
def qM_fitsWith_146 : List zIns := [(.iload 8, 2, 0, 0, 0, 0, 0, z0), (.invokestatic 149, 3, 1, 0, 0, 0, 0, mM_wild), (.ifCond .eq (24), 3, 175, 0, 0, 0, 0, z0), (.aload_n 0, 1, 0, 0, 0, 0, 0, z0), (.getfield 42, 3, 9, 14, 0, 0, 0, z0), (.iload 6, 2, 0, 0, 0, 0, 0, z0), (.iload 5, 2, 0, 0, 0, 0, 0, z0), (.iastore, 1, 0, 0, 0, 0, 0, z0), (.aload_n 0, 1, 0, 0, 0, 0, 0, z0), (.getfield 45, 3, 9, 15, 0, 0, 0, z0), (.iload 6, 2, 0, 0, 0, 0, 0, z0), (.iload 9, 2, 0, 0, 0, 0, 0, z0), (.iastore, 1, 0, 0, 0, 0, 0, z0), (.iinc 6 (1), 3, 1, 0, 0, 0, 0, z0)]
def qM_fitsWith_175 : List zIns := [(.iload 5, 2, 0, 0, 0, 0, 0, z0), (.iload 9, 2, 0, 0, 0, 0, 0, z0), (.iadd, 1, 0, 0, 0, 0, 0, z0), (.istore 5, 2, 0, 0, 0, 0, 0, z0), (.iinc 7 (1), 3, 1, 0, 0, 0, 0, z0), (.goto (-176), 3, 9, 0, 0, 0, 0, z0)]
def qM_fitsWith_188 : List zIns := [(.iload 5, 2, 0, 0, 0, 0, 0, z0), (.aload_n 0, 1, 0, 0, 0, 0, 0, z0), (.getfield 16, 3, 9, 4, 0, 0, 0, z0), (.iload_n 2, 1, 0, 0, 0, 0, 0, z0), (.iaload, 1, 0, 0, 0, 0, 0, z0), (.if_icmp .ne (27), 3, 223, 0, 0, 0, 0, z0), (.iload 6, 2, 0, 0, 0, 0, 0, z0), (.ifCond .gt (7), 3, 208, 0, 0, 0, 0, z0), (.iload_n 3, 1, 0, 0, 0, 0, 0, z0), (.ifCond .ne (18), 3, 223, 0, 0, 0, 0, z0)]
def qM_fitsWith_208 : List zIns := [(.iload 6, 2, 0, 0, 0, 0, 0, z0), (.iconst (1), 1, 1, 0, 0, 0, 0, z0), (.if_icmp .gt (8), 3, 219, 0, 0, 0, 0, z0), (.iload 4, 2, 0, 0, 0, 0, 0, z0), (.ifCond .ne (7), 3, 223, 0, 0, 0, 0, z0)]
def qM_fitsWith_219 : List zIns := [(.iconst (1), 1, 1, 0, 0, 0, 0, z0), (.goto (4), 3, 224, 0, 0, 0, 0, z0)]
def qM_fitsWith_223 : List zIns := [(.iconst (0), 1, 0, 0, 0, 0, 0, z0)]
def qM_fitsWith_224 : List zIns := [(.ireturn, 1, 0, 0, 1, 0, 0, z0)]
def cdM_fitsWith : zCd := fun a => match a with
  | 0 => some qM_fitsWith_0
  | 9 => some qM_fitsWith_9
  | 46 => some qM_fitsWith_46
  | 55 => some qM_fitsWith_55
  | 57 => some qM_fitsWith_57
  | 98 => some qM_fitsWith_98
  | 100 => some qM_fitsWith_100
  | 104 => some qM_fitsWith_104
  | 140 => some qM_fitsWith_140
  | 146 => some qM_fitsWith_146
  | 175 => some qM_fitsWith_175
  | 188 => some qM_fitsWith_188
  | 208 => some qM_fitsWith_208
  | 219 => some qM_fitsWith_219
  | 223 => some qM_fitsWith_223
  | 224 => some qM_fitsWith_224
  | _ => none
set_option maxRecDepth 100000 in
theorem bM_fitsWith_0 : zcode (mM_fitsWith) 0 qM_fitsWith_0 := zcode_of (by decide +kernel) (zoks_cons (And.intro rfl (by decide)) (zoks_cons rfl (zoks_cons (And.intro rfl (by decide)) (zoks_cons rfl (zoks_cons (And.intro rfl (by decide)) (zoks_cons rfl trivial))))))
set_option maxRecDepth 100000 in
theorem bM_fitsWith_9 : zcode (mM_fitsWith) 9 qM_fitsWith_9 := zcode_of (by decide +kernel) (zoks_cons rfl (zoks_cons rfl (zoks_cons (And.intro rfl kF36) (zoks_cons rfl (zoks_cons (And.intro rfl rfl) (zoks_cons (And.intro rfl (by decide)) (zoks_cons rfl (zoks_cons (And.intro rfl kF37) (zoks_cons (And.intro rfl (by decide)) (zoks_cons rfl (zoks_cons rfl (zoks_cons rfl (zoks_cons rfl (zoks_cons (And.intro rfl rfl) (zoks_cons rfl (zoks_cons rfl (zoks_cons (And.intro rfl kS6) (zoks_cons (And.intro rfl (by decide)) (zoks_cons (And.intro rfl (by decide)) (zoks_cons (And.intro rfl (by decide)) trivial))))))))))))))))))))
set_option maxRecDepth 100000 in
theorem bM_fitsWith_46 : zcode (mM_fitsWith) 46 qM_fitsWith_46 := zcode_of (by decide +kernel) (zoks_cons rfl (zoks_cons (And.intro rfl (by decide)) (zoks_cons rfl (zoks_cons (And.intro rfl (by decide)) trivial))))
set_option maxRecDepth 100000 in
theorem bM_fitsWith_55 : zcode (mM_fitsWith) 55 qM_fitsWith_55 := zcode_of (by decide +kernel) (zoks_cons rfl trivial)
set_option maxRecDepth 100000 in
theorem bM_fitsWith_57 : zcode (mM_fitsWith) 57 qM_fitsWith_57 := zcode_of (by decide +kernel) (zoks_cons rfl (zoks_cons rfl (zoks_cons rfl (zoks_cons rfl (zoks_cons rfl (zoks_cons (And.intro rfl kF33) (zoks_cons rfl (zoks_cons (And.intro rfl rfl) (zoks_cons (And.intro rfl (by decide)) (zoks_cons rfl (zoks_cons (And.intro rfl kS6) (zoks_cons (And.intro rfl (by decide)) (zoks_cons rfl (zoks_cons (And.intro rfl kF34) (zoks_cons (And.intro rfl (by decide)) (zoks_cons rfl (zoks_cons rfl (zoks_cons rfl (zoks_cons rfl (zoks_cons (And.intro rfl rfl) (zoks_cons rfl (zoks_cons (And.intro rfl (by decide)) trivial))))))))))))))))))))))
set_option maxRecDepth 100000 in
theorem bM_fitsWith_98 : zcode (mM_fitsWith) 98 qM_fitsWith_98 := zcode_of (by decide +kernel) (zoks_cons (And.intro rfl (by decide)) (zoks_cons (And.intro rfl (Or.inr (Or.inl ⟨rfl, rfl⟩))) trivial))
set_option maxRecDepth 100000 in
theorem bM_fitsWith_100 : zcode (mM_fitsWith) 100 qM_fitsWith_100 := zcode_of (by decide +kernel) (zoks_cons rfl (zoks_cons rfl trivial))
set_option maxRecDepth 100000 in
theorem bM_fitsWith_104 : zcode (mM_fitsWith) 104 qM_fitsWith_104 := zcode_of (by decide +kernel) (zoks_cons rfl (zoks_cons rfl (zoks_cons rfl (zoks_cons rfl (zoks_cons (And.intro rfl (by decide)) (zoks_cons rfl (zoks_cons (And.intro rfl (by decide)) (zoks_cons (And.intro rfl (by decide)) (zoks_cons rfl (zoks_cons (And.intro rfl kF34) (zoks_cons (And.intro rfl (by decide)) (zoks_cons rfl (zoks_cons rfl (zoks_cons rfl (zoks_cons rfl (zoks_cons (And.intro rfl rfl) (zoks_cons (And.intro rfl (by decide)) (zoks_cons (And.intro rfl (by decide)) (zoks_cons (And.intro rfl (by decide)) (zoks_cons (And.intro rfl (Or.inr (Or.inl ⟨rfl, rfl⟩))) trivial))))))))))))))))))))
set_option maxRecDepth 100000 in
theorem bM_fitsWith_140 : zcode (mM_fitsWith) 140 qM_fitsWith_140 := zcode_of (by decide +kernel) (zoks_cons (And.intro rfl (by decide)) (zoks_cons (And.intro rfl (by decide)) trivial))
set_option maxRecDepth 100000 in
theorem bM_fitsWith_146 : zcode (mM_fitsWith) 146 qM_fitsWith_146 := zcode_of (by decide +kernel) (zoks_cons rfl (zoks_cons (And.intro rfl kS6) (zoks_cons (And.intro rfl (by decide)) (zoks_cons rfl (zoks_cons (And.intro rfl kF40) (zoks_cons rfl (zoks_cons rfl (zoks_cons (And.intro rfl rfl) (zoks_cons rfl (zoks_cons (And.intro rfl kF41) (zoks_cons rfl (zoks_cons rfl (zoks_cons (And.intro rfl rfl) (zoks_cons (And.intro rfl (by decide)) trivial))))))))))))))
set_option maxRecDepth 100000 in
theorem bM_fitsWith_175 : zcode (mM_fitsWith) 175 qM_fitsWith_175 := zcode_of (by decide +kernel) (zoks_cons rfl (zoks_cons rfl (zoks_cons rfl (zoks_cons rfl (zoks_cons (And.intro rfl (by decide)) (zoks_cons (And.intro rfl (by decide)) trivial))))))
set_option maxRecDepth 100000 in
theorem bM_fitsWith_188 : zcode (mM_fitsWith) 188 qM_fitsWith_188 := zcode_of (by decide +kernel) (zoks_cons rfl (zoks_cons rfl (zoks_cons (And.intro rfl kF33) (zoks_cons rfl (zoks_cons (And.intro rfl rfl) (zoks_cons (And.intro rfl (by decide)) (zoks_cons rfl (zoks_cons (And.intro rfl (by decide)) (zoks_cons rfl (zoks_cons (And.intro rfl (by decide)) trivial))))))))))
set_option maxRecDepth 100000 in
theorem bM_fitsWith_208 : zcode (mM_fitsWith) 208 qM_fitsWith_208 := zcode_of (by decide +kernel) (zoks_cons rfl (zoks_cons (And.intro rfl (by decide)) (zoks_cons (And.intro rfl (by decide)) (zoks_cons rfl (zoks_cons (And.intro rfl (by decide)) trivial)))))
set_option maxRecDepth 100000 in
theorem bM_fitsWith_219 : zcode (mM_fitsWith) 219 qM_fitsWith_219 := zcode_of (by decide +kernel) (zoks_cons (And.intro rfl (by decide)) (zoks_cons (And.intro rfl (by decide)) trivial))
set_option maxRecDepth 100000 in
theorem bM_fitsWith_223 : zcode (mM_fitsWith) 223 qM_fitsWith_223 := zcode_of (by decide +kernel) (zoks_cons (And.intro rfl (by decide)) trivial)
set_option maxRecDepth 100000 in
theorem bM_fitsWith_224 : zcode (mM_fitsWith) 224 qM_fitsWith_224 := zcode_of (by decide +kernel) (zoks_cons (And.intro rfl (Or.inr (Or.inl ⟨rfl, rfl⟩))) trivial)
theorem kM_fitsWith : zcd (mM_fitsWith) cdM_fitsWith := by
  intro a is h
  unfold cdM_fitsWith at h
  split at h
  · cases h; exact bM_fitsWith_0
  · cases h; exact bM_fitsWith_9
  · cases h; exact bM_fitsWith_46
  · cases h; exact bM_fitsWith_55
  · cases h; exact bM_fitsWith_57
  · cases h; exact bM_fitsWith_98
  · cases h; exact bM_fitsWith_100
  · cases h; exact bM_fitsWith_104
  · cases h; exact bM_fitsWith_140
  · cases h; exact bM_fitsWith_146
  · cases h; exact bM_fitsWith_175
  · cases h; exact bM_fitsWith_188
  · cases h; exact bM_fitsWith_208
  · cases h; exact bM_fitsWith_219
  · cases h; exact bM_fitsWith_223
  · cases h; exact bM_fitsWith_224
  · cases h
def qM_fits_0 : List zIns := [(.iconst (0), 1, 0, 0, 0, 0, 0, z0), (.istore_n 3, 1, 0, 0, 0, 0, 0, z0)]
def qM_fits_2 : List zIns := [(.iload_n 3, 1, 0, 0, 0, 0, 0, z0), (.aload_n 0, 1, 0, 0, 0, 0, 0, z0), (.getfield 16, 3, 9, 4, 0, 0, 0, z0), (.iload_n 2, 1, 0, 0, 0, 0, 0, z0), (.iaload, 1, 0, 0, 0, 0, 0, z0), (.if_icmp .gt (45), 3, 54, 0, 0, 0, 0, z0), (.iconst (0), 1, 0, 0, 0, 0, 0, z0), (.istore 4, 2, 0, 0, 0, 0, 0, z0)]
def qM_fits_15 : List zIns := [(.iload 4, 2, 0, 0, 0, 0, 0, z0), (.aload_n 0, 1, 0, 0, 0, 0, 0, z0), (.getfield 16, 3, 9, 4, 0, 0, 0, z0), (.iload_n 2, 1, 0, 0, 0, 0, 0, z0), (.iaload, 1, 0, 0, 0, 0, 0, z0), (.iload_n 3, 1, 0, 0, 0, 0, 0, z0), (.isub, 1, 0, 0, 0, 0, 0, z0), (.if_icmp .gt (23), 3, 48, 0, 0, 0, 0, z0), (.aload_n 0, 1, 0, 0, 0, 0, 0, z0), (.iload_n 1, 1, 0, 0, 0, 0, 0, z0), (.iload_n 2, 1, 0, 0, 0, 0, 0, z0), (.iload_n 3, 1, 0, 0, 0, 0, 0, z0), (.iload 4, 2, 0, 0, 0, 0, 0, z0), (.invokevirtual 167, 3, 4, 9, 0, 0, 0, mM_fitsWith), (.ifCond .eq (5), 3, 42, 0, 0, 0, 0, z0), (.iconst (1), 1, 1, 0, 0, 0, 0, z0), (.ireturn, 1, 0, 0, 1, 0, 0, z0)]
def qM_fits_42 : List zIns := [(.iinc 4 (1), 3, 1, 0, 0, 0, 0, z0), (.goto (-30), 3, 15, 0, 0, 0, 0, z0)]
def qM_fits_48 : List zIns := [(.iinc 3 (1), 3, 1, 0, 0, 0, 0, z0), (.goto (-49), 3, 2, 0, 0, 0, 0, z0)]
def qM_fits_54 : List zIns := [(.iconst (0), 1, 0, 0, 0, 0, 0, z0), (.ireturn, 1, 0, 0, 1, 0, 0, z0)]
def cdM_fits : zCd := fun a => match a with
  | 0 => some qM_fits_0
  | 2 => some qM_fits_2
  | 15 => some qM_fits_15
  | 42 => some qM_fits_42
  | 48 => some qM_fits_48
  | 54 => some qM_fits_54
  | _ => none
set_option maxRecDepth 100000 in
theorem bM_fits_0 : zcode (mM_fits) 0 qM_fits_0 := zcode_of (by decide +kernel) (zoks_cons (And.intro rfl (by decide)) (zoks_cons rfl trivial))
set_option maxRecDepth 100000 in
theorem bM_fits_2 : zcode (mM_fits) 2 qM_fits_2 := zcode_of (by decide +kernel) (zoks_cons rfl (zoks_cons rfl (zoks_cons (And.intro rfl kF33) (zoks_cons rfl (zoks_cons (And.intro rfl rfl) (zoks_cons (And.intro rfl (by decide)) (zoks_cons (And.intro rfl (by decide)) (zoks_cons rfl trivial))))))))
set_option maxRecDepth 100000 in
theorem bM_fits_15 : zcode (mM_fits) 15 qM_fits_15 := zcode_of (by decide +kernel) (zoks_cons rfl (zoks_cons rfl (zoks_cons (And.intro rfl kF33) (zoks_cons rfl (zoks_cons (And.intro rfl rfl) (zoks_cons rfl (zoks_cons rfl (zoks_cons (And.intro rfl (by decide)) (zoks_cons rfl (zoks_cons rfl (zoks_cons rfl (zoks_cons rfl (zoks_cons rfl (zoks_cons (And.intro rfl kV50) (zoks_cons (And.intro rfl (by decide)) (zoks_cons (And.intro rfl (by decide)) (zoks_cons (And.intro rfl (Or.inr (Or.inl ⟨rfl, rfl⟩))) trivial)))))))))))))))))
set_option maxRecDepth 100000 in
theorem bM_fits_42 : zcode (mM_fits) 42 qM_fits_42 := zcode_of (by decide +kernel) (zoks_cons (And.intro rfl (by decide)) (zoks_cons (And.intro rfl (by decide)) trivial))
set_option maxRecDepth 100000 in
theorem bM_fits_48 : zcode (mM_fits) 48 qM_fits_48 := zcode_of (by decide +kernel) (zoks_cons (And.intro rfl (by decide)) (zoks_cons (And.intro rfl (by decide)) trivial))
set_option maxRecDepth 100000 in
theorem bM_fits_54 : zcode (mM_fits) 54 qM_fits_54 := zcode_of (by decide +kernel) (zoks_cons (And.intro rfl (by decide)) (zoks_cons (And.intro rfl (Or.inr (Or.inl ⟨rfl, rfl⟩))) trivial))
theorem kM_fits : zcd (mM_fits) cdM_fits := by
  intro a is h
  unfold cdM_fits at h
  split at h
  · cases h; exact bM_fits_0
  · cases h; exact bM_fits_2
  · cases h; exact bM_fits_15
  · cases h; exact bM_fits_42
  · cases h; exact bM_fits_48
  · cases h; exact bM_fits_54
  · cases h
def qM_find_0 : List zIns := [(.bipush (12), 2, 12, 0, 0, 0, 0, z0), (.iload_n 1, 1, 0, 0, 0, 0, 0, z0), (.imul, 1, 0, 0, 0, 0, 0, z0), (.iload_n 2, 1, 0, 0, 0, 0, 0, z0), (.iadd, 1, 0, 0, 0, 0, 0, z0), (.istore_n 3, 1, 0, 0, 0, 0, 0, z0), (.iconst (-1), 1, 1, 0, 1, 0, 0, z0), (.istore 4, 2, 0, 0, 0, 0, 0, z0), (.iconst (0), 1, 0, 0, 0, 0, 0, z0), (.istore 5, 2, 0, 0, 0, 0, 0, z0)]
def qM_find_13 : List zIns := [(.iload 5, 2, 0, 0, 0, 0, 0, z0), (.iconst (4), 1, 4, 0, 0, 0, 0, z0), (.if_icmp .ge (48), 3, 64, 0, 0, 0, 0, z0), (.aload_n 0, 1, 0, 0, 0, 0, 0, z0), (.getfield 63, 3, 9, 23, 0, 0, 0, z0), (.iconst (4), 1, 4, 0, 0, 0, 0, z0), (.iload_n 1, 1, 0, 0, 0, 0, 0, z0), (.imul, 1, 0, 0, 0, 0, 0, z0), (.iload 5, 2, 0, 0, 0, 0, 0, z0), (.iadd, 1, 0, 0, 0, 0, 0, z0), (.iaload, 1, 0, 0, 0, 0, 0, z0), (.iconst (1), 1, 1, 0, 0, 0, 0, z0), (.isub, 1, 0, 0, 0, 0, 0, z0), (.istore 6, 2, 0, 0, 0, 0, 0, z0), (.iload 6, 2, 0, 0, 0, 0, 0, z0), (.ifCond .lt (18), 3, 54, 0, 0, 0, 0, z0), (.aload_n 0, 1, 0, 0, 0, 0, 0, z0), (.iload 6, 2, 0, 0, 0, 0, 0, z0), (.iload_n 2, 1, 0, 0, 0, 0, 0, z0), (.invokevirtual 171, 3, 2, 9, 0, 0, 0, mM_fits), (.ifCond .eq (8), 3, 54, 0, 0, 0, 0, z0), (.iload 6, 2, 0, 0, 0, 0, 0, z0), (.goto (5), 3, 56, 0, 0, 0, 0, z0)]
def qM_find_54 : List zIns := [(.iload 4, 2, 0, 0, 0, 0, 0, z0)]
def qM_find_56 : List zIns := [(.istore 4, 2, 0, 0, 0, 0, 0, z0), (.iinc 5 (1), 3, 1, 0, 0, 0, 0, z0), (.goto (-48), 3, 13, 0, 0, 0, 0, z0)]
def qM_find_64 : List zIns := [(.iload 4, 2, 0, 0, 0, 0, 0, z0), (.ifCond .lt (13), 3, 79, 0, 0, 0, 0, z0), (.aload_n 0, 1, 0, 0, 0, 0, 0, z0), (.getfield 29, 3, 9, 9, 0, 0, 0, z0), (.iload 4, 2, 0, 0, 0, 0, 0, z0), (.iaload, 1, 0, 0, 0, 0, 0, z0), (.ifCond .ne (11), 3, 87, 0, 0, 0, 0, z0)]
def qM_find_79 : List zIns := [(.aload_n 0, 1, 0, 0, 0, 0, 0, z0), (.getfield 35, 3, 9, 12, 0, 0, 0, z0), (.iload_n 3, 1, 0, 0, 0, 0, 0, z0), (.iconst (-1), 1, 1, 0, 1, 0, 0, z0), (.iastore, 1, 0, 0, 0, 0, 0, z0), (.return_, 1, 0, 0, 0, 0, 0, z0)]
def qM_find_87 : List zIns := [(.aload_n 0, 1, 0, 0, 0, 0, 0, z0), (.iload 4, 2, 0, 0, 0, 0, 0, z0), (.iload_n 2, 1, 0, 0, 0, 0, 0, z0), (.invokevirtual 171, 3, 2, 9, 0, 0, 0, mM_fits), (.istore 5, 2, 0, 0, 0, 0, 0, z0), (.iconst (0), 1, 0, 0, 0, 0, 0, z0), (.istore 6, 2, 0, 0, 0, 0, 0, z0), (.iconst (0), 1, 0, 0, 0, 0, 0, z0), (.istore 7, 2, 0, 0, 0, 0, 0, z0), (.iconst (0), 1, 0, 0, 0, 0, 0, z0), (.istore 8, 2, 0, 0, 0, 0, 0, z0)]
def qM_find_105 : List zIns := [(.iload 8, 2, 0, 0, 0, 0, 0, z0), (.aload_n 0, 1, 0, 0, 0, 0, 0, z0), (.getfield 29, 3, 9, 9, 0, 0, 0, z0), (.iload 4, 2, 0, 0, 0, 0, 0, z0), (.iaload, 1, 0, 0, 0, 0, 0, z0), (.if_icmp .ge (111), 3, 225, 0, 0, 0, 0, z0), (.aload_n 0, 1, 0, 0, 0, 0, 0, z0), (.getfield 23, 3, 9, 7, 0, 0, 0, z0), (.bipush (12), 2, 12, 0, 0, 0, 0, z0), (.iload 4, 2, 0, 0, 0, 0, 0, z0), (.imul, 1, 0, 0, 0, 0, 0, z0), (.iload 8, 2, 0, 0, 0, 0, 0, z0), (.iadd, 1, 0, 0, 0, 0, 0, z0), (.caload, 1, 1, 0, 0, 0, 0, z0), (.istore 9, 2, 0, 0, 0, 0, 0, z0), (.iload 9, 2, 0, 0, 0, 0, 0, z0), (.invokestatic 149, 3, 1, 0, 0, 0, 0, mM_wild), (.ifCond .eq (65), 3, 202, 0, 0, 0, 0, z0), (.iconst (0), 1, 0, 0, 0, 0, 0, z0), (.istore 10, 2, 0, 0, 0, 0, 0, z0)]
def qM_find_143 : List zIns := [(.iload 10, 2, 0, 0, 0, 0, 0, z0), (.aload_n 0, 1, 0, 0, 0, 0, 0, z0), (.getfield 45, 3, 9, 15, 0, 0, 0, z0), (.iload 7, 2, 0, 0, 0, 0, 0, z0), (.iaload, 1, 0, 0, 0, 0, 0, z0), (.if_icmp .ge (44), 3, 196, 0, 0, 0, 0, z0), (.aload_n 0, 1, 0, 0, 0, 0, 0, z0), (.getfield 32, 3, 9, 11, 0, 0, 0, z0), (.bipush (24), 2, 24, 0, 0, 0, 0, z0), (.iload_n 3, 1, 0, 0, 0, 0, 0, z0), (.imul, 1, 0, 0, 0, 0, 0, z0), (.iload 6, 2, 0, 0, 0, 0, 0, z0), (.iadd, 1, 0, 0, 0, 0, 0, z0), (.aload_n 0, 1, 0, 0, 0, 0, 0, z0), (.getfield 13, 3, 9, 3, 0, 0, 0, z0), (.bipush (12), 2, 12, 0, 0, 0, 0, z0), (.iload_n 2, 1, 0, 0, 0, 0, 0, z0), (.imul, 1, 0, 0, 0, 0, 0, z0), (.aload_n 0, 1, 0, 0, 0, 0, 0, z0), (.getfield 42, 3, 9, 14, 0, 0, 0, z0), (.iload 7, 2, 0, 0, 0, 0, 0, z0), (.iaload, 1, 0, 0, 0, 0, 0, z0), (.iadd, 1, 0, 0, 0, 0, 0, z0), (.iload 10, 2, 0, 0, 0, 0, 0, z0), (.iadd, 1, 0, 0, 0, 0, 0, z0), (.caload, 1, 1, 0, 0, 0, 0, z0), (.castore, 1, 1, 0, 0, 0, 0, z0), (.iinc 6 (1), 3, 1, 0, 0, 0, 0, z0), (.iinc 10 (1), 3, 1, 0, 0, 0, 0, z0), (.goto (-50), 3, 143, 0, 0, 0, 0, z0)]
def qM_find_196 : List zIns := [(.iinc 7 (1), 3, 1, 0, 0, 0, 0, z0), (.goto (20), 3, 219, 0, 0, 0, 0, z0)]
def qM_find_202 : List zIns := [(.aload_n 0, 1, 0, 0, 0, 0, 0, z0), (.getfield 32, 3, 9, 11, 0, 0, 0, z0), (.bipush (24), 2, 24, 0, 0, 0, 0, z0), (.iload_n 3, 1, 0, 0, 0, 0, 0, z0), (.imul, 1, 0, 0, 0, 0, 0, z0), (.iload 6, 2, 0, 0, 0, 0, 0, z0), (.iadd, 1, 0, 0, 0, 0, 0, z0), (.iload 9, 2, 0, 0, 0, 0, 0, z0), (.castore, 1, 1, 0, 0, 0, 0, z0), (.iinc 6 (1), 3, 1, 0, 0, 0, 0, z0)]
def qM_find_219 : List zIns := [(.iinc 8 (1), 3, 1, 0, 0, 0, 0, z0), (.goto (-117), 3, 105, 0, 0, 0, 0, z0)]
def qM_find_225 : List zIns := [(.aload_n 0, 1, 0, 0, 0, 0, 0, z0), (.getfield 35, 3, 9, 12, 0, 0, 0, z0), (.iload_n 3, 1, 0, 0, 0, 0, 0, z0), (.iload 6, 2, 0, 0, 0, 0, 0, z0), (.iastore, 1, 0, 0, 0, 0, 0, z0), (.return_, 1, 0, 0, 0, 0, 0, z0)]
def cdM_find : zCd := fun a => match a with
  | 0 => some qM_find_0
  | 13 => some qM_find_13
  | 54 => some qM_find_54
  | 56 => some qM_find_56
  | 64 => some qM_find_64
  | 79 => some qM_find_79
  | 87 => some qM_find_87
  | 105 => some qM_find_105
  | 143 => some qM_find_143
  | 196 => some qM_find_196
  | 202 => some qM_find_202
  | 219 => some qM_find_219
  | 225 => some qM_find_225
  | _ => none
set_option maxRecDepth 100000 in
theorem bM_find_0 : zcode (mM_find) 0 qM_find_0 := zcode_of (by decide +kernel) (zoks_cons (And.intro rfl (by decide)) (zoks_cons rfl (zoks_cons rfl (zoks_cons rfl (zoks_cons rfl (zoks_cons rfl (zoks_cons (And.intro rfl (by decide)) (zoks_cons rfl (zoks_cons (And.intro rfl (by decide)) (zoks_cons rfl trivial))))))))))
set_option maxRecDepth 100000 in
theorem bM_find_13 : zcode (mM_find) 13 qM_find_13 := zcode_of (by decide +kernel) (zoks_cons rfl (zoks_cons (And.intro rfl (by decide)) (zoks_cons (And.intro rfl (by decide)) (zoks_cons rfl (zoks_cons (And.intro rfl kF42) (zoks_cons (And.intro rfl (by decide)) (zoks_cons rfl (zoks_cons rfl (zoks_cons rfl (zoks_cons rfl (zoks_cons (And.intro rfl rfl) (zoks_cons (And.intro rfl (by decide)) (zoks_cons rfl (zoks_cons rfl (zoks_cons rfl (zoks_cons (And.intro rfl (by decide)) (zoks_cons rfl (zoks_cons rfl (zoks_cons rfl (zoks_cons (And.intro rfl kV51) (zoks_cons (And.intro rfl (by decide)) (zoks_cons rfl (zoks_cons (And.intro rfl (by decide)) trivial)))))))))))))))))))))))
set_option maxRecDepth 100000 in
theorem bM_find_54 : zcode (mM_find) 54 qM_find_54 := zcode_of (by decide +kernel) (zoks_cons rfl trivial)
set_option maxRecDepth 100000 in
theorem bM_find_56 : zcode (mM_find) 56 qM_find_56 := zcode_of (by decide +kernel) (zoks_cons rfl (zoks_cons (And.intro rfl (by decide)) (zoks_cons (And.intro rfl (by decide)) trivial)))
set_option maxRecDepth 100000 in
theorem bM_find_64 : zcode (mM_find) 64 qM_find_64 := zcode_of (by decide +kernel) (zoks_cons rfl (zoks_cons (And.intro rfl (by decide)) (zoks_cons rfl (zoks_cons (And.intro rfl kF38) (zoks_cons rfl (zoks_cons (And.intro rfl rfl) (zoks_cons (And.intro rfl (by decide)) trivial)))))))
set_option maxRecDepth 100000 in
theorem bM_find_79 : zcode (mM_find) 79 qM_find_79 := zcode_of (by decide +kernel) (zoks_cons rfl (zoks_cons (And.intro rfl kF43) (zoks_cons rfl (zoks_cons (And.intro rfl (by decide)) (zoks_cons (And.intro rfl rfl) (zoks_cons (And.intro rfl rfl) trivial))))))
set_option maxRecDepth 100000 in
theorem bM_find_87 : zcode (mM_find) 87 qM_find_87 := zcode_of (by decide +kernel) (zoks_cons rfl (zoks_cons rfl (zoks_cons rfl (zoks_cons (And.intro rfl kV51) (zoks_cons rfl (zoks_cons (And.intro rfl (by decide)) (zoks_cons rfl (zoks_cons (And.intro rfl (by decide)) (zoks_cons rfl (zoks_cons (And.intro rfl (by decide)) (zoks_cons rfl trivial)))))))))))
set_option maxRecDepth 100000 in
theorem bM_find_105 : zcode (mM_find) 105 qM_find_105 := zcode_of (by decide +kernel) (zoks_cons rfl (zoks_cons rfl (zoks_cons (And.intro rfl kF38) (zoks_cons rfl (zoks_cons (And.intro rfl rfl) (zoks_cons (And.intro rfl (by decide)) (zoks_cons rfl (zoks_cons (And.intro rfl kF39) (zoks_cons (And.intro rfl (by decide)) (zoks_cons rfl (zoks_cons rfl (zoks_cons rfl (zoks_cons rfl (zoks_cons (And.intro rfl rfl) (zoks_cons rfl (zoks_cons rfl (zoks_cons (And.intro rfl kS6) (zoks_cons (And.intro rfl (by decide)) (zoks_cons (And.intro rfl (by decide)) (zoks_cons rfl trivial))))))))))))))))))))
set_option maxRecDepth 100000 in
theorem bM_find_143 : zcode (mM_find) 143 qM_find_143 := zcode_of (by decide +kernel) (zoks_cons rfl (zoks_cons rfl (zoks_cons (And.intro rfl kF41) (zoks_cons rfl (zoks_cons (And.intro rfl rfl) (zoks_cons (And.intro rfl (by decide)) (zoks_cons rfl (zoks_cons (And.intro rfl kF44) (zoks_cons (And.intro rfl (by decide)) (zoks_cons rfl (zoks_cons rfl (zoks_cons rfl (zoks_cons rfl (zoks_cons rfl (zoks_cons (And.intro rfl kF34) (zoks_cons (And.intro rfl (by decide)) (zoks_cons rfl (zoks_cons rfl (zoks_cons rfl (zoks_cons (And.intro rfl kF40) (zoks_cons rfl (zoks_cons (And.intro rfl rfl) (zoks_cons rfl (zoks_cons rfl (zoks_cons rfl (zoks_cons (And.intro rfl rfl) (zoks_cons (And.intro rfl rfl) (zoks_cons (And.intro rfl (by decide)) (zoks_cons (And.intro rfl (by decide)) (zoks_cons (And.intro rfl (by decide)) trivial))))))))))))))))))))))))))))))
set_option maxRecDepth 100000 in
theorem bM_find_196 : zcode (mM_find) 196 qM_find_196 := zcode_of (by decide +kernel) (zoks_cons (And.intro rfl (by decide)) (zoks_cons (And.intro rfl (by decide)) trivial))
set_option maxRecDepth 100000 in
theorem bM_find_202 : zcode (mM_find) 202 qM_find_202 := zcode_of (by decide +kernel) (zoks_cons rfl (zoks_cons (And.intro rfl kF44) (zoks_cons (And.intro rfl (by decide)) (zoks_cons rfl (zoks_cons rfl (zoks_cons rfl (zoks_cons rfl (zoks_cons rfl (zoks_cons (And.intro rfl rfl) (zoks_cons (And.intro rfl (by decide)) trivial))))))))))
set_option maxRecDepth 100000 in
theorem bM_find_219 : zcode (mM_find) 219 qM_find_219 := zcode_of (by decide +kernel) (zoks_cons (And.intro rfl (by decide)) (zoks_cons (And.intro rfl (by decide)) trivial))
set_option maxRecDepth 100000 in
theorem bM_find_225 : zcode (mM_find) 225 qM_find_225 := zcode_of (by decide +kernel) (zoks_cons rfl (zoks_cons (And.intro rfl kF43) (zoks_cons rfl (zoks_cons rfl (zoks_cons (And.intro rfl rfl) (zoks_cons (And.intro rfl rfl) trivial))))))
theorem kM_find : zcd (mM_find) cdM_find := by
  intro a is h
  unfold cdM_find at h
  split at h
  · cases h; exact bM_find_0
  · cases h; exact bM_find_13
  · cases h; exact bM_find_54
  · cases h; exact bM_find_56
  · cases h; exact bM_find_64
  · cases h; exact bM_find_79
  · cases h; exact bM_find_87
  · cases h; exact bM_find_105
  · cases h; exact bM_find_143
  · cases h; exact bM_find_196
  · cases h; exact bM_find_202
  · cases h; exact bM_find_219
  · cases h; exact bM_find_225
  · cases h
def qM_samePlace_0 : List zIns := [(.aload_n 0, 1, 0, 0, 0, 0, 0, z0), (.getfield 35, 3, 9, 12, 0, 0, 0, z0), (.iload_n 1, 1, 0, 0, 0, 0, 0, z0), (.iaload, 1, 0, 0, 0, 0, 0, z0), (.aload_n 0, 1, 0, 0, 0, 0, 0, z0), (.getfield 35, 3, 9, 12, 0, 0, 0, z0), (.iload_n 2, 1, 0, 0, 0, 0, 0, z0), (.iaload, 1, 0, 0, 0, 0, 0, z0), (.if_icmp .ne (7), 3, 19, 0, 0, 0, 0, z0), (.iconst (1), 1, 1, 0, 0, 0, 0, z0), (.goto (4), 3, 20, 0, 0, 0, 0, z0)]
def qM_samePlace_19 : List zIns := [(.iconst (0), 1, 0, 0, 0, 0, 0, z0)]
def qM_samePlace_20 : List zIns := [(.istore_n 3, 1, 0, 0, 0, 0, 0, z0), (.iconst (0), 1, 0, 0, 0, 0, 0, z0), (.istore 4, 2, 0, 0, 0, 0, 0, z0)]
def qM_samePlace_24 : List zIns := [(.iload 4, 2, 0, 0, 0, 0, 0, z0), (.aload_n 0, 1, 0, 0, 0, 0, 0, z0), (.getfield 35, 3, 9, 12, 0, 0, 0, z0), (.iload_n 1, 1, 0, 0, 0, 0, 0, z0), (.iaload, 1, 0, 0, 0, 0, 0, z0), (.if_icmp .ge (46), 3, 78, 0, 0, 0, 0, z0), (.iload_n 3, 1, 0, 0, 0, 0, 0, z0), (.ifCond .eq (42), 3, 78, 0, 0, 0, 0, z0), (.aload_n 0, 1, 0, 0, 0, 0, 0, z0), (.getfield 32, 3, 9, 11, 0, 0, 0, z0), (.bipush (24), 2, 24, 0, 0, 0, 0, z0), (.iload_n 1, 1, 0, 0, 0, 0, 0, z0), (.imul, 1, 0, 0, 0, 0, 0, z0), (.iload 4, 2, 0, 0, 0, 0, 0, z0), (.iadd, 1, 0, 0, 0, 0, 0, z0), (.caload, 1, 1, 0, 0, 0, 0, z0), (.aload_n 0, 1, 0, 0, 0, 0, 0, z0), (.getfield 32, 3, 9, 11, 0, 0, 0, z0), (.bipush (24), 2, 24, 0, 0, 0, 0, z0), (.iload_n 2, 1, 0, 0, 0, 0, 0, z0), (.imul, 1, 0, 0, 0, 0, 0, z0), (.iload 4, 2, 0, 0, 0, 0, 0, z0), (.iadd, 1, 0, 0, 0, 0, 0, z0), (.caload, 1, 1, 0, 0, 0, 0, z0), (.if_icmp .ne (7), 3, 70, 0, 0, 0, 0, z0), (.iconst (1), 1, 1, 0, 0, 0, 0, z0), (.goto (4), 3, 71, 0, 0, 0, 0, z0)]
def qM_samePlace_70 : List zIns := [(.iconst (0), 1, 0, 0, 0, 0, 0, z0)]
def qM_samePlace_71 : List zIns := [(.istore_n 3, 1, 0, 0, 0, 0, 0, z0), (.iinc 4 (1), 3, 1, 0, 0, 0, 0, z0), (.goto (-51), 3, 24, 0, 0, 0, 0, z0)]
def qM_samePlace_78 : List zIns := [(.iload_n 3, 1, 0, 0, 0, 0, 0, z0), (.ireturn, 1, 0, 0, 1, 0, 0, z0)]
def cdM_samePlace : zCd := fun a => match a with
  | 0 => some qM_samePlace_0
  | 19 => some qM_samePlace_19
  | 20 => some qM_samePlace_20
  | 24 => some qM_samePlace_24
  | 70 => some qM_samePlace_70
  | 71 => some qM_samePlace_71
  | 78 => some qM_samePlace_78
  | _ => none
set_option maxRecDepth 100000 in
theorem bM_samePlace_0 : zcode (mM_samePlace) 0 qM_samePlace_0 := zcode_of (by decide +kernel) (zoks_cons rfl (zoks_cons (And.intro rfl kF43) (zoks_cons rfl (zoks_cons (And.intro rfl rfl) (zoks_cons rfl (zoks_cons (And.intro rfl kF43) (zoks_cons rfl (zoks_cons (And.intro rfl rfl) (zoks_cons (And.intro rfl (by decide)) (zoks_cons (And.intro rfl (by decide)) (zoks_cons (And.intro rfl (by decide)) trivial)))))))))))
set_option maxRecDepth 100000 in
theorem bM_samePlace_19 : zcode (mM_samePlace) 19 qM_samePlace_19 := zcode_of (by decide +kernel) (zoks_cons (And.intro rfl (by decide)) trivial)
set_option maxRecDepth 100000 in
theorem bM_samePlace_20 : zcode (mM_samePlace) 20 qM_samePlace_20 := zcode_of (by decide +kernel) (zoks_cons rfl (zoks_cons (And.intro rfl (by decide)) (zoks_cons rfl trivial)))
set_option maxRecDepth 100000 in
theorem bM_samePlace_24 : zcode (mM_samePlace) 24 qM_samePlace_24 := zcode_of (by decide +kernel) (zoks_cons rfl (zoks_cons rfl (zoks_cons (And.intro rfl kF43) (zoks_cons rfl (zoks_cons (And.intro rfl rfl) (zoks_cons (And.intro rfl (by decide)) (zoks_cons rfl (zoks_cons (And.intro rfl (by decide)) (zoks_cons rfl (zoks_cons (And.intro rfl kF44) (zoks_cons (And.intro rfl (by decide)) (zoks_cons rfl (zoks_cons rfl (zoks_cons rfl (zoks_cons rfl (zoks_cons (And.intro rfl rfl) (zoks_cons rfl (zoks_cons (And.intro rfl kF44) (zoks_cons (And.intro rfl (by decide)) (zoks_cons rfl (zoks_cons rfl (zoks_cons rfl (zoks_cons rfl (zoks_cons (And.intro rfl rfl) (zoks_cons (And.intro rfl (by decide)) (zoks_cons (And.intro rfl (by decide)) (zoks_cons (And.intro rfl (by decide)) trivial)))))))))))))))))))))))))))
set_option maxRecDepth 100000 in
theorem bM_samePlace_70 : zcode (mM_samePlace) 70 qM_samePlace_70 := zcode_of (by decide +kernel) (zoks_cons (And.intro rfl (by decide)) trivial)
set_option maxRecDepth 100000 in
theorem bM_samePlace_71 : zcode (mM_samePlace) 71 qM_samePlace_71 := zcode_of (by decide +kernel) (zoks_cons rfl (zoks_cons (And.intro rfl (by decide)) (zoks_cons (And.intro rfl (by decide)) trivial)))
set_option maxRecDepth 100000 in
theorem bM_samePlace_78 : zcode (mM_samePlace) 78 qM_samePlace_78 := zcode_of (by decide +kernel) (zoks_cons rfl (zoks_cons (And.intro rfl (Or.inr (Or.inl ⟨rfl, rfl⟩))) trivial))
theorem kM_samePlace : zcd (mM_samePlace) cdM_samePlace := by
  intro a is h
  unfold cdM_samePlace at h
  split at h
  · cases h; exact bM_samePlace_0
  · cases h; exact bM_samePlace_19
  · cases h; exact bM_samePlace_20
  · cases h; exact bM_samePlace_24
  · cases h; exact bM_samePlace_70
  · cases h; exact bM_samePlace_71
  · cases h; exact bM_samePlace_78
  · cases h
def qM_look_0 : List zIns := [(.aload_n 0, 1, 0, 0, 0, 0, 0, z0), (.getfield 145, 3, 9, 10, 0, 0, 0, z0), (.ifCond .eq (4), 3, 8, 0, 0, 0, 0, z0), (.return_, 1, 0, 0, 0, 0, 0, z0)]
def qM_look_8 : List zIns := [(.aload_n 0, 1, 0, 0, 0, 0, 0, z0), (.iconst (1), 1, 1, 0, 0, 0, 0, z0), (.putfield 145, 3, 9, 10, 0, 0, 0, z0), (.iconst (0), 1, 0, 0, 0, 0, 0, z0), (.istore_n 1, 1, 0, 0, 0, 0, 0, z0)]
def qM_look_15 : List zIns := [(.iload_n 1, 1, 0, 0, 0, 0, 0, z0), (.iconst (3), 1, 3, 0, 0, 0, 0, z0), (.if_icmp .ge (108), 3, 125, 0, 0, 0, 0, z0), (.iconst (0), 1, 0, 0, 0, 0, 0, z0), (.istore_n 2, 1, 0, 0, 0, 0, 0, z0)]
def qM_look_22 : List zIns := [(.iload_n 2, 1, 0, 0, 0, 0, 0, z0), (.aload_n 0, 1, 0, 0, 0, 0, 0, z0), (.getfield 120, 3, 9, 2, 0, 0, 0, z0), (.if_icmp .ge (92), 3, 119, 0, 0, 0, 0, z0), (.bipush (12), 2, 12, 0, 0, 0, 0, z0), (.iload_n 1, 1, 0, 0, 0, 0, 0, z0), (.imul, 1, 0, 0, 0, 0, 0, z0), (.iload_n 2, 1, 0, 0, 0, 0, 0, z0), (.iadd, 1, 0, 0, 0, 0, 0, z0), (.istore_n 3, 1, 0, 0, 0, 0, 0, z0), (.aload_n 0, 1, 0, 0, 0, 0, 0, z0), (.iload_n 1, 1, 0, 0, 0, 0, 0, z0), (.iload_n 2, 1, 0, 0, 0, 0, 0, z0), (.invokevirtual 175, 3, 2, 9, 0, 0, 0, mM_find), (.aload_n 0, 1, 0, 0, 0, 0, 0, z0), (.getfield 38, 3, 9, 13, 0, 0, 0, z0), (.iload_n 3, 1, 0, 0, 0, 0, 0, z0), (.aload_n 0, 1, 0, 0, 0, 0, 0, z0), (.getfield 35, 3, 9, 12, 0, 0, 0, z0), (.iload_n 3, 1, 0, 0, 0, 0, 0, z0), (.iaload, 1, 0, 0, 0, 0, 0, z0), (.ifCond .lt (7), 3, 61, 0, 0, 0, 0, z0), (.iconst (1), 1, 1, 0, 0, 0, 0, z0), (.goto (4), 3, 62, 0, 0, 0, 0, z0)]
def qM_look_61 : List zIns := [(.iconst (0), 1, 0, 0, 0, 0, 0, z0)]
def qM_look_62 : List zIns := [(.bastore, 1, 2, 0, 0, 0, 0, z0), (.iconst (0), 1, 0, 0, 0, 0, 0, z0), (.istore 4, 2, 0, 0, 0, 0, 0, z0)]
def qM_look_66 : List zIns := [(.iload 4, 2, 0, 0, 0, 0, 0, z0), (.iload_n 2, 1, 0, 0, 0, 0, 0, z0), (.if_icmp .ge (44), 3, 113, 0, 0, 0, 0, z0), (.aload_n 0, 1, 0, 0, 0, 0, 0, z0), (.getfield 38, 3, 9, 13, 0, 0, 0, z0), (.iload_n 3, 1, 0, 0, 0, 0, 0, z0), (.aload_n 0, 1, 0, 0, 0, 0, 0, z0), (.getfield 38, 3, 9, 13, 0, 0, 0, z0), (.iload_n 3, 1, 0, 0, 0, 0, 0, z0), (.baload, 1, 2, 0, 0, 0, 0, z0), (.ifCond .eq (22), 3, 105, 0, 0, 0, 0, z0), (.aload_n 0, 1, 0, 0, 0, 0, 0, z0), (.iload_n 3, 1, 0, 0, 0, 0, 0, z0), (.bipush (12), 2, 12, 0, 0, 0, 0, z0), (.iload_n 1, 1, 0, 0, 0, 0, 0, z0), (.imul, 1, 0, 0, 0, 0, 0, z0), (.iload 4, 2, 0, 0, 0, 0, 0, z0), (.iadd, 1, 0, 0, 0, 0, 0, z0), (.invokevirtual 179, 3, 2, 9, 0, 0, 0, mM_samePlace), (.ifCond .ne (7), 3, 105, 0, 0, 0, 0, z0), (.iconst (1), 1, 1, 0, 0, 0, 0, z0), (.goto (4), 3, 106, 0, 0, 0, 0, z0)]
def qM_look_105 : List zIns := [(.iconst (0), 1, 0, 0, 0, 0, 0, z0)]
def qM_look_106 : List zIns := [(.bastore, 1, 2, 0, 0, 0, 0, z0), (.iinc 4 (1), 3, 1, 0, 0, 0, 0, z0), (.goto (-44), 3, 66, 0, 0, 0, 0, z0)]
def qM_look_113 : List zIns := [(.iinc 2 (1), 3, 1, 0, 0, 0, 0, z0), (.goto (-94), 3, 22, 0, 0, 0, 0, z0)]
def qM_look_119 : List zIns := [(.iinc 1 (1), 3, 1, 0, 0, 0, 0, z0), (.goto (-107), 3, 15, 0, 0, 0, 0, z0)]
def qM_look_125 : List zIns := [(.return_, 1, 0, 0, 0, 0, 0, z0)]
def cdM_look : zCd := fun a => match a with
  | 0 => some qM_look_0
  | 8 => some qM_look_8
  | 15 => some qM_look_15
  | 22 => some qM_look_22
  | 61 => some qM_look_61
  | 62 => some qM_look_62
  | 66 => some qM_look_66
  | 105 => some qM_look_105
  | 106 => some qM_look_106
  | 113 => some qM_look_113
  | 119 => some qM_look_119
  | 125 => some qM_look_125
  | _ => none
set_option maxRecDepth 100000 in
theorem bM_look_0 : zcode (mM_look) 0 qM_look_0 := zcode_of (by decide +kernel) (zoks_cons rfl (zoks_cons (And.intro rfl kF45) (zoks_cons (And.intro rfl (by decide)) (zoks_cons (And.intro rfl rfl) trivial))))
set_option maxRecDepth 100000 in
theorem bM_look_8 : zcode (mM_look) 8 qM_look_8 := zcode_of (by decide +kernel) (zoks_cons rfl (zoks_cons (And.intro rfl (by decide)) (zoks_cons (And.intro rfl (And.intro rfl (kP52 rfl))) (zoks_cons (And.intro rfl (by decide)) (zoks_cons rfl trivial)))))
set_option maxRecDepth 100000 in
theorem bM_look_15 : zcode (mM_look) 15 qM_look_15 := zcode_of (by decide +kernel) (zoks_cons rfl (zoks_cons (And.intro rfl (by decide)) (zoks_cons (And.intro rfl (by decide)) (zoks_cons (And.intro rfl (by decide)) (zoks_cons rfl trivial)))))
set_option maxRecDepth 100000 in
theorem bM_look_22 : zcode (mM_look) 22 qM_look_22 := zcode_of (by decide +kernel) (zoks_cons rfl (zoks_cons rfl (zoks_cons (And.intro rfl kF30) (zoks_cons (And.intro rfl (by decide)) (zoks_cons (And.intro rfl (by decide)) (zoks_cons rfl (zoks_cons rfl (zoks_cons rfl (zoks_cons rfl (zoks_cons rfl (zoks_cons rfl (zoks_cons rfl (zoks_cons rfl (zoks_cons (And.intro rfl kV52) (zoks_cons rfl (zoks_cons (And.intro rfl kF46) (zoks_cons rfl (zoks_cons rfl (zoks_cons (And.intro rfl kF43) (zoks_cons rfl (zoks_cons (And.intro rfl rfl) (zoks_cons (And.intro rfl (by decide)) (zoks_cons (And.intro rfl (by decide)) (zoks_cons (And.intro rfl (by decide)) trivial))))))))))))))))))))))))
set_option maxRecDepth 100000 in
theorem bM_look_61 : zcode (mM_look) 61 qM_look_61 := zcode_of (by decide +kernel) (zoks_cons (And.intro rfl (by decide)) trivial)
set_option maxRecDepth 100000 in
theorem bM_look_62 : zcode (mM_look) 62 qM_look_62 := zcode_of (by decide +kernel) (zoks_cons (And.intro rfl rfl) (zoks_cons (And.intro rfl (by decide)) (zoks_cons rfl trivial)))
set_option maxRecDepth 100000 in
theorem bM_look_66 : zcode (mM_look) 66 qM_look_66 := zcode_of (by decide +kernel) (zoks_cons rfl (zoks_cons rfl (zoks_cons (And.intro rfl (by decide)) (zoks_cons rfl (zoks_cons (And.intro rfl kF46) (zoks_cons rfl (zoks_cons rfl (zoks_cons (And.intro rfl kF46) (zoks_cons rfl (zoks_cons (And.intro rfl rfl) (zoks_cons (And.intro rfl (by decide)) (zoks_cons rfl (zoks_cons rfl (zoks_cons (And.intro rfl (by decide)) (zoks_cons rfl (zoks_cons rfl (zoks_cons rfl (zoks_cons rfl (zoks_cons (And.intro rfl kV53) (zoks_cons (And.intro rfl (by decide)) (zoks_cons (And.intro rfl (by decide)) (zoks_cons (And.intro rfl (by decide)) trivial))))))))))))))))))))))
set_option maxRecDepth 100000 in
theorem bM_look_105 : zcode (mM_look) 105 qM_look_105 := zcode_of (by decide +kernel) (zoks_cons (And.intro rfl (by decide)) trivial)
set_option maxRecDepth 100000 in
theorem bM_look_106 : zcode (mM_look) 106 qM_look_106 := zcode_of (by decide +kernel) (zoks_cons (And.intro rfl rfl) (zoks_cons (And.intro rfl (by decide)) (zoks_cons (And.intro rfl (by decide)) trivial)))
set_option maxRecDepth 100000 in
theorem bM_look_113 : zcode (mM_look) 113 qM_look_113 := zcode_of (by decide +kernel) (zoks_cons (And.intro rfl (by decide)) (zoks_cons (And.intro rfl (by decide)) trivial))
set_option maxRecDepth 100000 in
theorem bM_look_119 : zcode (mM_look) 119 qM_look_119 := zcode_of (by decide +kernel) (zoks_cons (And.intro rfl (by decide)) (zoks_cons (And.intro rfl (by decide)) trivial))
set_option maxRecDepth 100000 in
theorem bM_look_125 : zcode (mM_look) 125 qM_look_125 := zcode_of (by decide +kernel) (zoks_cons (And.intro rfl rfl) trivial)
theorem kM_look : zcd (mM_look) cdM_look := by
  intro a is h
  unfold cdM_look at h
  split at h
  · cases h; exact bM_look_0
  · cases h; exact bM_look_8
  · cases h; exact bM_look_15
  · cases h; exact bM_look_22
  · cases h; exact bM_look_61
  · cases h; exact bM_look_62
  · cases h; exact bM_look_66
  · cases h; exact bM_look_105
  · cases h; exact bM_look_106
  · cases h; exact bM_look_113
  · cases h; exact bM_look_119
  · cases h; exact bM_look_125
  · cases h
def qM_mapped_0 : List zIns := [(.aload_n 0, 1, 0, 0, 0, 0, 0, z0), (.iload_n 1, 1, 0, 0, 0, 0, 0, z0), (.iload_n 2, 1, 0, 0, 0, 0, 0, z0), (.invokevirtual 182, 3, 2, 9, 0, 0, 0, mM_both), (.ifCond .ne (5), 3, 11, 0, 0, 0, 0, z0), (.iconst (0), 1, 0, 0, 0, 0, 0, z0), (.ireturn, 1, 0, 0, 1, 0, 0, z0)]
def qM_mapped_11 : List zIns := [(.aload_n 0, 1, 0, 0, 0, 0, 0, z0), (.invokevirtual 185, 3, 0, 9, 0, 0, 0, mM_look), (.aload_n 0, 1, 0, 0, 0, 0, 0, z0), (.getfield 38, 3, 9, 13, 0, 0, 0, z0), (.bipush (12), 2, 12, 0, 0, 0, 0, z0), (.iload_n 1, 1, 0, 0, 0, 0, 0, z0), (.imul, 1, 0, 0, 0, 0, 0, z0), (.iload_n 2, 1, 0, 0, 0, 0, 0, z0), (.iadd, 1, 0, 0, 0, 0, 0, z0), (.baload, 1, 2, 0, 0, 0, 0, z0), (.ireturn, 1, 0, 0, 1, 0, 0, z0)]
def cdM_mapped : zCd := fun a => match a with
  | 0 => some qM_mapped_0
  | 11 => some qM_mapped_11
  | _ => none
set_option maxRecDepth 100000 in
theorem bM_mapped_0 : zcode (mM_mapped) 0 qM_mapped_0 := zcode_of (by decide +kernel) (zoks_cons rfl (zoks_cons rfl (zoks_cons rfl (zoks_cons (And.intro rfl kV54) (zoks_cons (And.intro rfl (by decide)) (zoks_cons (And.intro rfl (by decide)) (zoks_cons (And.intro rfl (Or.inr (Or.inl ⟨rfl, rfl⟩))) trivial)))))))
set_option maxRecDepth 100000 in
theorem bM_mapped_11 : zcode (mM_mapped) 11 qM_mapped_11 := zcode_of (by decide +kernel) (zoks_cons rfl (zoks_cons (And.intro rfl kV55) (zoks_cons rfl (zoks_cons (And.intro rfl kF46) (zoks_cons (And.intro rfl (by decide)) (zoks_cons rfl (zoks_cons rfl (zoks_cons rfl (zoks_cons rfl (zoks_cons (And.intro rfl rfl) (zoks_cons (And.intro rfl (Or.inr (Or.inl ⟨rfl, rfl⟩))) trivial)))))))))))
theorem kM_mapped : zcd (mM_mapped) cdM_mapped := by
  intro a is h
  unfold cdM_mapped at h
  split at h
  · cases h; exact bM_mapped_0
  · cases h; exact bM_mapped_11
  · cases h
def qM_place_0 : List zIns := [(.aload_n 0, 1, 0, 0, 0, 0, 0, z0), (.iload_n 1, 1, 0, 0, 0, 0, 0, z0), (.iload_n 2, 1, 0, 0, 0, 0, 0, z0), (.invokevirtual 182, 3, 2, 9, 0, 0, 0, mM_both), (.ifCond .ne (5), 3, 11, 0, 0, 0, 0, z0), (.iconst (-1), 1, 1, 0, 1, 0, 0, z0), (.ireturn, 1, 0, 0, 0, 0, 0, z0)]
def qM_place_11 : List zIns := [(.aload_n 0, 1, 0, 0, 0, 0, 0, z0), (.invokevirtual 185, 3, 0, 9, 0, 0, 0, mM_look), (.aload_n 0, 1, 0, 0, 0, 0, 0, z0), (.getfield 35, 3, 9, 12, 0, 0, 0, z0), (.bipush (12), 2, 12, 0, 0, 0, 0, z0), (.iload_n 1, 1, 0, 0, 0, 0, 0, z0), (.imul, 1, 0, 0, 0, 0, 0, z0), (.iload_n 2, 1, 0, 0, 0, 0, 0, z0), (.iadd, 1, 0, 0, 0, 0, 0, z0), (.iaload, 1, 0, 0, 0, 0, 0, z0), (.istore 4, 2, 0, 0, 0, 0, 0, z0), (.iload 4, 2, 0, 0, 0, 0, 0, z0), (.ifCond .lt (14), 3, 44, 0, 0, 0, 0, z0), (.iload_n 3, 1, 0, 0, 0, 0, 0, z0), (.iconst (-1), 1, 1, 0, 1, 0, 0, z0), (.if_icmp .lt (9), 3, 44, 0, 0, 0, 0, z0), (.iload_n 3, 1, 0, 0, 0, 0, 0, z0), (.iload 4, 2, 0, 0, 0, 0, 0, z0), (.if_icmp .lt (5), 3, 46, 0, 0, 0, 0, z0)]
def qM_place_44 : List zIns := [(.iconst (-1), 1, 1, 0, 1, 0, 0, z0), (.ireturn, 1, 0, 0, 0, 0, 0, z0)]
def qM_place_46 : List zIns := [(.iload_n 3, 1, 0, 0, 0, 0, 0, z0), (.iconst (-1), 1, 1, 0, 1, 0, 0, z0), (.if_icmp .ne (8), 3, 56, 0, 0, 0, 0, z0), (.iload 4, 2, 0, 0, 0, 0, 0, z0), (.goto (19), 3, 72, 0, 0, 0, 0, z0)]
def qM_place_56 : List zIns := [(.aload_n 0, 1, 0, 0, 0, 0, 0, z0), (.getfield 32, 3, 9, 11, 0, 0, 0, z0), (.bipush (24), 2, 24, 0, 0, 0, 0, z0), (.bipush (12), 2, 12, 0, 0, 0, 0, z0), (.iload_n 1, 1, 0, 0, 0, 0, 0, z0), (.imul, 1, 0, 0, 0, 0, 0, z0), (.iload_n 2, 1, 0, 0, 0, 0, 0, z0), (.iadd, 1, 0, 0, 0, 0, 0, z0), (.imul, 1, 0, 0, 0, 0, 0, z0), (.iload_n 3, 1, 0, 0, 0, 0, 0, z0), (.iadd, 1, 0, 0, 0, 0, 0, z0), (.caload, 1, 1, 0, 0, 0, 0, z0)]
def qM_place_72 : List zIns := [(.ireturn, 1, 0, 0, 0, 0, 0, z0)]
def cdM_place : zCd := fun a => match a with
  | 0 => some qM_place_0
  | 11 => some qM_place_11
  | 44 => some qM_place_44
  | 46 => some qM_place_46
  | 56 => some qM_place_56
  | 72 => some qM_place_72
  | _ => none
set_option maxRecDepth 100000 in
theorem bM_place_0 : zcode (mM_place) 0 qM_place_0 := zcode_of (by decide +kernel) (zoks_cons rfl (zoks_cons rfl (zoks_cons rfl (zoks_cons (And.intro rfl kV54) (zoks_cons (And.intro rfl (by decide)) (zoks_cons (And.intro rfl (by decide)) (zoks_cons (And.intro rfl (Or.inl ⟨rfl, rfl⟩)) trivial)))))))
set_option maxRecDepth 100000 in
theorem bM_place_11 : zcode (mM_place) 11 qM_place_11 := zcode_of (by decide +kernel) (zoks_cons rfl (zoks_cons (And.intro rfl kV55) (zoks_cons rfl (zoks_cons (And.intro rfl kF43) (zoks_cons (And.intro rfl (by decide)) (zoks_cons rfl (zoks_cons rfl (zoks_cons rfl (zoks_cons rfl (zoks_cons (And.intro rfl rfl) (zoks_cons rfl (zoks_cons rfl (zoks_cons (And.intro rfl (by decide)) (zoks_cons rfl (zoks_cons (And.intro rfl (by decide)) (zoks_cons (And.intro rfl (by decide)) (zoks_cons rfl (zoks_cons rfl (zoks_cons (And.intro rfl (by decide)) trivial)))))))))))))))))))
set_option maxRecDepth 100000 in
theorem bM_place_44 : zcode (mM_place) 44 qM_place_44 := zcode_of (by decide +kernel) (zoks_cons (And.intro rfl (by decide)) (zoks_cons (And.intro rfl (Or.inl ⟨rfl, rfl⟩)) trivial))
set_option maxRecDepth 100000 in
theorem bM_place_46 : zcode (mM_place) 46 qM_place_46 := zcode_of (by decide +kernel) (zoks_cons rfl (zoks_cons (And.intro rfl (by decide)) (zoks_cons (And.intro rfl (by decide)) (zoks_cons rfl (zoks_cons (And.intro rfl (by decide)) trivial)))))
set_option maxRecDepth 100000 in
theorem bM_place_56 : zcode (mM_place) 56 qM_place_56 := zcode_of (by decide +kernel) (zoks_cons rfl (zoks_cons (And.intro rfl kF44) (zoks_cons (And.intro rfl (by decide)) (zoks_cons (And.intro rfl (by decide)) (zoks_cons rfl (zoks_cons rfl (zoks_cons rfl (zoks_cons rfl (zoks_cons rfl (zoks_cons rfl (zoks_cons rfl (zoks_cons (And.intro rfl rfl) trivial))))))))))))
set_option maxRecDepth 100000 in
theorem bM_place_72 : zcode (mM_place) 72 qM_place_72 := zcode_of (by decide +kernel) (zoks_cons (And.intro rfl (Or.inl ⟨rfl, rfl⟩)) trivial)
theorem kM_place : zcd (mM_place) cdM_place := by
  intro a is h
  unfold cdM_place at h
  split at h
  · cases h; exact bM_place_0
  · cases h; exact bM_place_11
  · cases h; exact bM_place_44
  · cases h; exact bM_place_46
  · cases h; exact bM_place_56
  · cases h; exact bM_place_72
  · cases h
def qM_where_0 : List zIns := [(.iconst (-1), 1, 1, 0, 1, 0, 0, z0), (.istore_n 2, 1, 0, 0, 0, 0, 0, z0), (.aload_n 0, 1, 0, 0, 0, 0, 0, z0), (.invokevirtual 185, 3, 0, 9, 0, 0, 0, mM_look), (.iconst (0), 1, 0, 0, 0, 0, 0, z0), (.istore_n 3, 1, 0, 0, 0, 0, 0, z0)]
def qM_where_8 : List zIns := [(.iload_n 3, 1, 0, 0, 0, 0, 0, z0), (.aload_n 0, 1, 0, 0, 0, 0, 0, z0), (.getfield 120, 3, 9, 2, 0, 0, 0, z0), (.if_icmp .ge (119), 3, 132, 0, 0, 0, 0, z0), (.iload_n 1, 1, 0, 0, 0, 0, 0, z0), (.invokestatic 124, 3, 1, 0, 0, 0, 0, mM_isClient), (.ifCond .eq (112), 3, 132, 0, 0, 0, 0, z0), (.bipush (12), 2, 12, 0, 0, 0, 0, z0), (.iload_n 1, 1, 0, 0, 0, 0, 0, z0), (.imul, 1, 0, 0, 0, 0, 0, z0), (.iload_n 3, 1, 0, 0, 0, 0, 0, z0), (.iadd, 1, 0, 0, 0, 0, 0, z0), (.istore 4, 2, 0, 0, 0, 0, 0, z0), (.aload_n 0, 1, 0, 0, 0, 0, 0, z0), (.getfield 38, 3, 9, 13, 0, 0, 0, z0), (.iload 4, 2, 0, 0, 0, 0, 0, z0), (.baload, 1, 2, 0, 0, 0, 0, z0), (.ifCond .eq (21), 3, 59, 0, 0, 0, 0, z0), (.aload_n 0, 1, 0, 0, 0, 0, 0, z0), (.getfield 35, 3, 9, 12, 0, 0, 0, z0), (.iload 4, 2, 0, 0, 0, 0, 0, z0), (.iaload, 1, 0, 0, 0, 0, 0, z0), (.aload_n 0, 1, 0, 0, 0, 0, 0, z0), (.getfield 131, 3, 9, 0, 0, 0, 0, z0), (.if_icmp .ne (7), 3, 59, 0, 0, 0, 0, z0), (.iconst (1), 1, 1, 0, 0, 0, 0, z0), (.goto (4), 3, 60, 0, 0, 0, 0, z0)]
def qM_where_59 : List zIns := [(.iconst (0), 1, 0, 0, 0, 0, 0, z0)]
def qM_where_60 : List zIns := [(.istore 5, 2, 0, 0, 0, 0, 0, z0), (.iconst (0), 1, 0, 0, 0, 0, 0, z0), (.istore 6, 2, 0, 0, 0, 0, 0, z0)]
def qM_where_65 : List zIns := [(.iload 6, 2, 0, 0, 0, 0, 0, z0), (.aload_n 0, 1, 0, 0, 0, 0, 0, z0), (.getfield 131, 3, 9, 0, 0, 0, 0, z0), (.if_icmp .ge (44), 3, 115, 0, 0, 0, 0, z0), (.iload 5, 2, 0, 0, 0, 0, 0, z0), (.ifCond .eq (39), 3, 115, 0, 0, 0, 0, z0), (.aload_n 0, 1, 0, 0, 0, 0, 0, z0), (.getfield 32, 3, 9, 11, 0, 0, 0, z0), (.bipush (24), 2, 24, 0, 0, 0, 0, z0), (.iload 4, 2, 0, 0, 0, 0, 0, z0), (.imul, 1, 0, 0, 0, 0, 0, z0), (.iload 6, 2, 0, 0, 0, 0, 0, z0), (.iadd, 1, 0, 0, 0, 0, 0, z0), (.caload, 1, 1, 0, 0, 0, 0, z0), (.aload_n 0, 1, 0, 0, 0, 0, 0, z0), (.getfield 7, 3, 9, 1, 0, 0, 0, z0), (.iload 6, 2, 0, 0, 0, 0, 0, z0), (.caload, 1, 1, 0, 0, 0, 0, z0), (.if_icmp .ne (7), 3, 106, 0, 0, 0, 0, z0), (.iconst (1), 1, 1, 0, 0, 0, 0, z0), (.goto (4), 3, 107, 0, 0, 0, 0, z0)]
def qM_where_106 : List zIns := [(.iconst (0), 1, 0, 0, 0, 0, 0, z0)]
def qM_where_107 : List zIns := [(.istore 5, 2, 0, 0, 0, 0, 0, z0), (.iinc 6 (1), 3, 1, 0, 0, 0, 0, z0), (.goto (-47), 3, 65, 0, 0, 0, 0, z0)]
def qM_where_115 : List zIns := [(.iload 5, 2, 0, 0, 0, 0, 0, z0), (.ifCond .eq (7), 3, 124, 0, 0, 0, 0, z0), (.iload_n 3, 1, 0, 0, 0, 0, 0, z0), (.goto (4), 3, 125, 0, 0, 0, 0, z0)]
def qM_where_124 : List zIns := [(.iload_n 2, 1, 0, 0, 0, 0, 0, z0)]
def qM_where_125 : List zIns := [(.istore_n 2, 1, 0, 0, 0, 0, 0, z0), (.iinc 3 (1), 3, 1, 0, 0, 0, 0, z0), (.goto (-121), 3, 8, 0, 0, 0, 0, z0)]
def qM_where_132 : List zIns := [(.aload_n 0, 1, 0, 0, 0, 0, 0, z0), (.iconst (0), 1, 0, 0, 0, 0, 0, z0), (.putfield 131, 3, 9, 0, 0, 0, 0, z0), (.iload_n 2, 1, 0, 0, 0, 0, 0, z0), (.ireturn, 1, 0, 0, 0, 0, 0, z0)]
def cdM_where : zCd := fun a => match a with
  | 0 => some qM_where_0
  | 8 => some qM_where_8
  | 59 => some qM_where_59
  | 60 => some qM_where_60
  | 65 => some qM_where_65
  | 106 => some qM_where_106
  | 107 => some qM_where_107
  | 115 => some qM_where_115
  | 124 => some qM_where_124
  | 125 => some qM_where_125
  | 132 => some qM_where_132
  | _ => none
set_option maxRecDepth 100000 in
theorem bM_where_0 : zcode (mM_where) 0 qM_where_0 := zcode_of (by decide +kernel) (zoks_cons (And.intro rfl (by decide)) (zoks_cons rfl (zoks_cons rfl (zoks_cons (And.intro rfl kV55) (zoks_cons (And.intro rfl (by decide)) (zoks_cons rfl trivial))))))
set_option maxRecDepth 100000 in
theorem bM_where_8 : zcode (mM_where) 8 qM_where_8 := zcode_of (by decide +kernel) (zoks_cons rfl (zoks_cons rfl (zoks_cons (And.intro rfl kF30) (zoks_cons (And.intro rfl (by decide)) (zoks_cons rfl (zoks_cons (And.intro rfl kS4) (zoks_cons (And.intro rfl (by decide)) (zoks_cons (And.intro rfl (by decide)) (zoks_cons rfl (zoks_cons rfl (zoks_cons rfl (zoks_cons rfl (zoks_cons rfl (zoks_cons rfl (zoks_cons (And.intro rfl kF46) (zoks_cons rfl (zoks_cons (And.intro rfl rfl) (zoks_cons (And.intro rfl (by decide)) (zoks_cons rfl (zoks_cons (And.intro rfl kF43) (zoks_cons rfl (zoks_cons (And.intro rfl rfl) (zoks_cons rfl (zoks_cons (And.intro rfl kF31) (zoks_cons (And.intro rfl (by decide)) (zoks_cons (And.intro rfl (by decide)) (zoks_cons (And.intro rfl (by decide)) trivial)))))))))))))))))))))))))))
set_option maxRecDepth 100000 in
theorem bM_where_59 : zcode (mM_where) 59 qM_where_59 := zcode_of (by decide +kernel) (zoks_cons (And.intro rfl (by decide)) trivial)
set_option maxRecDepth 100000 in
theorem bM_where_60 : zcode (mM_where) 60 qM_where_60 := zcode_of (by decide +kernel) (zoks_cons rfl (zoks_cons (And.intro rfl (by decide)) (zoks_cons rfl trivial)))
set_option maxRecDepth 100000 in
theorem bM_where_65 : zcode (mM_where) 65 qM_where_65 := zcode_of (by decide +kernel) (zoks_cons rfl (zoks_cons rfl (zoks_cons (And.intro rfl kF31) (zoks_cons (And.intro rfl (by decide)) (zoks_cons rfl (zoks_cons (And.intro rfl (by decide)) (zoks_cons rfl (zoks_cons (And.intro rfl kF44) (zoks_cons (And.intro rfl (by decide)) (zoks_cons rfl (zoks_cons rfl (zoks_cons rfl (zoks_cons rfl (zoks_cons (And.intro rfl rfl) (zoks_cons rfl (zoks_cons (And.intro rfl kF32) (zoks_cons rfl (zoks_cons (And.intro rfl rfl) (zoks_cons (And.intro rfl (by decide)) (zoks_cons (And.intro rfl (by decide)) (zoks_cons (And.intro rfl (by decide)) trivial)))))))))))))))))))))
set_option maxRecDepth 100000 in
theorem bM_where_106 : zcode (mM_where) 106 qM_where_106 := zcode_of (by decide +kernel) (zoks_cons (And.intro rfl (by decide)) trivial)
set_option maxRecDepth 100000 in
theorem bM_where_107 : zcode (mM_where) 107 qM_where_107 := zcode_of (by decide +kernel) (zoks_cons rfl (zoks_cons (And.intro rfl (by decide)) (zoks_cons (And.intro rfl (by decide)) trivial)))
set_option maxRecDepth 100000 in
theorem bM_where_115 : zcode (mM_where) 115 qM_where_115 := zcode_of (by decide +kernel) (zoks_cons rfl (zoks_cons (And.intro rfl (by decide)) (zoks_cons rfl (zoks_cons (And.intro rfl (by decide)) trivial))))
set_option maxRecDepth 100000 in
theorem bM_where_124 : zcode (mM_where) 124 qM_where_124 := zcode_of (by decide +kernel) (zoks_cons rfl trivial)
set_option maxRecDepth 100000 in
theorem bM_where_125 : zcode (mM_where) 125 qM_where_125 := zcode_of (by decide +kernel) (zoks_cons rfl (zoks_cons (And.intro rfl (by decide)) (zoks_cons (And.intro rfl (by decide)) trivial)))
set_option maxRecDepth 100000 in
theorem bM_where_132 : zcode (mM_where) 132 qM_where_132 := zcode_of (by decide +kernel) (zoks_cons rfl (zoks_cons (And.intro rfl (by decide)) (zoks_cons (And.intro rfl (And.intro rfl (kP50 rfl))) (zoks_cons rfl (zoks_cons (And.intro rfl (Or.inl ⟨rfl, rfl⟩)) trivial)))))
theorem kM_where : zcd (mM_where) cdM_where := by
  intro a is h
  unfold cdM_where at h
  split at h
  · cases h; exact bM_where_0
  · cases h; exact bM_where_8
  · cases h; exact bM_where_59
  · cases h; exact bM_where_60
  · cases h; exact bM_where_65
  · cases h; exact bM_where_106
  · cases h; exact bM_where_107
  · cases h; exact bM_where_115
  · cases h; exact bM_where_124
  · cases h; exact bM_where_125
  · cases h; exact bM_where_132
  · cases h
def qM_head_0 : List zIns := [(.aload_n 0, 1, 0, 0, 0, 0, 0, z0), (.iload_n 1, 1, 0, 0, 0, 0, 0, z0), (.invokevirtual 128, 3, 1, 9, 0, 0, 0, mM_isFile), (.ifCond .ne (5), 3, 10, 0, 0, 0, 0, z0), (.iconst (-1), 1, 1, 0, 1, 0, 0, z0), (.ireturn, 1, 0, 0, 0, 0, 0, z0)]
def qM_head_10 : List zIns := [(.iconst (0), 1, 0, 0, 0, 0, 0, z0), (.istore_n 2, 1, 0, 0, 0, 0, 0, z0), (.iconst (0), 1, 0, 0, 0, 0, 0, z0), (.istore_n 3, 1, 0, 0, 0, 0, 0, z0)]
def qM_head_14 : List zIns := [(.iload_n 3, 1, 0, 0, 0, 0, 0, z0), (.aload_n 0, 1, 0, 0, 0, 0, 0, z0), (.getfield 188, 3, 9, 24, 0, 0, 0, z0), (.if_icmp .ge (27), 3, 46, 0, 0, 0, 0, z0), (.aload_n 0, 1, 0, 0, 0, 0, 0, z0), (.getfield 66, 3, 9, 25, 0, 0, 0, z0), (.iload_n 3, 1, 0, 0, 0, 0, 0, z0), (.iaload, 1, 0, 0, 0, 0, 0, z0), (.iload_n 1, 1, 0, 0, 0, 0, 0, z0), (.if_icmp .ne (9), 3, 38, 0, 0, 0, 0, z0), (.iload_n 2, 1, 0, 0, 0, 0, 0, z0), (.iconst (1), 1, 1, 0, 0, 0, 0, z0), (.iadd, 1, 0, 0, 0, 0, 0, z0), (.goto (4), 3, 39, 0, 0, 0, 0, z0)]
def qM_head_38 : List zIns := [(.iload_n 2, 1, 0, 0, 0, 0, 0, z0)]
def qM_head_39 : List zIns := [(.istore_n 2, 1, 0, 0, 0, 0, 0, z0), (.iinc 3 (1), 3, 1, 0, 0, 0, 0, z0), (.goto (-29), 3, 14, 0, 0, 0, 0, z0)]
def qM_head_46 : List zIns := [(.iload_n 2, 1, 0, 0, 0, 0, 0, z0), (.ireturn, 1, 0, 0, 0, 0, 0, z0)]
def cdM_head : zCd := fun a => match a with
  | 0 => some qM_head_0
  | 10 => some qM_head_10
  | 14 => some qM_head_14
  | 38 => some qM_head_38
  | 39 => some qM_head_39
  | 46 => some qM_head_46
  | _ => none
set_option maxRecDepth 100000 in
theorem bM_head_0 : zcode (mM_head) 0 qM_head_0 := zcode_of (by decide +kernel) (zoks_cons rfl (zoks_cons rfl (zoks_cons (And.intro rfl kV44) (zoks_cons (And.intro rfl (by decide)) (zoks_cons (And.intro rfl (by decide)) (zoks_cons (And.intro rfl (Or.inl ⟨rfl, rfl⟩)) trivial))))))
set_option maxRecDepth 100000 in
theorem bM_head_10 : zcode (mM_head) 10 qM_head_10 := zcode_of (by decide +kernel) (zoks_cons (And.intro rfl (by decide)) (zoks_cons rfl (zoks_cons (And.intro rfl (by decide)) (zoks_cons rfl trivial))))
set_option maxRecDepth 100000 in
theorem bM_head_14 : zcode (mM_head) 14 qM_head_14 := zcode_of (by decide +kernel) (zoks_cons rfl (zoks_cons rfl (zoks_cons (And.intro rfl kF47) (zoks_cons (And.intro rfl (by decide)) (zoks_cons rfl (zoks_cons (And.intro rfl kF48) (zoks_cons rfl (zoks_cons (And.intro rfl rfl) (zoks_cons rfl (zoks_cons (And.intro rfl (by decide)) (zoks_cons rfl (zoks_cons (And.intro rfl (by decide)) (zoks_cons rfl (zoks_cons (And.intro rfl (by decide)) trivial))))))))))))))
set_option maxRecDepth 100000 in
theorem bM_head_38 : zcode (mM_head) 38 qM_head_38 := zcode_of (by decide +kernel) (zoks_cons rfl trivial)
set_option maxRecDepth 100000 in
theorem bM_head_39 : zcode (mM_head) 39 qM_head_39 := zcode_of (by decide +kernel) (zoks_cons rfl (zoks_cons (And.intro rfl (by decide)) (zoks_cons (And.intro rfl (by decide)) trivial)))
set_option maxRecDepth 100000 in
theorem bM_head_46 : zcode (mM_head) 46 qM_head_46 := zcode_of (by decide +kernel) (zoks_cons rfl (zoks_cons (And.intro rfl (Or.inl ⟨rfl, rfl⟩)) trivial))
theorem kM_head : zcd (mM_head) cdM_head := by
  intro a is h
  unfold cdM_head at h
  split at h
  · cases h; exact bM_head_0
  · cases h; exact bM_head_10
  · cases h; exact bM_head_14
  · cases h; exact bM_head_38
  · cases h; exact bM_head_39
  · cases h; exact bM_head_46
  · cases h
def qM_row_0 : List zIns := [(.iconst (0), 1, 0, 0, 0, 0, 0, z0), (.istore_n 3, 1, 0, 0, 0, 0, 0, z0), (.iconst (0), 1, 0, 0, 0, 0, 0, z0), (.istore 4, 2, 0, 0, 0, 0, 0, z0)]
def qM_row_5 : List zIns := [(.iload 4, 2, 0, 0, 0, 0, 0, z0), (.aload_n 0, 1, 0, 0, 0, 0, 0, z0), (.getfield 188, 3, 9, 24, 0, 0, 0, z0), (.if_icmp .ge (47), 3, 58, 0, 0, 0, 0, z0), (.aload_n 0, 1, 0, 0, 0, 0, 0, z0), (.getfield 66, 3, 9, 25, 0, 0, 0, z0), (.iload 4, 2, 0, 0, 0, 0, 0, z0), (.iaload, 1, 0, 0, 0, 0, 0, z0), (.iload_n 1, 1, 0, 0, 0, 0, 0, z0), (.if_icmp .ne (9), 3, 31, 0, 0, 0, 0, z0), (.iload_n 3, 1, 0, 0, 0, 0, 0, z0), (.iconst (1), 1, 1, 0, 0, 0, 0, z0), (.iadd, 1, 0, 0, 0, 0, 0, z0), (.goto (4), 3, 32, 0, 0, 0, 0, z0)]
def qM_row_31 : List zIns := [(.iload_n 3, 1, 0, 0, 0, 0, 0, z0)]
def qM_row_32 : List zIns := [(.istore_n 3, 1, 0, 0, 0, 0, 0, z0), (.aload_n 0, 1, 0, 0, 0, 0, 0, z0), (.getfield 66, 3, 9, 25, 0, 0, 0, z0), (.iload 4, 2, 0, 0, 0, 0, 0, z0), (.iaload, 1, 0, 0, 0, 0, 0, z0), (.iload_n 1, 1, 0, 0, 0, 0, 0, z0), (.if_icmp .ne (11), 3, 52, 0, 0, 0, 0, z0), (.iload_n 3, 1, 0, 0, 0, 0, 0, z0), (.iload_n 2, 1, 0, 0, 0, 0, 0, z0), (.if_icmp .ne (6), 3, 52, 0, 0, 0, 0, z0), (.iload 4, 2, 0, 0, 0, 0, 0, z0), (.ireturn, 1, 0, 0, 0, 0, 0, z0)]
def qM_row_52 : List zIns := [(.iinc 4 (1), 3, 1, 0, 0, 0, 0, z0), (.goto (-50), 3, 5, 0, 0, 0, 0, z0)]
def qM_row_58 : List zIns := [(.iconst (-1), 1, 1, 0, 1, 0, 0, z0), (.ireturn, 1, 0, 0, 0, 0, 0, z0)]
def cdM_row : zCd := fun a => match a with
  | 0 => some qM_row_0
  | 5 => some qM_row_5
  | 31 => some qM_row_31
  | 32 => some qM_row_32
  | 52 => some qM_row_52
  | 58 => some qM_row_58
  | _ => none
set_option maxRecDepth 100000 in
theorem bM_row_0 : zcode (mM_row) 0 qM_row_0 := zcode_of (by decide +kernel) (zoks_cons (And.intro rfl (by decide)) (zoks_cons rfl (zoks_cons (And.intro rfl (by decide)) (zoks_cons rfl trivial))))
set_option maxRecDepth 100000 in
theorem bM_row_5 : zcode (mM_row) 5 qM_row_5 := zcode_of (by decide +kernel) (zoks_cons rfl (zoks_cons rfl (zoks_cons (And.intro rfl kF47) (zoks_cons (And.intro rfl (by decide)) (zoks_cons rfl (zoks_cons (And.intro rfl kF48) (zoks_cons rfl (zoks_cons (And.intro rfl rfl) (zoks_cons rfl (zoks_cons (And.intro rfl (by decide)) (zoks_cons rfl (zoks_cons (And.intro rfl (by decide)) (zoks_cons rfl (zoks_cons (And.intro rfl (by decide)) trivial))))))))))))))
set_option maxRecDepth 100000 in
theorem bM_row_31 : zcode (mM_row) 31 qM_row_31 := zcode_of (by decide +kernel) (zoks_cons rfl trivial)
set_option maxRecDepth 100000 in
theorem bM_row_32 : zcode (mM_row) 32 qM_row_32 := zcode_of (by decide +kernel) (zoks_cons rfl (zoks_cons rfl (zoks_cons (And.intro rfl kF48) (zoks_cons rfl (zoks_cons (And.intro rfl rfl) (zoks_cons rfl (zoks_cons (And.intro rfl (by decide)) (zoks_cons rfl (zoks_cons rfl (zoks_cons (And.intro rfl (by decide)) (zoks_cons rfl (zoks_cons (And.intro rfl (Or.inl ⟨rfl, rfl⟩)) trivial))))))))))))
set_option maxRecDepth 100000 in
theorem bM_row_52 : zcode (mM_row) 52 qM_row_52 := zcode_of (by decide +kernel) (zoks_cons (And.intro rfl (by decide)) (zoks_cons (And.intro rfl (by decide)) trivial))
set_option maxRecDepth 100000 in
theorem bM_row_58 : zcode (mM_row) 58 qM_row_58 := zcode_of (by decide +kernel) (zoks_cons (And.intro rfl (by decide)) (zoks_cons (And.intro rfl (Or.inl ⟨rfl, rfl⟩)) trivial))
theorem kM_row : zcd (mM_row) cdM_row := by
  intro a is h
  unfold cdM_row at h
  split at h
  · cases h; exact bM_row_0
  · cases h; exact bM_row_5
  · cases h; exact bM_row_31
  · cases h; exact bM_row_32
  · cases h; exact bM_row_52
  · cases h; exact bM_row_58
  · cases h
def qM_content_0 : List zIns := [(.aload_n 0, 1, 0, 0, 0, 0, 0, z0), (.iload_n 1, 1, 0, 0, 0, 0, 0, z0), (.iload_n 2, 1, 0, 0, 0, 0, 0, z0), (.invokevirtual 191, 3, 2, 9, 0, 0, 0, mM_row), (.istore_n 3, 1, 0, 0, 0, 0, 0, z0), (.iload_n 3, 1, 0, 0, 0, 0, 0, z0), (.ifCond .lt (12), 3, 20, 0, 0, 0, 0, z0), (.aload_n 0, 1, 0, 0, 0, 0, 0, z0), (.getfield 75, 3, 9, 28, 0, 0, 0, z0), (.iload_n 3, 1, 0, 0, 0, 0, 0, z0), (.baload, 1, 2, 0, 0, 0, 0, z0), (.ifCond .eq (7), 3, 24, 0, 0, 0, 0, z0)]
def qM_content_20 : List zIns := [(.iconst (0), 1, 0, 0, 0, 0, 0, z0), (.goto (9), 3, 30, 0, 0, 0, 0, z0)]
def qM_content_24 : List zIns := [(.aload_n 0, 1, 0, 0, 0, 0, 0, z0), (.getfield 72, 3, 9, 27, 0, 0, 0, z0), (.iload_n 3, 1, 0, 0, 0, 0, 0, z0), (.iaload, 1, 0, 0, 0, 0, 0, z0)]
def qM_content_30 : List zIns := [(.ireturn, 1, 0, 0, 0, 0, 0, z0)]
def cdM_content : zCd := fun a => match a with
  | 0 => some qM_content_0
  | 20 => some qM_content_20
  | 24 => some qM_content_24
  | 30 => some qM_content_30
  | _ => none
set_option maxRecDepth 100000 in
theorem bM_content_0 : zcode (mM_content) 0 qM_content_0 := zcode_of (by decide +kernel) (zoks_cons rfl (zoks_cons rfl (zoks_cons rfl (zoks_cons (And.intro rfl kV56) (zoks_cons rfl (zoks_cons rfl (zoks_cons (And.intro rfl (by decide)) (zoks_cons rfl (zoks_cons (And.intro rfl kF49) (zoks_cons rfl (zoks_cons (And.intro rfl rfl) (zoks_cons (And.intro rfl (by decide)) trivial))))))))))))
set_option maxRecDepth 100000 in
theorem bM_content_20 : zcode (mM_content) 20 qM_content_20 := zcode_of (by decide +kernel) (zoks_cons (And.intro rfl (by decide)) (zoks_cons (And.intro rfl (by decide)) trivial))
set_option maxRecDepth 100000 in
theorem bM_content_24 : zcode (mM_content) 24 qM_content_24 := zcode_of (by decide +kernel) (zoks_cons rfl (zoks_cons (And.intro rfl kF50) (zoks_cons rfl (zoks_cons (And.intro rfl rfl) trivial))))
set_option maxRecDepth 100000 in
theorem bM_content_30 : zcode (mM_content) 30 qM_content_30 := zcode_of (by decide +kernel) (zoks_cons (And.intro rfl (Or.inl ⟨rfl, rfl⟩)) trivial)
theorem kM_content : zcd (mM_content) cdM_content := by
  intro a is h
  unfold cdM_content at h
  split at h
  · cases h; exact bM_content_0
  · cases h; exact bM_content_20
  · cases h; exact bM_content_24
  · cases h; exact bM_content_30
  · cases h
def qM_gone_0 : List zIns := [(.aload_n 0, 1, 0, 0, 0, 0, 0, z0), (.iload_n 1, 1, 0, 0, 0, 0, 0, z0), (.aload_n 0, 1, 0, 0, 0, 0, 0, z0), (.iload_n 1, 1, 0, 0, 0, 0, 0, z0), (.invokevirtual 194, 3, 1, 9, 0, 0, 0, mM_head), (.invokevirtual 191, 3, 2, 9, 0, 0, 0, mM_row), (.istore_n 2, 1, 0, 0, 0, 0, 0, z0), (.iload_n 2, 1, 0, 0, 0, 0, 0, z0), (.ifCond .lt (12), 3, 24, 0, 0, 0, 0, z0), (.aload_n 0, 1, 0, 0, 0, 0, 0, z0), (.getfield 75, 3, 9, 28, 0, 0, 0, z0), (.iload_n 2, 1, 0, 0, 0, 0, 0, z0), (.baload, 1, 2, 0, 0, 0, 0, z0), (.ifCond .eq (7), 3, 28, 0, 0, 0, 0, z0)]
def qM_gone_24 : List zIns := [(.iconst (1), 1, 1, 0, 0, 0, 0, z0), (.goto (4), 3, 29, 0, 0, 0, 0, z0)]
def qM_gone_28 : List zIns := [(.iconst (0), 1, 0, 0, 0, 0, 0, z0)]
def qM_gone_29 : List zIns := [(.ireturn, 1, 0, 0, 1, 0, 0, z0)]
def cdM_gone : zCd := fun a => match a with
  | 0 => some qM_gone_0
  | 24 => some qM_gone_24
  | 28 => some qM_gone_28
  | 29 => some qM_gone_29
  | _ => none
set_option maxRecDepth 100000 in
theorem bM_gone_0 : zcode (mM_gone) 0 qM_gone_0 := zcode_of (by decide +kernel) (zoks_cons rfl (zoks_cons rfl (zoks_cons rfl (zoks_cons rfl (zoks_cons (And.intro rfl kV57) (zoks_cons (And.intro rfl kV56) (zoks_cons rfl (zoks_cons rfl (zoks_cons (And.intro rfl (by decide)) (zoks_cons rfl (zoks_cons (And.intro rfl kF49) (zoks_cons rfl (zoks_cons (And.intro rfl rfl) (zoks_cons (And.intro rfl (by decide)) trivial))))))))))))))
set_option maxRecDepth 100000 in
theorem bM_gone_24 : zcode (mM_gone) 24 qM_gone_24 := zcode_of (by decide +kernel) (zoks_cons (And.intro rfl (by decide)) (zoks_cons (And.intro rfl (by decide)) trivial))
set_option maxRecDepth 100000 in
theorem bM_gone_28 : zcode (mM_gone) 28 qM_gone_28 := zcode_of (by decide +kernel) (zoks_cons (And.intro rfl (by decide)) trivial)
set_option maxRecDepth 100000 in
theorem bM_gone_29 : zcode (mM_gone) 29 qM_gone_29 := zcode_of (by decide +kernel) (zoks_cons (And.intro rfl (Or.inr (Or.inl ⟨rfl, rfl⟩))) trivial)
theorem kM_gone : zcd (mM_gone) cdM_gone := by
  intro a is h
  unfold cdM_gone at h
  split at h
  · cases h; exact bM_gone_0
  · cases h; exact bM_gone_24
  · cases h; exact bM_gone_28
  · cases h; exact bM_gone_29
  · cases h
def qM_exclusive_0 : List zIns := [(.aload_n 0, 1, 0, 0, 0, 0, 0, z0), (.iload_n 1, 1, 0, 0, 0, 0, 0, z0), (.aload_n 0, 1, 0, 0, 0, 0, 0, z0), (.iload_n 1, 1, 0, 0, 0, 0, 0, z0), (.invokevirtual 194, 3, 1, 9, 0, 0, 0, mM_head), (.invokevirtual 191, 3, 2, 9, 0, 0, 0, mM_row), (.istore_n 2, 1, 0, 0, 0, 0, 0, z0), (.iload_n 2, 1, 0, 0, 0, 0, 0, z0), (.ifCond .lt (16), 3, 28, 0, 0, 0, 0, z0), (.aload_n 0, 1, 0, 0, 0, 0, 0, z0), (.getfield 78, 3, 9, 29, 0, 0, 0, z0), (.iload_n 2, 1, 0, 0, 0, 0, 0, z0), (.baload, 1, 2, 0, 0, 0, 0, z0), (.ifCond .eq (7), 3, 28, 0, 0, 0, 0, z0), (.iconst (1), 1, 1, 0, 0, 0, 0, z0), (.goto (4), 3, 29, 0, 0, 0, 0, z0)]
def qM_exclusive_28 : List zIns := [(.iconst (0), 1, 0, 0, 0, 0, 0, z0)]
def qM_exclusive_29 : List zIns := [(.ireturn, 1, 0, 0, 1, 0, 0, z0)]
def cdM_exclusive : zCd := fun a => match a with
  | 0 => some qM_exclusive_0
  | 28 => some qM_exclusive_28
  | 29 => some qM_exclusive_29
  | _ => none
set_option maxRecDepth 100000 in
theorem bM_exclusive_0 : zcode (mM_exclusive) 0 qM_exclusive_0 := zcode_of (by decide +kernel) (zoks_cons rfl (zoks_cons rfl (zoks_cons rfl (zoks_cons rfl (zoks_cons (And.intro rfl kV57) (zoks_cons (And.intro rfl kV56) (zoks_cons rfl (zoks_cons rfl (zoks_cons (And.intro rfl (by decide)) (zoks_cons rfl (zoks_cons (And.intro rfl kF51) (zoks_cons rfl (zoks_cons (And.intro rfl rfl) (zoks_cons (And.intro rfl (by decide)) (zoks_cons (And.intro rfl (by decide)) (zoks_cons (And.intro rfl (by decide)) trivial))))))))))))))))
set_option maxRecDepth 100000 in
theorem bM_exclusive_28 : zcode (mM_exclusive) 28 qM_exclusive_28 := zcode_of (by decide +kernel) (zoks_cons (And.intro rfl (by decide)) trivial)
set_option maxRecDepth 100000 in
theorem bM_exclusive_29 : zcode (mM_exclusive) 29 qM_exclusive_29 := zcode_of (by decide +kernel) (zoks_cons (And.intro rfl (Or.inr (Or.inl ⟨rfl, rfl⟩))) trivial)
theorem kM_exclusive : zcd (mM_exclusive) cdM_exclusive := by
  intro a is h
  unfold cdM_exclusive at h
  split at h
  · cases h; exact bM_exclusive_0
  · cases h; exact bM_exclusive_28
  · cases h; exact bM_exclusive_29
  · cases h
def qM_revision_0 : List zIns := [(.aload_n 0, 1, 0, 0, 0, 0, 0, z0), (.iload_n 1, 1, 0, 0, 0, 0, 0, z0), (.invokevirtual 128, 3, 1, 9, 0, 0, 0, mM_isFile), (.ifCond .eq (12), 3, 17, 0, 0, 0, 0, z0), (.aload_n 0, 1, 0, 0, 0, 0, 0, z0), (.iload_n 1, 1, 0, 0, 0, 0, 0, z0), (.iload_n 2, 1, 0, 0, 0, 0, 0, z0), (.invokevirtual 191, 3, 2, 9, 0, 0, 0, mM_row), (.goto (4), 3, 18, 0, 0, 0, 0, z0)]
def qM_revision_17 : List zIns := [(.iconst (-1), 1, 1, 0, 1, 0, 0, z0)]
def qM_revision_18 : List zIns := [(.istore 4, 2, 0, 0, 0, 0, 0, z0), (.iload 4, 2, 0, 0, 0, 0, 0, z0), (.ifCond .lt (12), 3, 34, 0, 0, 0, 0, z0), (.iload_n 3, 1, 0, 0, 0, 0, 0, z0), (.ifCond .lt (8), 3, 34, 0, 0, 0, 0, z0), (.iload_n 3, 1, 0, 0, 0, 0, 0, z0), (.iconst (3), 1, 3, 0, 0, 0, 0, z0), (.if_icmp .le (5), 3, 36, 0, 0, 0, 0, z0)]
def qM_revision_34 : List zIns := [(.iconst (-1), 1, 1, 0, 1, 0, 0, z0), (.ireturn, 1, 0, 0, 0, 0, 0, z0)]
def qM_revision_36 : List zIns := [(.iload_n 3, 1, 0, 0, 0, 0, 0, z0), (.iconst (2), 1, 2, 0, 0, 0, 0, z0), (.if_icmp .ne (13), 3, 51, 0, 0, 0, 0, z0), (.aload_n 0, 1, 0, 0, 0, 0, 0, z0), (.getfield 75, 3, 9, 28, 0, 0, 0, z0), (.iload 4, 2, 0, 0, 0, 0, 0, z0), (.baload, 1, 2, 0, 0, 0, 0, z0), (.goto (10), 3, 58, 0, 0, 0, 0, z0)]
def qM_revision_51 : List zIns := [(.aload_n 0, 1, 0, 0, 0, 0, 0, z0), (.getfield 78, 3, 9, 29, 0, 0, 0, z0), (.iload 4, 2, 0, 0, 0, 0, 0, z0), (.baload, 1, 2, 0, 0, 0, 0, z0)]
def qM_revision_58 : List zIns := [(.istore 5, 2, 0, 0, 0, 0, 0, z0), (.iload_n 3, 1, 0, 0, 0, 0, 0, z0), (.ifCond .ne (13), 3, 74, 0, 0, 0, 0, z0), (.aload_n 0, 1, 0, 0, 0, 0, 0, z0), (.getfield 69, 3, 9, 26, 0, 0, 0, z0), (.iload 4, 2, 0, 0, 0, 0, 0, z0), (.iaload, 1, 0, 0, 0, 0, 0, z0), (.goto (27), 3, 98, 0, 0, 0, 0, z0)]
def qM_revision_74 : List zIns := [(.iload_n 3, 1, 0, 0, 0, 0, 0, z0), (.iconst (1), 1, 1, 0, 0, 0, 0, z0), (.if_icmp .ne (12), 3, 88, 0, 0, 0, 0, z0), (.aload_n 0, 1, 0, 0, 0, 0, 0, z0), (.iload_n 1, 1, 0, 0, 0, 0, 0, z0), (.iload_n 2, 1, 0, 0, 0, 0, 0, z0), (.invokevirtual 198, 3, 2, 9, 0, 0, 0, mM_content), (.goto (13), 3, 98, 0, 0, 0, 0, z0)]
def qM_revision_88 : List zIns := [(.iload 5, 2, 0, 0, 0, 0, 0, z0), (.ifCond .eq (7), 3, 97, 0, 0, 0, 0, z0), (.iconst (1), 1, 1, 0, 0, 0, 0, z0), (.goto (4), 3, 98, 0, 0, 0, 0, z0)]
def qM_revision_97 : List zIns := [(.iconst (0), 1, 0, 0, 0, 0, 0, z0)]
def qM_revision_98 : List zIns := [(.ireturn, 1, 0, 0, 0, 0, 0, z0)]
def cdM_revision : zCd := fun a => match a with
  | 0 => some qM_revision_0
  | 17 => some qM_revision_17
  | 18 => some qM_revision_18
  | 34 => some qM_revision_34
  | 36 => some qM_revision_36
  | 51 => some qM_revision_51
  | 58 => some qM_revision_58
  | 74 => some qM_revision_74
  | 88 => some qM_revision_88
  | 97 => some qM_revision_97
  | 98 => some qM_revision_98
  | _ => none
set_option maxRecDepth 100000 in
theorem bM_revision_0 : zcode (mM_revision) 0 qM_revision_0 := zcode_of (by decide +kernel) (zoks_cons rfl (zoks_cons rfl (zoks_cons (And.intro rfl kV44) (zoks_cons (And.intro rfl (by decide)) (zoks_cons rfl (zoks_cons rfl (zoks_cons rfl (zoks_cons (And.intro rfl kV56) (zoks_cons (And.intro rfl (by decide)) trivial)))))))))
set_option maxRecDepth 100000 in
theorem bM_revision_17 : zcode (mM_revision) 17 qM_revision_17 := zcode_of (by decide +kernel) (zoks_cons (And.intro rfl (by decide)) trivial)
set_option maxRecDepth 100000 in
theorem bM_revision_18 : zcode (mM_revision) 18 qM_revision_18 := zcode_of (by decide +kernel) (zoks_cons rfl (zoks_cons rfl (zoks_cons (And.intro rfl (by decide)) (zoks_cons rfl (zoks_cons (And.intro rfl (by decide)) (zoks_cons rfl (zoks_cons (And.intro rfl (by decide)) (zoks_cons (And.intro rfl (by decide)) trivial))))))))
set_option maxRecDepth 100000 in
theorem bM_revision_34 : zcode (mM_revision) 34 qM_revision_34 := zcode_of (by decide +kernel) (zoks_cons (And.intro rfl (by decide)) (zoks_cons (And.intro rfl (Or.inl ⟨rfl, rfl⟩)) trivial))
set_option maxRecDepth 100000 in
theorem bM_revision_36 : zcode (mM_revision) 36 qM_revision_36 := zcode_of (by decide +kernel) (zoks_cons rfl (zoks_cons (And.intro rfl (by decide)) (zoks_cons (And.intro rfl (by decide)) (zoks_cons rfl (zoks_cons (And.intro rfl kF49) (zoks_cons rfl (zoks_cons (And.intro rfl rfl) (zoks_cons (And.intro rfl (by decide)) trivial))))))))
set_option maxRecDepth 100000 in
theorem bM_revision_51 : zcode (mM_revision) 51 qM_revision_51 := zcode_of (by decide +kernel) (zoks_cons rfl (zoks_cons (And.intro rfl kF51) (zoks_cons rfl (zoks_cons (And.intro rfl rfl) trivial))))
set_option maxRecDepth 100000 in
theorem bM_revision_58 : zcode (mM_revision) 58 qM_revision_58 := zcode_of (by decide +kernel) (zoks_cons rfl (zoks_cons rfl (zoks_cons (And.intro rfl (by decide)) (zoks_cons rfl (zoks_cons (And.intro rfl kF52) (zoks_cons rfl (zoks_cons (And.intro rfl rfl) (zoks_cons (And.intro rfl (by decide)) trivial))))))))
set_option maxRecDepth 100000 in
theorem bM_revision_74 : zcode (mM_revision) 74 qM_revision_74 := zcode_of (by decide +kernel) (zoks_cons rfl (zoks_cons (And.intro rfl (by decide)) (zoks_cons (And.intro rfl (by decide)) (zoks_cons rfl (zoks_cons rfl (zoks_cons rfl (zoks_cons (And.intro rfl kV58) (zoks_cons (And.intro rfl (by decide)) trivial))))))))
set_option maxRecDepth 100000 in
theorem bM_revision_88 : zcode (mM_revision) 88 qM_revision_88 := zcode_of (by decide +kernel) (zoks_cons rfl (zoks_cons (And.intro rfl (by decide)) (zoks_cons (And.intro rfl (by decide)) (zoks_cons (And.intro rfl (by decide)) trivial))))
set_option maxRecDepth 100000 in
theorem bM_revision_97 : zcode (mM_revision) 97 qM_revision_97 := zcode_of (by decide +kernel) (zoks_cons (And.intro rfl (by decide)) trivial)
set_option maxRecDepth 100000 in
theorem bM_revision_98 : zcode (mM_revision) 98 qM_revision_98 := zcode_of (by decide +kernel) (zoks_cons (And.intro rfl (Or.inl ⟨rfl, rfl⟩)) trivial)
theorem kM_revision : zcd (mM_revision) cdM_revision := by
  intro a is h
  unfold cdM_revision at h
  split at h
  · cases h; exact bM_revision_0
  · cases h; exact bM_revision_17
  · cases h; exact bM_revision_18
  · cases h; exact bM_revision_34
  · cases h; exact bM_revision_36
  · cases h; exact bM_revision_51
  · cases h; exact bM_revision_58
  · cases h; exact bM_revision_74
  · cases h; exact bM_revision_88
  · cases h; exact bM_revision_97
  · cases h; exact bM_revision_98
  · cases h
def qM_hindered_0 : List zIns := [(.iconst (0), 1, 0, 0, 0, 0, 0, z0), (.istore 4, 2, 0, 0, 0, 0, 0, z0), (.iconst (0), 1, 0, 0, 0, 0, 0, z0), (.istore 5, 2, 0, 0, 0, 0, 0, z0)]
def qM_hindered_6 : List zIns := [(.iload 5, 2, 0, 0, 0, 0, 0, z0), (.iconst (3), 1, 3, 0, 0, 0, 0, z0), (.if_icmp .ge (79), 3, 88, 0, 0, 0, 0, z0), (.bipush (12), 2, 12, 0, 0, 0, 0, z0), (.iload 5, 2, 0, 0, 0, 0, 0, z0), (.imul, 1, 0, 0, 0, 0, 0, z0), (.iload_n 2, 1, 0, 0, 0, 0, 0, z0), (.iadd, 1, 0, 0, 0, 0, 0, z0), (.istore 6, 2, 0, 0, 0, 0, 0, z0), (.iload 4, 2, 0, 0, 0, 0, 0, z0), (.ifCond .ne (52), 3, 75, 0, 0, 0, 0, z0), (.iload 5, 2, 0, 0, 0, 0, 0, z0), (.iload_n 1, 1, 0, 0, 0, 0, 0, z0), (.if_icmp .eq (50), 3, 79, 0, 0, 0, 0, z0), (.aload_n 0, 1, 0, 0, 0, 0, 0, z0), (.getfield 90, 3, 9, 35, 0, 0, 0, z0), (.iload 6, 2, 0, 0, 0, 0, 0, z0), (.iaload, 1, 0, 0, 0, 0, 0, z0), (.ifCond .le (40), 3, 79, 0, 0, 0, 0, z0), (.aload_n 0, 1, 0, 0, 0, 0, 0, z0), (.iload_n 2, 1, 0, 0, 0, 0, 0, z0), (.invokevirtual 201, 3, 1, 9, 0, 0, 0, mM_exclusive), (.ifCond .ne (28), 3, 75, 0, 0, 0, 0, z0), (.iload_n 3, 1, 0, 0, 0, 0, 0, z0), (.ifCond .ne (24), 3, 75, 0, 0, 0, 0, z0), (.aload_n 0, 1, 0, 0, 0, 0, 0, z0), (.getfield 90, 3, 9, 35, 0, 0, 0, z0), (.iload 6, 2, 0, 0, 0, 0, 0, z0), (.iaload, 1, 0, 0, 0, 0, 0, z0), (.iconst (1), 1, 1, 0, 0, 0, 0, z0), (.if_icmp .ne (17), 3, 79, 0, 0, 0, 0, z0), (.aload_n 0, 1, 0, 0, 0, 0, 0, z0), (.getfield 99, 3, 9, 38, 0, 0, 0, z0), (.iload 6, 2, 0, 0, 0, 0, 0, z0), (.baload, 1, 2, 0, 0, 0, 0, z0), (.ifCond .eq (7), 3, 79, 0, 0, 0, 0, z0)]
def qM_hindered_75 : List zIns := [(.iconst (1), 1, 1, 0, 0, 0, 0, z0), (.goto (4), 3, 80, 0, 0, 0, 0, z0)]
def qM_hindered_79 : List zIns := [(.iconst (0), 1, 0, 0, 0, 0, 0, z0)]
def qM_hindered_80 : List zIns := [(.istore 4, 2, 0, 0, 0, 0, 0, z0), (.iinc 5 (1), 3, 1, 0, 0, 0, 0, z0), (.goto (-79), 3, 6, 0, 0, 0, 0, z0)]
def qM_hindered_88 : List zIns := [(.iload 4, 2, 0, 0, 0, 0, 0, z0), (.ireturn, 1, 0, 0, 1, 0, 0, z0)]
def cdM_hindered : zCd := fun a => match a with
  | 0 => some qM_hindered_0
  | 6 => some qM_hindered_6
  | 75 => some qM_hindered_75
  | 79 => some qM_hindered_79
  | 80 => some qM_hindered_80
  | 88 => some qM_hindered_88
  | _ => none
set_option maxRecDepth 100000 in
theorem bM_hindered_0 : zcode (mM_hindered) 0 qM_hindered_0 := zcode_of (by decide +kernel) (zoks_cons (And.intro rfl (by decide)) (zoks_cons rfl (zoks_cons (And.intro rfl (by decide)) (zoks_cons rfl trivial))))
set_option maxRecDepth 100000 in
theorem bM_hindered_6 : zcode (mM_hindered) 6 qM_hindered_6 := zcode_of (by decide +kernel) (zoks_cons rfl (zoks_cons (And.intro rfl (by decide)) (zoks_cons (And.intro rfl (by decide)) (zoks_cons (And.intro rfl (by decide)) (zoks_cons rfl (zoks_cons rfl (zoks_cons rfl (zoks_cons rfl (zoks_cons rfl (zoks_cons rfl (zoks_cons (And.intro rfl (by decide)) (zoks_cons rfl (zoks_cons rfl (zoks_cons (And.intro rfl (by decide)) (zoks_cons rfl (zoks_cons (And.intro rfl kF53) (zoks_cons rfl (zoks_cons (And.intro rfl rfl) (zoks_cons (And.intro rfl (by decide)) (zoks_cons rfl (zoks_cons rfl (zoks_cons (And.intro rfl kV59) (zoks_cons (And.intro rfl (by decide)) (zoks_cons rfl (zoks_cons (And.intro rfl (by decide)) (zoks_cons rfl (zoks_cons (And.intro rfl kF53) (zoks_cons rfl (zoks_cons (And.intro rfl rfl) (zoks_cons (And.intro rfl (by decide)) (zoks_cons (And.intro rfl (by decide)) (zoks_cons rfl (zoks_cons (And.intro rfl kF54) (zoks_cons rfl (zoks_cons (And.intro rfl rfl) (zoks_cons (And.intro rfl (by decide)) trivial))))))))))))))))))))))))))))))))))))
set_option maxRecDepth 100000 in
theorem bM_hindered_75 : zcode (mM_hindered) 75 qM_hindered_75 := zcode_of (by decide +kernel) (zoks_cons (And.intro rfl (by decide)) (zoks_cons (And.intro rfl (by decide)) trivial))
set_option maxRecDepth 100000 in
theorem bM_hindered_79 : zcode (mM_hindered) 79 qM_hindered_79 := zcode_of (by decide +kernel) (zoks_cons (And.intro rfl (by decide)) trivial)
set_option maxRecDepth 100000 in
theorem bM_hindered_80 : zcode (mM_hindered) 80 qM_hindered_80 := zcode_of (by decide +kernel) (zoks_cons rfl (zoks_cons (And.intro rfl (by decide)) (zoks_cons (And.intro rfl (by decide)) trivial)))
set_option maxRecDepth 100000 in
theorem bM_hindered_88 : zcode (mM_hindered) 88 qM_hindered_88 := zcode_of (by decide +kernel) (zoks_cons rfl (zoks_cons (And.intro rfl (Or.inr (Or.inl ⟨rfl, rfl⟩))) trivial))
theorem kM_hindered : zcd (mM_hindered) cdM_hindered := by
  intro a is h
  unfold cdM_hindered at h
  split at h
  · cases h; exact bM_hindered_0
  · cases h; exact bM_hindered_6
  · cases h; exact bM_hindered_75
  · cases h; exact bM_hindered_79
  · cases h; exact bM_hindered_80
  · cases h; exact bM_hindered_88
  · cases h
def qM_note_0 : List zIns := [(.aload_n 0, 1, 0, 0, 0, 0, 0, z0), (.getfield 48, 3, 9, 18, 0, 0, 0, z0), (.aload_n 0, 1, 0, 0, 0, 0, 0, z0), (.getfield 204, 3, 9, 16, 0, 0, 0, z0), (.iload_n 1, 1, 0, 0, 0, 0, 0, z0), (.iastore, 1, 0, 0, 0, 0, 0, z0), (.aload_n 0, 1, 0, 0, 0, 0, 0, z0), (.getfield 51, 3, 9, 19, 0, 0, 0, z0), (.aload_n 0, 1, 0, 0, 0, 0, 0, z0), (.getfield 204, 3, 9, 16, 0, 0, 0, z0), (.iload_n 2, 1, 0, 0, 0, 0, 0, z0), (.iastore, 1, 0, 0, 0, 0, 0, z0), (.aload_n 0, 1, 0, 0, 0, 0, 0, z0), (.getfield 54, 3, 9, 20, 0, 0, 0, z0), (.aload_n 0, 1, 0, 0, 0, 0, 0, z0), (.getfield 204, 3, 9, 16, 0, 0, 0, z0), (.iload_n 3, 1, 0, 0, 0, 0, 0, z0), (.iastore, 1, 0, 0, 0, 0, 0, z0), (.aload_n 0, 1, 0, 0, 0, 0, 0, z0), (.getfield 57, 3, 9, 21, 0, 0, 0, z0), (.aload_n 0, 1, 0, 0, 0, 0, 0, z0), (.getfield 204, 3, 9, 16, 0, 0, 0, z0), (.iload 4, 2, 0, 0, 0, 0, 0, z0), (.iastore, 1, 0, 0, 0, 0, 0, z0), (.aload_n 0, 1, 0, 0, 0, 0, 0, z0), (.getfield 60, 3, 9, 22, 0, 0, 0, z0), (.aload_n 0, 1, 0, 0, 0, 0, 0, z0), (.getfield 204, 3, 9, 16, 0, 0, 0, z0), (.iload 5, 2, 0, 0, 0, 0, 0, z0), (.iastore, 1, 0, 0, 0, 0, 0, z0), (.aload_n 0, 1, 0, 0, 0, 0, 0, z0), (.dup, 1, 0, 0, 0, 0, 0, z0), (.getfield 204, 3, 9, 16, 0, 0, 0, z0), (.iconst (1), 1, 1, 0, 0, 0, 0, z0), (.iadd, 1, 0, 0, 0, 0, 0, z0), (.putfield 204, 3, 9, 16, 0, 0, 0, z0), (.aload_n 0, 1, 0, 0, 0, 0, 0, z0), (.aload_n 0, 1, 0, 0, 0, 0, 0, z0), (.getfield 207, 3, 9, 17, 0, 0, 0, z0), (.bipush (8), 2, 8, 0, 0, 0, 0, z0), (.if_icmp .ge (12), 3, 81, 0, 0, 0, 0, z0), (.aload_n 0, 1, 0, 0, 0, 0, 0, z0), (.getfield 207, 3, 9, 17, 0, 0, 0, z0), (.iconst (1), 1, 1, 0, 0, 0, 0, z0), (.iadd, 1, 0, 0, 0, 0, 0, z0), (.goto (5), 3, 83, 0, 0, 0, 0, z0)]
def qM_note_81 : List zIns := [(.bipush (8), 2, 8, 0, 0, 0, 0, z0)]
def qM_note_83 : List zIns := [(.putfield 207, 3, 9, 17, 0, 0, 0, z0), (.return_, 1, 0, 0, 0, 0, 0, z0)]
def cdM_note : zCd := fun a => match a with
  | 0 => some qM_note_0
  | 81 => some qM_note_81
  | 83 => some qM_note_83
  | _ => none
set_option maxRecDepth 100000 in
theorem bM_note_0 : zcode (mM_note) 0 qM_note_0 := zcode_of (by decide +kernel) (zoks_cons rfl (zoks_cons (And.intro rfl kF55) (zoks_cons rfl (zoks_cons (And.intro rfl kF56) (zoks_cons rfl (zoks_cons (And.intro rfl rfl) (zoks_cons rfl (zoks_cons (And.intro rfl kF57) (zoks_cons rfl (zoks_cons (And.intro rfl kF56) (zoks_cons rfl (zoks_cons (And.intro rfl rfl) (zoks_cons rfl (zoks_cons (And.intro rfl kF58) (zoks_cons rfl (zoks_cons (And.intro rfl kF56) (zoks_cons rfl (zoks_cons (And.intro rfl rfl) (zoks_cons rfl (zoks_cons (And.intro rfl kF59) (zoks_cons rfl (zoks_cons (And.intro rfl kF56) (zoks_cons rfl (zoks_cons (And.intro rfl rfl) (zoks_cons rfl (zoks_cons (And.intro rfl kF60) (zoks_cons rfl (zoks_cons (And.intro rfl kF56) (zoks_cons rfl (zoks_cons (And.intro rfl rfl) (zoks_cons rfl (zoks_cons rfl (zoks_cons (And.intro rfl kF56) (zoks_cons (And.intro rfl (by decide)) (zoks_cons rfl (zoks_cons (And.intro rfl (And.intro rfl (kP54 rfl))) (zoks_cons rfl (zoks_cons rfl (zoks_cons (And.intro rfl kF61) (zoks_cons (And.intro rfl (by decide)) (zoks_cons (And.intro rfl (by decide)) (zoks_cons rfl (zoks_cons (And.intro rfl kF61) (zoks_cons (And.intro rfl (by decide)) (zoks_cons rfl (zoks_cons (And.intro rfl (by decide)) trivial))))))))))))))))))))))))))))))))))))))))))))))
set_option maxRecDepth 100000 in
theorem bM_note_81 : zcode (mM_note) 81 qM_note_81 := zcode_of (by decide +kernel) (zoks_cons (And.intro rfl (by decide)) trivial)
set_option maxRecDepth 100000 in
theorem bM_note_83 : zcode (mM_note) 83 qM_note_83 := zcode_of (by decide +kernel) (zoks_cons (And.intro rfl (And.intro rfl (kP55 rfl))) (zoks_cons (And.intro rfl rfl) trivial))
theorem kM_note : zcd (mM_note) cdM_note := by
  intro a is h
  unfold cdM_note at h
  split at h
  · cases h; exact bM_note_0
  · cases h; exact bM_note_81
  · cases h; exact bM_note_83
  · cases h
def qM_again_0 : List zIns := [(.bipush (12), 2, 12, 0, 0, 0, 0, z0), (.aload_n 0, 1, 0, 0, 0, 0, 0, z0), (.getfield 51, 3, 9, 19, 0, 0, 0, z0), (.iload_n 1, 1, 0, 0, 0, 0, 0, z0), (.iaload, 1, 0, 0, 0, 0, 0, z0), (.imul, 1, 0, 0, 0, 0, 0, z0), (.aload_n 0, 1, 0, 0, 0, 0, 0, z0), (.getfield 54, 3, 9, 20, 0, 0, 0, z0), (.iload_n 1, 1, 0, 0, 0, 0, 0, z0), (.iaload, 1, 0, 0, 0, 0, 0, z0), (.iadd, 1, 0, 0, 0, 0, 0, z0), (.istore_n 2, 1, 0, 0, 0, 0, 0, z0), (.iconst (0), 1, 0, 0, 0, 0, 0, z0), (.istore_n 3, 1, 0, 0, 0, 0, 0, z0), (.aload_n 0, 1, 0, 0, 0, 0, 0, z0), (.getfield 48, 3, 9, 18, 0, 0, 0, z0), (.iload_n 1, 1, 0, 0, 0, 0, 0, z0), (.iaload, 1, 0, 0, 0, 0, 0, z0)]
def qM_again_80 : List zIns := [(.aload_n 0, 1, 0, 0, 0, 0, 0, z0), (.aload_n 0, 1, 0, 0, 0, 0, 0, z0), (.getfield 51, 3, 9, 19, 0, 0, 0, z0), (.iload_n 1, 1, 0, 0, 0, 0, 0, z0), (.iaload, 1, 0, 0, 0, 0, 0, z0), (.aload_n 0, 1, 0, 0, 0, 0, 0, z0), (.getfield 54, 3, 9, 20, 0, 0, 0, z0), (.iload_n 1, 1, 0, 0, 0, 0, 0, z0), (.iaload, 1, 0, 0, 0, 0, 0, z0), (.aload_n 0, 1, 0, 0, 0, 0, 0, z0), (.getfield 57, 3, 9, 21, 0, 0, 0, z0), (.iload_n 1, 1, 0, 0, 0, 0, 0, z0), (.iaload, 1, 0, 0, 0, 0, 0, z0), (.invokevirtual 210, 3, 3, 9, 0, 0, 0, mM_set), (.goto (198), 3, 300, 0, 0, 0, 0, z0)]
def qM_again_105 : List zIns := [(.aload_n 0, 1, 0, 0, 0, 0, 0, z0), (.iload_n 2, 1, 0, 0, 0, 0, 0, z0), (.iconst (1), 1, 1, 0, 0, 0, 0, z0), (.aload_n 0, 1, 0, 0, 0, 0, 0, z0), (.getfield 57, 3, 9, 21, 0, 0, 0, z0), (.iload_n 1, 1, 0, 0, 0, 0, 0, z0), (.iaload, 1, 0, 0, 0, 0, 0, z0), (.aload_n 0, 1, 0, 0, 0, 0, 0, z0), (.getfield 60, 3, 9, 22, 0, 0, 0, z0), (.iload_n 1, 1, 0, 0, 0, 0, 0, z0), (.iaload, 1, 0, 0, 0, 0, 0, z0), (.iconst (1), 1, 1, 0, 0, 0, 0, z0), (.if_icmp .ne (7), 3, 128, 0, 0, 0, 0, z0), (.iconst (1), 1, 1, 0, 0, 0, 0, z0), (.goto (4), 3, 129, 0, 0, 0, 0, z0)]
def qM_again_128 : List zIns := [(.iconst (0), 1, 0, 0, 0, 0, 0, z0)]
def qM_again_129 : List zIns := [(.invokevirtual 214, 3, 4, 9, 0, 0, 0, mM_opn), (.goto (168), 3, 300, 0, 0, 0, 0, z0)]
def qM_again_135 : List zIns := [(.aload_n 0, 1, 0, 0, 0, 0, 0, z0), (.iload_n 2, 1, 0, 0, 0, 0, 0, z0), (.iconst (2), 1, 2, 0, 0, 0, 0, z0), (.aload_n 0, 1, 0, 0, 0, 0, 0, z0), (.getfield 57, 3, 9, 21, 0, 0, 0, z0), (.iload_n 1, 1, 0, 0, 0, 0, 0, z0), (.iaload, 1, 0, 0, 0, 0, 0, z0), (.iconst (0), 1, 0, 0, 0, 0, 0, z0), (.invokevirtual 214, 3, 4, 9, 0, 0, 0, mM_opn), (.goto (152), 3, 300, 0, 0, 0, 0, z0)]
def qM_again_151 : List zIns := [(.aload_n 0, 1, 0, 0, 0, 0, 0, z0), (.iload_n 2, 1, 0, 0, 0, 0, 0, z0), (.iconst (3), 1, 3, 0, 0, 0, 0, z0), (.aload_n 0, 1, 0, 0, 0, 0, 0, z0), (.getfield 57, 3, 9, 21, 0, 0, 0, z0), (.iload_n 1, 1, 0, 0, 0, 0, 0, z0), (.iaload, 1, 0, 0, 0, 0, 0, z0), (.iconst (0), 1, 0, 0, 0, 0, 0, z0), (.invokevirtual 214, 3, 4, 9, 0, 0, 0, mM_opn), (.goto (136), 3, 300, 0, 0, 0, 0, z0)]
def qM_again_167 : List zIns := [(.aload_n 0, 1, 0, 0, 0, 0, 0, z0), (.getfield 87, 3, 9, 34, 0, 0, 0, z0), (.iload_n 2, 1, 0, 0, 0, 0, 0, z0), (.aload_n 0, 1, 0, 0, 0, 0, 0, z0), (.getfield 57, 3, 9, 21, 0, 0, 0, z0), (.iload_n 1, 1, 0, 0, 0, 0, 0, z0), (.iaload, 1, 0, 0, 0, 0, 0, z0), (.iastore, 1, 0, 0, 0, 0, 0, z0), (.goto (121), 3, 300, 0, 0, 0, 0, z0)]
def qM_again_182 : List zIns := [(.aload_n 0, 1, 0, 0, 0, 0, 0, z0), (.getfield 93, 3, 9, 36, 0, 0, 0, z0), (.iload_n 2, 1, 0, 0, 0, 0, 0, z0), (.aload_n 0, 1, 0, 0, 0, 0, 0, z0), (.getfield 57, 3, 9, 21, 0, 0, 0, z0), (.iload_n 1, 1, 0, 0, 0, 0, 0, z0), (.iaload, 1, 0, 0, 0, 0, 0, z0), (.iastore, 1, 0, 0, 0, 0, 0, z0), (.goto (106), 3, 300, 0, 0, 0, 0, z0)]
def qM_again_197 : List zIns := [(.aload_n 0, 1, 0, 0, 0, 0, 0, z0), (.iload_n 2, 1, 0, 0, 0, 0, 0, z0), (.aload_n 0, 1, 0, 0, 0, 0, 0, z0), (.getfield 54, 3, 9, 20, 0, 0, 0, z0), (.iload_n 1, 1, 0, 0, 0, 0, 0, z0), (.iaload, 1, 0, 0, 0, 0, 0, z0), (.invokevirtual 218, 3, 2, 9, 0, 0, 0, mM_close), (.goto (92), 3, 300, 0, 0, 0, 0, z0)]
def qM_again_211 : List zIns := [(.aload_n 0, 1, 0, 0, 0, 0, 0, z0), (.aload_n 0, 1, 0, 0, 0, 0, 0, z0), (.getfield 51, 3, 9, 19, 0, 0, 0, z0), (.iload_n 1, 1, 0, 0, 0, 0, 0, z0), (.iaload, 1, 0, 0, 0, 0, 0, z0), (.aload_n 0, 1, 0, 0, 0, 0, 0, z0), (.getfield 54, 3, 9, 20, 0, 0, 0, z0), (.iload_n 1, 1, 0, 0, 0, 0, 0, z0), (.iaload, 1, 0, 0, 0, 0, 0, z0), (.invokevirtual 221, 3, 2, 9, 0, 0, 0, mM_bring), (.istore_n 3, 1, 0, 0, 0, 0, 0, z0), (.goto (72), 3, 300, 0, 0, 0, 0, z0)]
def qM_again_231 : List zIns := [(.aload_n 0, 1, 0, 0, 0, 0, 0, z0), (.aload_n 0, 1, 0, 0, 0, 0, 0, z0), (.getfield 51, 3, 9, 19, 0, 0, 0, z0), (.iload_n 1, 1, 0, 0, 0, 0, 0, z0), (.iaload, 1, 0, 0, 0, 0, 0, z0), (.aload_n 0, 1, 0, 0, 0, 0, 0, z0), (.getfield 54, 3, 9, 20, 0, 0, 0, z0), (.iload_n 1, 1, 0, 0, 0, 0, 0, z0), (.iaload, 1, 0, 0, 0, 0, 0, z0), (.aload_n 0, 1, 0, 0, 0, 0, 0, z0), (.getfield 57, 3, 9, 21, 0, 0, 0, z0), (.iload_n 1, 1, 0, 0, 0, 0, 0, z0), (.iaload, 1, 0, 0, 0, 0, 0, z0), (.aload_n 0, 1, 0, 0, 0, 0, 0, z0), (.getfield 60, 3, 9, 22, 0, 0, 0, z0), (.iload_n 1, 1, 0, 0, 0, 0, 0, z0), (.iaload, 1, 0, 0, 0, 0, 0, z0), (.invokevirtual 224, 3, 4, 9, 0, 0, 0, mM_joining), (.istore_n 3, 1, 0, 0, 0, 0, 0, z0), (.goto (40), 3, 300, 0, 0, 0, 0, z0)]
def qM_again_263 : List zIns := [(.aload_n 0, 1, 0, 0, 0, 0, 0, z0), (.iload_n 2, 1, 0, 0, 0, 0, 0, z0), (.aload_n 0, 1, 0, 0, 0, 0, 0, z0), (.getfield 54, 3, 9, 20, 0, 0, 0, z0), (.iload_n 1, 1, 0, 0, 0, 0, 0, z0), (.iaload, 1, 0, 0, 0, 0, 0, z0), (.aload_n 0, 1, 0, 0, 0, 0, 0, z0), (.getfield 57, 3, 9, 21, 0, 0, 0, z0), (.iload_n 1, 1, 0, 0, 0, 0, 0, z0), (.iaload, 1, 0, 0, 0, 0, 0, z0), (.invokevirtual 228, 3, 3, 9, 0, 0, 0, mM_settle), (.goto (20), 3, 300, 0, 0, 0, 0, z0)]
def qM_again_283 : List zIns := [(.aload_n 0, 1, 0, 0, 0, 0, 0, z0), (.aload_n 0, 1, 0, 0, 0, 0, 0, z0), (.getfield 51, 3, 9, 19, 0, 0, 0, z0), (.iload_n 1, 1, 0, 0, 0, 0, 0, z0), (.iaload, 1, 0, 0, 0, 0, 0, z0), (.aload_n 0, 1, 0, 0, 0, 0, 0, z0), (.getfield 54, 3, 9, 20, 0, 0, 0, z0), (.iload_n 1, 1, 0, 0, 0, 0, 0, z0), (.iaload, 1, 0, 0, 0, 0, 0, z0), (.invokevirtual 231, 3, 2, 9, 0, 0, 0, mM_change), (.istore_n 3, 1, 0, 0, 0, 0, 0, z0)]
def qM_again_300 : List zIns := [(.return_, 1, 0, 0, 0, 0, 0, z0)]
def cdM_again : zCd := fun a => match a with
  | 0 => some qM_again_0
  | 80 => some qM_again_80
  | 105 => some qM_again_105
  | 128 => some qM_again_128
  | 129 => some qM_again_129
  | 135 => some qM_again_135
  | 151 => some qM_again_151
  | 167 => some qM_again_167
  | 182 => some qM_again_182
  | 197 => some qM_again_197
  | 211 => some qM_again_211
  | 231 => some qM_again_231
  | 263 => some qM_again_263
  | 283 => some qM_again_283
  | 300 => some qM_again_300
  | _ => none
set_option maxRecDepth 100000 in
theorem bM_again_0 : zcode (mM_again) 0 qM_again_0 := zcode_of (by decide +kernel) (zoks_cons (And.intro rfl (by decide)) (zoks_cons rfl (zoks_cons (And.intro rfl kF57) (zoks_cons rfl (zoks_cons (And.intro rfl rfl) (zoks_cons rfl (zoks_cons rfl (zoks_cons (And.intro rfl kF58) (zoks_cons rfl (zoks_cons (And.intro rfl rfl) (zoks_cons rfl (zoks_cons rfl (zoks_cons (And.intro rfl (by decide)) (zoks_cons rfl (zoks_cons rfl (zoks_cons (And.intro rfl kF55) (zoks_cons rfl (zoks_cons (And.intro rfl rfl) trivial))))))))))))))))))
set_option maxRecDepth 100000 in
theorem bM_again_80 : zcode (mM_again) 80 qM_again_80 := zcode_of (by decide +kernel) (zoks_cons rfl (zoks_cons rfl (zoks_cons (And.intro rfl kF57) (zoks_cons rfl (zoks_cons (And.intro rfl rfl) (zoks_cons rfl (zoks_cons (And.intro rfl kF58) (zoks_cons rfl (zoks_cons (And.intro rfl rfl) (zoks_cons rfl (zoks_cons (And.intro rfl kF59) (zoks_cons rfl (zoks_cons (And.intro rfl rfl) (zoks_cons (And.intro rfl kV60) (zoks_cons (And.intro rfl (by decide)) trivial)))))))))))))))
set_option maxRecDepth 100000 in
theorem bM_again_105 : zcode (mM_again) 105 qM_again_105 := zcode_of (by decide +kernel) (zoks_cons rfl (zoks_cons rfl (zoks_cons (And.intro rfl (by decide)) (zoks_cons rfl (zoks_cons (And.intro rfl kF59) (zoks_cons rfl (zoks_cons (And.intro rfl rfl) (zoks_cons rfl (zoks_cons (And.intro rfl kF60) (zoks_cons rfl (zoks_cons (And.intro rfl rfl) (zoks_cons (And.intro rfl (by decide)) (zoks_cons (And.intro rfl (by decide)) (zoks_cons (And.intro rfl (by decide)) (zoks_cons (And.intro rfl (by decide)) trivial)))))))))))))))
set_option maxRecDepth 100000 in
theorem bM_again_128 : zcode (mM_again) 128 qM_again_128 := zcode_of (by decide +kernel) (zoks_cons (And.intro rfl (by decide)) trivial)
set_option maxRecDepth 100000 in
theorem bM_again_129 : zcode (mM_again) 129 qM_again_129 := zcode_of (by decide +kernel) (zoks_cons (And.intro rfl kV61) (zoks_cons (And.intro rfl (by decide)) trivial))
set_option maxRecDepth 100000 in
theorem bM_again_135 : zcode (mM_again) 135 qM_again_135 := zcode_of (by decide +kernel) (zoks_cons rfl (zoks_cons rfl (zoks_cons (And.intro rfl (by decide)) (zoks_cons rfl (zoks_cons (And.intro rfl kF59) (zoks_cons rfl (zoks_cons (And.intro rfl rfl) (zoks_cons (And.intro rfl (by decide)) (zoks_cons (And.intro rfl kV61) (zoks_cons (And.intro rfl (by decide)) trivial))))))))))
set_option maxRecDepth 100000 in
theorem bM_again_151 : zcode (mM_again) 151 qM_again_151 := zcode_of (by decide +kernel) (zoks_cons rfl (zoks_cons rfl (zoks_cons (And.intro rfl (by decide)) (zoks_cons rfl (zoks_cons (And.intro rfl kF59) (zoks_cons rfl (zoks_cons (And.intro rfl rfl) (zoks_cons (And.intro rfl (by decide)) (zoks_cons (And.intro rfl kV61) (zoks_cons (And.intro rfl (by decide)) trivial))))))))))
set_option maxRecDepth 100000 in
theorem bM_again_167 : zcode (mM_again) 167 qM_again_167 := zcode_of (by decide +kernel) (zoks_cons rfl (zoks_cons (And.intro rfl kF62) (zoks_cons rfl (zoks_cons rfl (zoks_cons (And.intro rfl kF59) (zoks_cons rfl (zoks_cons (And.intro rfl rfl) (zoks_cons (And.intro rfl rfl) (zoks_cons (And.intro rfl (by decide)) trivial)))))))))
set_option maxRecDepth 100000 in
theorem bM_again_182 : zcode (mM_again) 182 qM_again_182 := zcode_of (by decide +kernel) (zoks_cons rfl (zoks_cons (And.intro rfl kF63) (zoks_cons rfl (zoks_cons rfl (zoks_cons (And.intro rfl kF59) (zoks_cons rfl (zoks_cons (And.intro rfl rfl) (zoks_cons (And.intro rfl rfl) (zoks_cons (And.intro rfl (by decide)) trivial)))))))))
set_option maxRecDepth 100000 in
theorem bM_again_197 : zcode (mM_again) 197 qM_again_197 := zcode_of (by decide +kernel) (zoks_cons rfl (zoks_cons rfl (zoks_cons rfl (zoks_cons (And.intro rfl kF58) (zoks_cons rfl (zoks_cons (And.intro rfl rfl) (zoks_cons (And.intro rfl kV62) (zoks_cons (And.intro rfl (by decide)) trivial))))))))
set_option maxRecDepth 100000 in
theorem bM_again_211 : zcode (mM_again) 211 qM_again_211 := zcode_of (by decide +kernel) (zoks_cons rfl (zoks_cons rfl (zoks_cons (And.intro rfl kF57) (zoks_cons rfl (zoks_cons (And.intro rfl rfl) (zoks_cons rfl (zoks_cons (And.intro rfl kF58) (zoks_cons rfl (zoks_cons (And.intro rfl rfl) (zoks_cons (And.intro rfl kV63) (zoks_cons rfl (zoks_cons (And.intro rfl (by decide)) trivial))))))))))))
set_option maxRecDepth 100000 in
theorem bM_again_231 : zcode (mM_again) 231 qM_again_231 := zcode_of (by decide +kernel) (zoks_cons rfl (zoks_cons rfl (zoks_cons (And.intro rfl kF57) (zoks_cons rfl (zoks_cons (And.intro rfl rfl) (zoks_cons rfl (zoks_cons (And.intro rfl kF58) (zoks_cons rfl (zoks_cons (And.intro rfl rfl) (zoks_cons rfl (zoks_cons (And.intro rfl kF59) (zoks_cons rfl (zoks_cons (And.intro rfl rfl) (zoks_cons rfl (zoks_cons (And.intro rfl kF60) (zoks_cons rfl (zoks_cons (And.intro rfl rfl) (zoks_cons (And.intro rfl kV64) (zoks_cons rfl (zoks_cons (And.intro rfl (by decide)) trivial))))))))))))))))))))
set_option maxRecDepth 100000 in
theorem bM_again_263 : zcode (mM_again) 263 qM_again_263 := zcode_of (by decide +kernel) (zoks_cons rfl (zoks_cons rfl (zoks_cons rfl (zoks_cons (And.intro rfl kF58) (zoks_cons rfl (zoks_cons (And.intro rfl rfl) (zoks_cons rfl (zoks_cons (And.intro rfl kF59) (zoks_cons rfl (zoks_cons (And.intro rfl rfl) (zoks_cons (And.intro rfl kV65) (zoks_cons (And.intro rfl (by decide)) trivial))))))))))))
set_option maxRecDepth 100000 in
theorem bM_again_283 : zcode (mM_again) 283 qM_again_283 := zcode_of (by decide +kernel) (zoks_cons rfl (zoks_cons rfl (zoks_cons (And.intro rfl kF57) (zoks_cons rfl (zoks_cons (And.intro rfl rfl) (zoks_cons rfl (zoks_cons (And.intro rfl kF58) (zoks_cons rfl (zoks_cons (And.intro rfl rfl) (zoks_cons (And.intro rfl kV66) (zoks_cons rfl trivial)))))))))))
set_option maxRecDepth 100000 in
theorem bM_again_300 : zcode (mM_again) 300 qM_again_300 := zcode_of (by decide +kernel) (zoks_cons (And.intro rfl rfl) trivial)
theorem kM_again : zcd (mM_again) cdM_again := by
  intro a is h
  unfold cdM_again at h
  split at h
  · cases h; exact bM_again_0
  · cases h; exact bM_again_80
  · cases h; exact bM_again_105
  · cases h; exact bM_again_128
  · cases h; exact bM_again_129
  · cases h; exact bM_again_135
  · cases h; exact bM_again_151
  · cases h; exact bM_again_167
  · cases h; exact bM_again_182
  · cases h; exact bM_again_197
  · cases h; exact bM_again_211
  · cases h; exact bM_again_231
  · cases h; exact bM_again_263
  · cases h; exact bM_again_283
  · cases h; exact bM_again_300
  · cases h
def qM_crash_0 : List zIns := [(.iload_n 1, 1, 0, 0, 0, 0, 0, z0), (.ifCond .lt (9), 3, 10, 0, 0, 0, 0, z0), (.iload_n 1, 1, 0, 0, 0, 0, 0, z0), (.bipush (8), 2, 8, 0, 0, 0, 0, z0), (.if_icmp .le (5), 3, 12, 0, 0, 0, 0, z0)]
def qM_crash_10 : List zIns := [(.iconst (-1), 1, 1, 0, 1, 0, 0, z0), (.ireturn, 1, 0, 0, 0, 0, 0, z0)]
def qM_crash_12 : List zIns := [(.iload_n 1, 1, 0, 0, 0, 0, 0, z0), (.aload_n 0, 1, 0, 0, 0, 0, 0, z0), (.getfield 207, 3, 9, 17, 0, 0, 0, z0), (.if_icmp .le (6), 3, 23, 0, 0, 0, 0, z0), (.bipush (-2), 2, 2, 0, 1, 0, 0, z0), (.ireturn, 1, 0, 0, 0, 0, 0, z0)]
def qM_crash_23 : List zIns := [(.aload_n 0, 1, 0, 0, 0, 0, 0, z0), (.aload_n 0, 1, 0, 0, 0, 0, 0, z0), (.getfield 204, 3, 9, 16, 0, 0, 0, z0), (.iload_n 1, 1, 0, 0, 0, 0, 0, z0), (.isub, 1, 0, 0, 0, 0, 0, z0), (.putfield 204, 3, 9, 16, 0, 0, 0, z0), (.aload_n 0, 1, 0, 0, 0, 0, 0, z0), (.aload_n 0, 1, 0, 0, 0, 0, 0, z0), (.getfield 207, 3, 9, 17, 0, 0, 0, z0), (.iload_n 1, 1, 0, 0, 0, 0, 0, z0), (.isub, 1, 0, 0, 0, 0, 0, z0), (.putfield 207, 3, 9, 17, 0, 0, 0, z0), (.aload_n 0, 1, 0, 0, 0, 0, 0, z0), (.invokevirtual 234, 3, 0, 9, 0, 0, 0, mM_empty), (.iconst (0), 1, 0, 0, 0, 0, 0, z0), (.istore_n 2, 1, 0, 0, 0, 0, 0, z0)]
def qM_crash_49 : List zIns := [(.iload_n 2, 1, 0, 0, 0, 0, 0, z0), (.aload_n 0, 1, 0, 0, 0, 0, 0, z0), (.getfield 204, 3, 9, 16, 0, 0, 0, z0), (.if_icmp .ge (14), 3, 68, 0, 0, 0, 0, z0), (.aload_n 0, 1, 0, 0, 0, 0, 0, z0), (.iload_n 2, 1, 0, 0, 0, 0, 0, z0), (.invokevirtual 237, 3, 1, 9, 0, 0, 0, mM_again), (.iinc 2 (1), 3, 1, 0, 0, 0, 0, z0), (.goto (-16), 3, 49, 0, 0, 0, 0, z0)]
def qM_crash_68 : List zIns := [(.aload_n 0, 1, 0, 0, 0, 0, 0, z0), (.getfield 204, 3, 9, 16, 0, 0, 0, z0), (.ireturn, 1, 0, 0, 0, 0, 0, z0)]
def cdM_crash : zCd := fun a => match a with
  | 0 => some qM_crash_0
  | 10 => some qM_crash_10
  | 12 => some qM_crash_12
  | 23 => some qM_crash_23
  | 49 => some qM_crash_49
  | 68 => some qM_crash_68
  | _ => none
set_option maxRecDepth 100000 in
theorem bM_crash_0 : zcode (mM_crash) 0 qM_crash_0 := zcode_of (by decide +kernel) (zoks_cons rfl (zoks_cons (And.intro rfl (by decide)) (zoks_cons rfl (zoks_cons (And.intro rfl (by decide)) (zoks_cons (And.intro rfl (by decide)) trivial)))))
set_option maxRecDepth 100000 in
theorem bM_crash_10 : zcode (mM_crash) 10 qM_crash_10 := zcode_of (by decide +kernel) (zoks_cons (And.intro rfl (by decide)) (zoks_cons (And.intro rfl (Or.inl ⟨rfl, rfl⟩)) trivial))
set_option maxRecDepth 100000 in
theorem bM_crash_12 : zcode (mM_crash) 12 qM_crash_12 := zcode_of (by decide +kernel) (zoks_cons rfl (zoks_cons rfl (zoks_cons (And.intro rfl kF61) (zoks_cons (And.intro rfl (by decide)) (zoks_cons (And.intro rfl (by decide)) (zoks_cons (And.intro rfl (Or.inl ⟨rfl, rfl⟩)) trivial))))))
set_option maxRecDepth 100000 in
theorem bM_crash_23 : zcode (mM_crash) 23 qM_crash_23 := zcode_of (by decide +kernel) (zoks_cons rfl (zoks_cons rfl (zoks_cons (And.intro rfl kF56) (zoks_cons rfl (zoks_cons rfl (zoks_cons (And.intro rfl (And.intro rfl (kP54 rfl))) (zoks_cons rfl (zoks_cons rfl (zoks_cons (And.intro rfl kF61) (zoks_cons rfl (zoks_cons rfl (zoks_cons (And.intro rfl (And.intro rfl (kP55 rfl))) (zoks_cons rfl (zoks_cons (And.intro rfl kV67) (zoks_cons (And.intro rfl (by decide)) (zoks_cons rfl trivial))))))))))))))))
set_option maxRecDepth 100000 in
theorem bM_crash_49 : zcode (mM_crash) 49 qM_crash_49 := zcode_of (by decide +kernel) (zoks_cons rfl (zoks_cons rfl (zoks_cons (And.intro rfl kF56) (zoks_cons (And.intro rfl (by decide)) (zoks_cons rfl (zoks_cons rfl (zoks_cons (And.intro rfl kV68) (zoks_cons (And.intro rfl (by decide)) (zoks_cons (And.intro rfl (by decide)) trivial)))))))))
set_option maxRecDepth 100000 in
theorem bM_crash_68 : zcode (mM_crash) 68 qM_crash_68 := zcode_of (by decide +kernel) (zoks_cons rfl (zoks_cons (And.intro rfl kF56) (zoks_cons (And.intro rfl (Or.inl ⟨rfl, rfl⟩)) trivial)))
theorem kM_crash : zcd (mM_crash) cdM_crash := by
  intro a is h
  unfold cdM_crash at h
  split at h
  · cases h; exact bM_crash_0
  · cases h; exact bM_crash_10
  · cases h; exact bM_crash_12
  · cases h; exact bM_crash_23
  · cases h; exact bM_crash_49
  · cases h; exact bM_crash_68
  · cases h
def qM_empty_0 : List zIns := [(.aload_n 0, 1, 0, 0, 0, 0, 0, z0), (.iconst (0), 1, 0, 0, 0, 0, 0, z0), (.putfield 145, 3, 9, 10, 0, 0, 0, z0), (.aload_n 0, 1, 0, 0, 0, 0, 0, z0), (.iconst (0), 1, 0, 0, 0, 0, 0, z0), (.putfield 188, 3, 9, 24, 0, 0, 0, z0), (.aload_n 0, 1, 0, 0, 0, 0, 0, z0), (.iconst (0), 1, 0, 0, 0, 0, 0, z0), (.putfield 241, 3, 9, 30, 0, 0, 0, z0), (.aload_n 0, 1, 0, 0, 0, 0, 0, z0), (.iconst (0), 1, 0, 0, 0, 0, 0, z0), (.putfield 244, 3, 9, 31, 0, 0, 0, z0), (.iconst (0), 1, 0, 0, 0, 0, 0, z0), (.istore_n 1, 1, 0, 0, 0, 0, 0, z0)]
def qM_empty_22 : List zIns := [(.iload_n 1, 1, 0, 0, 0, 0, 0, z0), (.bipush (12), 2, 12, 0, 0, 0, 0, z0), (.if_icmp .ge (16), 3, 41, 0, 0, 0, 0, z0), (.aload_n 0, 1, 0, 0, 0, 0, 0, z0), (.getfield 63, 3, 9, 23, 0, 0, 0, z0), (.iload_n 1, 1, 0, 0, 0, 0, 0, z0), (.iconst (0), 1, 0, 0, 0, 0, 0, z0), (.iastore, 1, 0, 0, 0, 0, 0, z0), (.iinc 1 (1), 3, 1, 0, 0, 0, 0, z0), (.goto (-16), 3, 22, 0, 0, 0, 0, z0)]
def qM_empty_41 : List zIns := [(.iconst (0), 1, 0, 0, 0, 0, 0, z0), (.istore_n 1, 1, 0, 0, 0, 0, 0, z0)]
def qM_empty_43 : List zIns := [(.iload_n 1, 1, 0, 0, 0, 0, 0, z0), (.sipush (144), 3, 144, 0, 0, 0, 0, z0), (.if_icmp .ge (16), 3, 63, 0, 0, 0, 0, z0), (.aload_n 0, 1, 0, 0, 0, 0, 0, z0), (.getfield 81, 3, 9, 32, 0, 0, 0, z0), (.iload_n 1, 1, 0, 0, 0, 0, 0, z0), (.iconst (0), 1, 0, 0, 0, 0, 0, z0), (.iastore, 1, 0, 0, 0, 0, 0, z0), (.iinc 1 (1), 3, 1, 0, 0, 0, 0, z0), (.goto (-17), 3, 43, 0, 0, 0, 0, z0)]
def qM_empty_63 : List zIns := [(.iconst (0), 1, 0, 0, 0, 0, 0, z0), (.istore_n 1, 1, 0, 0, 0, 0, 0, z0)]
def qM_empty_65 : List zIns := [(.iload_n 1, 1, 0, 0, 0, 0, 0, z0), (.bipush (36), 2, 36, 0, 0, 0, 0, z0), (.if_icmp .ge (35), 3, 103, 0, 0, 0, 0, z0), (.aload_n 0, 1, 0, 0, 0, 0, 0, z0), (.getfield 84, 3, 9, 33, 0, 0, 0, z0), (.iload_n 1, 1, 0, 0, 0, 0, 0, z0), (.iconst (0), 1, 0, 0, 0, 0, 0, z0), (.iastore, 1, 0, 0, 0, 0, 0, z0), (.aload_n 0, 1, 0, 0, 0, 0, 0, z0), (.getfield 87, 3, 9, 34, 0, 0, 0, z0), (.iload_n 1, 1, 0, 0, 0, 0, 0, z0), (.iconst (0), 1, 0, 0, 0, 0, 0, z0), (.iastore, 1, 0, 0, 0, 0, 0, z0), (.aload_n 0, 1, 0, 0, 0, 0, 0, z0), (.getfield 90, 3, 9, 35, 0, 0, 0, z0), (.iload_n 1, 1, 0, 0, 0, 0, 0, z0), (.iconst (0), 1, 0, 0, 0, 0, 0, z0), (.iastore, 1, 0, 0, 0, 0, 0, z0), (.aload_n 0, 1, 0, 0, 0, 0, 0, z0), (.iload_n 1, 1, 0, 0, 0, 0, 0, z0), (.invokevirtual 247, 3, 1, 9, 0, 0, 0, mM_forget), (.iinc 1 (1), 3, 1, 0, 0, 0, 0, z0), (.goto (-35), 3, 65, 0, 0, 0, 0, z0)]
def qM_empty_103 : List zIns := [(.return_, 1, 0, 0, 0, 0, 0, z0)]
def cdM_empty : zCd := fun a => match a with
  | 0 => some qM_empty_0
  | 22 => some qM_empty_22
  | 41 => some qM_empty_41
  | 43 => some qM_empty_43
  | 63 => some qM_empty_63
  | 65 => some qM_empty_65
  | 103 => some qM_empty_103
  | _ => none
set_option maxRecDepth 100000 in
theorem bM_empty_0 : zcode (mM_empty) 0 qM_empty_0 := zcode_of (by decide +kernel) (zoks_cons rfl (zoks_cons (And.intro rfl (by decide)) (zoks_cons (And.intro rfl (And.intro rfl (kP52 rfl))) (zoks_cons rfl (zoks_cons (And.intro rfl (by decide)) (zoks_cons (And.intro rfl (And.intro rfl (kP56 rfl))) (zoks_cons rfl (zoks_cons (And.intro rfl (by decide)) (zoks_cons (And.intro rfl (And.intro rfl (kP57 rfl))) (zoks_cons rfl (zoks_cons (And.intro rfl (by decide)) (zoks_cons (And.intro rfl (And.intro rfl (kP58 rfl))) (zoks_cons (And.intro rfl (by decide)) (zoks_cons rfl trivial))))))))))))))
set_option maxRecDepth 100000 in
theorem bM_empty_22 : zcode (mM_empty) 22 qM_empty_22 := zcode_of (by decide +kernel) (zoks_cons rfl (zoks_cons (And.intro rfl (by decide)) (zoks_cons (And.intro rfl (by decide)) (zoks_cons rfl (zoks_cons (And.intro rfl kF42) (zoks_cons rfl (zoks_cons (And.intro rfl (by decide)) (zoks_cons (And.intro rfl rfl) (zoks_cons (And.intro rfl (by decide)) (zoks_cons (And.intro rfl (by decide)) trivial))))))))))
set_option maxRecDepth 100000 in
theorem bM_empty_41 : zcode (mM_empty) 41 qM_empty_41 := zcode_of (by decide +kernel) (zoks_cons (And.intro rfl (by decide)) (zoks_cons rfl trivial))
set_option maxRecDepth 100000 in
theorem bM_empty_43 : zcode (mM_empty) 43 qM_empty_43 := zcode_of (by decide +kernel) (zoks_cons rfl (zoks_cons (And.intro rfl (by decide)) (zoks_cons (And.intro rfl (by decide)) (zoks_cons rfl (zoks_cons (And.intro rfl kF64) (zoks_cons rfl (zoks_cons (And.intro rfl (by decide)) (zoks_cons (And.intro rfl rfl) (zoks_cons (And.intro rfl (by decide)) (zoks_cons (And.intro rfl (by decide)) trivial))))))))))
set_option maxRecDepth 100000 in
theorem bM_empty_63 : zcode (mM_empty) 63 qM_empty_63 := zcode_of (by decide +kernel) (zoks_cons (And.intro rfl (by decide)) (zoks_cons rfl trivial))
set_option maxRecDepth 100000 in
theorem bM_empty_65 : zcode (mM_empty) 65 qM_empty_65 := zcode_of (by decide +kernel) (zoks_cons rfl (zoks_cons (And.intro rfl (by decide)) (zoks_cons (And.intro rfl (by decide)) (zoks_cons rfl (zoks_cons (And.intro rfl kF65) (zoks_cons rfl (zoks_cons (And.intro rfl (by decide)) (zoks_cons (And.intro rfl rfl) (zoks_cons rfl (zoks_cons (And.intro rfl kF62) (zoks_cons rfl (zoks_cons (And.intro rfl (by decide)) (zoks_cons (And.intro rfl rfl) (zoks_cons rfl (zoks_cons (And.intro rfl kF53) (zoks_cons rfl (zoks_cons (And.intro rfl (by decide)) (zoks_cons (And.intro rfl rfl) (zoks_cons rfl (zoks_cons rfl (zoks_cons (And.intro rfl kV69) (zoks_cons (And.intro rfl (by decide)) (zoks_cons (And.intro rfl (by decide)) trivial)))))))))))))))))))))))
set_option maxRecDepth 100000 in
theorem bM_empty_103 : zcode (mM_empty) 103 qM_empty_103 := zcode_of (by decide +kernel) (zoks_cons (And.intro rfl rfl) trivial)
theorem kM_empty : zcd (mM_empty) cdM_empty := by
  intro a is h
  unfold cdM_empty at h
  split at h
  · cases h; exact bM_empty_0
  · cases h; exact bM_empty_22
  · cases h; exact bM_empty_41
  · cases h; exact bM_empty_43
  · cases h; exact bM_empty_63
  · cases h; exact bM_empty_65
  · cases h; exact bM_empty_103
  · cases h
