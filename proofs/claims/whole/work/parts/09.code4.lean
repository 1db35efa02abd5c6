/-! The code of methods as runs of instructions. Written by gen/code.py. -/
def qM_forget_0 : List zIns := [(.aload_n 0, 1, 0, 0, 0, 0, 0, z0), (.getfield 102, 3, 9, 39, 0, 0, 0, z0), (.iload_n 1, 1, 0, 0, 0, 0, 0, z0), (.iconst (0), 1, 0, 0, 0, 0, 0, z0), (.iastore, 1, 0, 0, 0, 0, 0, z0), (.aload_n 0, 1, 0, 0, 0, 0, 0, z0), (.getfield 105, 3, 9, 40, 0, 0, 0, z0), (.iload_n 1, 1, 0, 0, 0, 0, 0, z0), (.iconst (0), 1, 0, 0, 0, 0, 0, z0), (.iastore, 1, 0, 0, 0, 0, 0, z0), (.aload_n 0, 1, 0, 0, 0, 0, 0, z0), (.getfield 111, 3, 9, 42, 0, 0, 0, z0), (.iload_n 1, 1, 0, 0, 0, 0, 0, z0), (.iconst (0), 1, 0, 0, 0, 0, 0, z0), (.iastore, 1, 0, 0, 0, 0, 0, z0), (.return_, 1, 0, 0, 0, 0, 0, z0)]
def cdM_forget : zCd := fun a => match a with
  | 0 => some qM_forget_0
  | _ => none
set_option maxRecDepth 100000 in
theorem bM_forget_0 : zcode (mM_forget) 0 qM_forget_0 := zcode_of (by decide +kernel) (zoks_cons rfl (zoks_cons (And.intro rfl kF66) (zoks_cons rfl (zoks_cons (And.intro rfl (by decide)) (zoks_cons (And.intro rfl rfl) (zoks_cons rfl (zoks_cons (And.intro rfl kF67) (zoks_cons rfl (zoks_cons (And.intro rfl (by decide)) (zoks_cons (And.intro rfl rfl) (zoks_cons rfl (zoks_cons (And.intro rfl kF68) (zoks_cons rfl (zoks_cons (And.intro rfl (by decide)) (zoks_cons (And.intro rfl rfl) (zoks_cons (And.intro rfl rfl) trivial))))))))))))))))
theorem kM_forget : zcd (mM_forget) cdM_forget := by
  intro a is h
  unfold cdM_forget at h
  split at h
  · cases h; exact bM_forget_0
  · cases h
def qM_journal_0 : List zIns := [(.aload_n 0, 1, 0, 0, 0, 0, 0, z0), (.getfield 204, 3, 9, 16, 0, 0, 0, z0), (.ireturn, 1, 0, 0, 0, 0, 0, z0)]
def cdM_journal : zCd := fun a => match a with
  | 0 => some qM_journal_0
  | _ => none
set_option maxRecDepth 100000 in
theorem bM_journal_0 : zcode (mM_journal) 0 qM_journal_0 := zcode_of (by decide +kernel) (zoks_cons rfl (zoks_cons (And.intro rfl kF56) (zoks_cons (And.intro rfl (Or.inl ⟨rfl, rfl⟩)) trivial)))
theorem kM_journal : zcd (mM_journal) cdM_journal := by
  intro a is h
  unfold cdM_journal at h
  split at h
  · cases h; exact bM_journal_0
  · cases h
def qM_set_0 : List zIns := [(.aload_n 0, 1, 0, 0, 0, 0, 0, z0), (.getfield 63, 3, 9, 23, 0, 0, 0, z0), (.iconst (4), 1, 4, 0, 0, 0, 0, z0), (.iload_n 1, 1, 0, 0, 0, 0, 0, z0), (.imul, 1, 0, 0, 0, 0, 0, z0), (.iload_n 2, 1, 0, 0, 0, 0, 0, z0), (.iadd, 1, 0, 0, 0, 0, 0, z0), (.iload_n 3, 1, 0, 0, 0, 0, 0, z0), (.iconst (1), 1, 1, 0, 0, 0, 0, z0), (.iadd, 1, 0, 0, 0, 0, 0, z0), (.iastore, 1, 0, 0, 0, 0, 0, z0), (.aload_n 0, 1, 0, 0, 0, 0, 0, z0), (.iconst (0), 1, 0, 0, 0, 0, 0, z0), (.putfield 145, 3, 9, 10, 0, 0, 0, z0), (.return_, 1, 0, 0, 0, 0, 0, z0)]
def cdM_set : zCd := fun a => match a with
  | 0 => some qM_set_0
  | _ => none
set_option maxRecDepth 100000 in
theorem bM_set_0 : zcode (mM_set) 0 qM_set_0 := zcode_of (by decide +kernel) (zoks_cons rfl (zoks_cons (And.intro rfl kF42) (zoks_cons (And.intro rfl (by decide)) (zoks_cons rfl (zoks_cons rfl (zoks_cons rfl (zoks_cons rfl (zoks_cons rfl (zoks_cons (And.intro rfl (by decide)) (zoks_cons rfl (zoks_cons (And.intro rfl rfl) (zoks_cons rfl (zoks_cons (And.intro rfl (by decide)) (zoks_cons (And.intro rfl (And.intro rfl (kP52 rfl))) (zoks_cons (And.intro rfl rfl) trivial)))))))))))))))
theorem kM_set : zcd (mM_set) cdM_set := by
  intro a is h
  unfold cdM_set at h
  split at h
  · cases h; exact bM_set_0
  · cases h
def qM_view_0 : List zIns := [(.iload_n 1, 1, 0, 0, 0, 0, 0, z0), (.invokestatic 124, 3, 1, 0, 0, 0, 0, mM_isClient), (.ifCond .eq (25), 3, 29, 0, 0, 0, 0, z0), (.iload_n 2, 1, 0, 0, 0, 0, 0, z0), (.ifCond .lt (21), 3, 29, 0, 0, 0, 0, z0), (.iload_n 2, 1, 0, 0, 0, 0, 0, z0), (.iconst (3), 1, 3, 0, 0, 0, 0, z0), (.if_icmp .gt (16), 3, 29, 0, 0, 0, 0, z0), (.iload_n 3, 1, 0, 0, 0, 0, 0, z0), (.iconst (-1), 1, 1, 0, 1, 0, 0, z0), (.if_icmp .lt (11), 3, 29, 0, 0, 0, 0, z0), (.iload_n 3, 1, 0, 0, 0, 0, 0, z0), (.aload_n 0, 1, 0, 0, 0, 0, 0, z0), (.getfield 164, 3, 9, 5, 0, 0, 0, z0), (.if_icmp .lt (5), 3, 31, 0, 0, 0, 0, z0)]
def qM_view_29 : List zIns := [(.iconst (0), 1, 0, 0, 0, 0, 0, z0), (.ireturn, 1, 0, 0, 1, 0, 0, z0)]
def qM_view_31 : List zIns := [(.aload_n 0, 1, 0, 0, 0, 0, 0, z0), (.iconst (0), 1, 0, 0, 0, 0, 0, z0), (.iload_n 1, 1, 0, 0, 0, 0, 0, z0), (.iload_n 2, 1, 0, 0, 0, 0, 0, z0), (.iload_n 3, 1, 0, 0, 0, 0, 0, z0), (.iconst (0), 1, 0, 0, 0, 0, 0, z0), (.invokevirtual 250, 3, 5, 9, 0, 0, 0, mM_note), (.aload_n 0, 1, 0, 0, 0, 0, 0, z0), (.iload_n 1, 1, 0, 0, 0, 0, 0, z0), (.iload_n 2, 1, 0, 0, 0, 0, 0, z0), (.iload_n 3, 1, 0, 0, 0, 0, 0, z0), (.invokevirtual 210, 3, 3, 9, 0, 0, 0, mM_set), (.iconst (1), 1, 1, 0, 0, 0, 0, z0), (.ireturn, 1, 0, 0, 1, 0, 0, z0)]
def cdM_view : zCd := fun a => match a with
  | 0 => some qM_view_0
  | 29 => some qM_view_29
  | 31 => some qM_view_31
  | _ => none
set_option maxRecDepth 100000 in
theorem bM_view_0 : zcode (mM_view) 0 qM_view_0 := zcode_of (by decide +kernel) (zoks_cons rfl (zoks_cons (And.intro rfl kS4) (zoks_cons (And.intro rfl (by decide)) (zoks_cons rfl (zoks_cons (And.intro rfl (by decide)) (zoks_cons rfl (zoks_cons (And.intro rfl (by decide)) (zoks_cons (And.intro rfl (by decide)) (zoks_cons rfl (zoks_cons (And.intro rfl (by decide)) (zoks_cons (And.intro rfl (by decide)) (zoks_cons rfl (zoks_cons rfl (zoks_cons (And.intro rfl kF35) (zoks_cons (And.intro rfl (by decide)) trivial)))))))))))))))
set_option maxRecDepth 100000 in
theorem bM_view_29 : zcode (mM_view) 29 qM_view_29 := zcode_of (by decide +kernel) (zoks_cons (And.intro rfl (by decide)) (zoks_cons (And.intro rfl (Or.inr (Or.inl ⟨rfl, rfl⟩))) trivial))
set_option maxRecDepth 100000 in
theorem bM_view_31 : zcode (mM_view) 31 qM_view_31 := zcode_of (by decide +kernel) (zoks_cons rfl (zoks_cons (And.intro rfl (by decide)) (zoks_cons rfl (zoks_cons rfl (zoks_cons rfl (zoks_cons (And.intro rfl (by decide)) (zoks_cons (And.intro rfl kV70) (zoks_cons rfl (zoks_cons rfl (zoks_cons rfl (zoks_cons rfl (zoks_cons (And.intro rfl kV60) (zoks_cons (And.intro rfl (by decide)) (zoks_cons (And.intro rfl (Or.inr (Or.inl ⟨rfl, rfl⟩))) trivial))))))))))))))
theorem kM_view : zcd (mM_view) cdM_view := by
  intro a is h
  unfold cdM_view at h
  split at h
  · cases h; exact bM_view_0
  · cases h; exact bM_view_29
  · cases h; exact bM_view_31
  · cases h
def qM_opn_0 : List zIns := [(.aload_n 0, 1, 0, 0, 0, 0, 0, z0), (.getfield 90, 3, 9, 35, 0, 0, 0, z0), (.iload_n 1, 1, 0, 0, 0, 0, 0, z0), (.iload_n 2, 1, 0, 0, 0, 0, 0, z0), (.iastore, 1, 0, 0, 0, 0, 0, z0), (.aload_n 0, 1, 0, 0, 0, 0, 0, z0), (.getfield 93, 3, 9, 36, 0, 0, 0, z0), (.iload_n 1, 1, 0, 0, 0, 0, 0, z0), (.iload_n 3, 1, 0, 0, 0, 0, 0, z0), (.iastore, 1, 0, 0, 0, 0, 0, z0), (.aload_n 0, 1, 0, 0, 0, 0, 0, z0), (.getfield 96, 3, 9, 37, 0, 0, 0, z0), (.iload_n 1, 1, 0, 0, 0, 0, 0, z0), (.iload_n 2, 1, 0, 0, 0, 0, 0, z0), (.iconst (1), 1, 1, 0, 0, 0, 0, z0), (.if_icmp .ne (7), 3, 28, 0, 0, 0, 0, z0), (.iconst (0), 1, 0, 0, 0, 0, 0, z0), (.goto (9), 3, 34, 0, 0, 0, 0, z0)]
def qM_opn_28 : List zIns := [(.aload_n 0, 1, 0, 0, 0, 0, 0, z0), (.getfield 84, 3, 9, 33, 0, 0, 0, z0), (.iload_n 1, 1, 0, 0, 0, 0, 0, z0), (.iaload, 1, 0, 0, 0, 0, 0, z0)]
def qM_opn_34 : List zIns := [(.iastore, 1, 0, 0, 0, 0, 0, z0), (.aload_n 0, 1, 0, 0, 0, 0, 0, z0), (.getfield 99, 3, 9, 38, 0, 0, 0, z0), (.iload_n 1, 1, 0, 0, 0, 0, 0, z0), (.iload 4, 2, 0, 0, 0, 0, 0, z0), (.bastore, 1, 2, 0, 0, 0, 0, z0), (.aload_n 0, 1, 0, 0, 0, 0, 0, z0), (.getfield 87, 3, 9, 34, 0, 0, 0, z0), (.iload_n 1, 1, 0, 0, 0, 0, 0, z0), (.iload_n 2, 1, 0, 0, 0, 0, 0, z0), (.iconst (2), 1, 2, 0, 0, 0, 0, z0), (.if_icmp .ne (12), 3, 62, 0, 0, 0, 0, z0), (.aload_n 0, 1, 0, 0, 0, 0, 0, z0), (.getfield 87, 3, 9, 34, 0, 0, 0, z0), (.iload_n 1, 1, 0, 0, 0, 0, 0, z0), (.iaload, 1, 0, 0, 0, 0, 0, z0), (.goto (4), 3, 63, 0, 0, 0, 0, z0)]
def qM_opn_62 : List zIns := [(.iconst (0), 1, 0, 0, 0, 0, 0, z0)]
def qM_opn_63 : List zIns := [(.iastore, 1, 0, 0, 0, 0, 0, z0), (.aload_n 0, 1, 0, 0, 0, 0, 0, z0), (.iload_n 1, 1, 0, 0, 0, 0, 0, z0), (.invokevirtual 247, 3, 1, 9, 0, 0, 0, mM_forget), (.return_, 1, 0, 0, 0, 0, 0, z0)]
def cdM_opn : zCd := fun a => match a with
  | 0 => some qM_opn_0
  | 28 => some qM_opn_28
  | 34 => some qM_opn_34
  | 62 => some qM_opn_62
  | 63 => some qM_opn_63
  | _ => none
set_option maxRecDepth 100000 in
theorem bM_opn_0 : zcode (mM_opn) 0 qM_opn_0 := zcode_of (by decide +kernel) (zoks_cons rfl (zoks_cons (And.intro rfl kF53) (zoks_cons rfl (zoks_cons rfl (zoks_cons (And.intro rfl rfl) (zoks_cons rfl (zoks_cons (And.intro rfl kF63) (zoks_cons rfl (zoks_cons rfl (zoks_cons (And.intro rfl rfl) (zoks_cons rfl (zoks_cons (And.intro rfl kF69) (zoks_cons rfl (zoks_cons rfl (zoks_cons (And.intro rfl (by decide)) (zoks_cons (And.intro rfl (by decide)) (zoks_cons (And.intro rfl (by decide)) (zoks_cons (And.intro rfl (by decide)) trivial))))))))))))))))))
set_option maxRecDepth 100000 in
theorem bM_opn_28 : zcode (mM_opn) 28 qM_opn_28 := zcode_of (by decide +kernel) (zoks_cons rfl (zoks_cons (And.intro rfl kF65) (zoks_cons rfl (zoks_cons (And.intro rfl rfl) trivial))))
set_option maxRecDepth 100000 in
theorem bM_opn_34 : zcode (mM_opn) 34 qM_opn_34 := zcode_of (by decide +kernel) (zoks_cons (And.intro rfl rfl) (zoks_cons rfl (zoks_cons (And.intro rfl kF54) (zoks_cons rfl (zoks_cons rfl (zoks_cons (And.intro rfl rfl) (zoks_cons rfl (zoks_cons (And.intro rfl kF62) (zoks_cons rfl (zoks_cons rfl (zoks_cons (And.intro rfl (by decide)) (zoks_cons (And.intro rfl (by decide)) (zoks_cons rfl (zoks_cons (And.intro rfl kF62) (zoks_cons rfl (zoks_cons (And.intro rfl rfl) (zoks_cons (And.intro rfl (by decide)) trivial)))))))))))))))))
set_option maxRecDepth 100000 in
theorem bM_opn_62 : zcode (mM_opn) 62 qM_opn_62 := zcode_of (by decide +kernel) (zoks_cons (And.intro rfl (by decide)) trivial)
set_option maxRecDepth 100000 in
theorem bM_opn_63 : zcode (mM_opn) 63 qM_opn_63 := zcode_of (by decide +kernel) (zoks_cons (And.intro rfl rfl) (zoks_cons rfl (zoks_cons rfl (zoks_cons (And.intro rfl kV69) (zoks_cons (And.intro rfl rfl) trivial)))))
theorem kM_opn : zcd (mM_opn) cdM_opn := by
  intro a is h
  unfold cdM_opn at h
  split at h
  · cases h; exact bM_opn_0
  · cases h; exact bM_opn_28
  · cases h; exact bM_opn_34
  · cases h; exact bM_opn_62
  · cases h; exact bM_opn_63
  · cases h
def qM_add_0 : List zIns := [(.aload_n 0, 1, 0, 0, 0, 0, 0, z0), (.iload_n 1, 1, 0, 0, 0, 0, 0, z0), (.iload_n 2, 1, 0, 0, 0, 0, 0, z0), (.invokevirtual 182, 3, 2, 9, 0, 0, 0, mM_both), (.ifCond .eq (10), 3, 16, 0, 0, 0, 0, z0), (.iload_n 3, 1, 0, 0, 0, 0, 0, z0), (.invokestatic 254, 3, 1, 0, 0, 0, 0, mM_isList), (.ifCond .ne (5), 3, 18, 0, 0, 0, 0, z0)]
def qM_add_16 : List zIns := [(.iconst (-1), 1, 1, 0, 1, 0, 0, z0), (.ireturn, 1, 0, 0, 0, 0, 0, z0)]
def qM_add_18 : List zIns := [(.bipush (12), 2, 12, 0, 0, 0, 0, z0), (.iload_n 1, 1, 0, 0, 0, 0, 0, z0), (.imul, 1, 0, 0, 0, 0, 0, z0), (.iload_n 2, 1, 0, 0, 0, 0, 0, z0), (.iadd, 1, 0, 0, 0, 0, 0, z0), (.istore 5, 2, 0, 0, 0, 0, 0, z0), (.aload_n 0, 1, 0, 0, 0, 0, 0, z0), (.iload_n 1, 1, 0, 0, 0, 0, 0, z0), (.iload_n 2, 1, 0, 0, 0, 0, 0, z0), (.invokevirtual 257, 3, 2, 9, 0, 0, 0, mM_mapped), (.ifCond .ne (6), 3, 38, 0, 0, 0, 0, z0), (.bipush (-2), 2, 2, 0, 1, 0, 0, z0), (.ireturn, 1, 0, 0, 0, 0, 0, z0)]
def qM_add_38 : List zIns := [(.aload_n 0, 1, 0, 0, 0, 0, 0, z0), (.iload_n 2, 1, 0, 0, 0, 0, 0, z0), (.invokevirtual 260, 3, 1, 9, 0, 0, 0, mM_gone), (.ifCond .eq (13), 3, 56, 0, 0, 0, 0, z0), (.aload_n 0, 1, 0, 0, 0, 0, 0, z0), (.getfield 84, 3, 9, 33, 0, 0, 0, z0), (.iload 5, 2, 0, 0, 0, 0, 0, z0), (.iaload, 1, 0, 0, 0, 0, 0, z0), (.ifCond .eq (6), 3, 59, 0, 0, 0, 0, z0)]
def qM_add_56 : List zIns := [(.bipush (-3), 2, 3, 0, 1, 0, 0, z0), (.ireturn, 1, 0, 0, 0, 0, 0, z0)]
def qM_add_59 : List zIns := [(.aload_n 0, 1, 0, 0, 0, 0, 0, z0), (.getfield 90, 3, 9, 35, 0, 0, 0, z0), (.iload 5, 2, 0, 0, 0, 0, 0, z0), (.iaload, 1, 0, 0, 0, 0, 0, z0), (.ifCond .le (6), 3, 72, 0, 0, 0, 0, z0), (.bipush (-4), 2, 4, 0, 1, 0, 0, z0), (.ireturn, 1, 0, 0, 0, 0, 0, z0)]
def qM_add_72 : List zIns := [(.aload_n 0, 1, 0, 0, 0, 0, 0, z0), (.iload_n 1, 1, 0, 0, 0, 0, 0, z0), (.iload_n 2, 1, 0, 0, 0, 0, 0, z0), (.iload 4, 2, 0, 0, 0, 0, 0, z0), (.invokevirtual 263, 3, 3, 9, 0, 0, 0, mM_hindered), (.ifCond .eq (6), 3, 86, 0, 0, 0, 0, z0), (.bipush (-5), 2, 5, 0, 1, 0, 0, z0), (.ireturn, 1, 0, 0, 0, 0, 0, z0)]
def qM_add_86 : List zIns := [(.aload_n 0, 1, 0, 0, 0, 0, 0, z0), (.iconst (1), 1, 1, 0, 0, 0, 0, z0), (.iload_n 1, 1, 0, 0, 0, 0, 0, z0), (.iload_n 2, 1, 0, 0, 0, 0, 0, z0), (.iload_n 3, 1, 0, 0, 0, 0, 0, z0), (.iload 4, 2, 0, 0, 0, 0, 0, z0), (.ifCond .eq (7), 3, 100, 0, 0, 0, 0, z0), (.iconst (1), 1, 1, 0, 0, 0, 0, z0), (.goto (4), 3, 101, 0, 0, 0, 0, z0)]
def qM_add_100 : List zIns := [(.iconst (0), 1, 0, 0, 0, 0, 0, z0)]
def qM_add_101 : List zIns := [(.invokevirtual 250, 3, 5, 9, 0, 0, 0, mM_note), (.aload_n 0, 1, 0, 0, 0, 0, 0, z0), (.iload 5, 2, 0, 0, 0, 0, 0, z0), (.iconst (1), 1, 1, 0, 0, 0, 0, z0), (.iload_n 3, 1, 0, 0, 0, 0, 0, z0), (.iload 4, 2, 0, 0, 0, 0, 0, z0), (.invokevirtual 214, 3, 4, 9, 0, 0, 0, mM_opn), (.iconst (0), 1, 0, 0, 0, 0, 0, z0), (.ireturn, 1, 0, 0, 0, 0, 0, z0)]
def cdM_add : zCd := fun a => match a with
  | 0 => some qM_add_0
  | 16 => some qM_add_16
  | 18 => some qM_add_18
  | 38 => some qM_add_38
  | 56 => some qM_add_56
  | 59 => some qM_add_59
  | 72 => some qM_add_72
  | 86 => some qM_add_86
  | 100 => some qM_add_100
  | 101 => some qM_add_101
  | _ => none
set_option maxRecDepth 100000 in
theorem bM_add_0 : zcode (mM_add) 0 qM_add_0 := zcode_of (by decide +kernel) (zoks_cons rfl (zoks_cons rfl (zoks_cons rfl (zoks_cons (And.intro rfl kV54) (zoks_cons (And.intro rfl (by decide)) (zoks_cons rfl (zoks_cons (And.intro rfl kS7) (zoks_cons (And.intro rfl (by decide)) trivial))))))))
set_option maxRecDepth 100000 in
theorem bM_add_16 : zcode (mM_add) 16 qM_add_16 := zcode_of (by decide +kernel) (zoks_cons (And.intro rfl (by decide)) (zoks_cons (And.intro rfl (Or.inl ⟨rfl, rfl⟩)) trivial))
set_option maxRecDepth 100000 in
theorem bM_add_18 : zcode (mM_add) 18 qM_add_18 := zcode_of (by decide +kernel) (zoks_cons (And.intro rfl (by decide)) (zoks_cons rfl (zoks_cons rfl (zoks_cons rfl (zoks_cons rfl (zoks_cons rfl (zoks_cons rfl (zoks_cons rfl (zoks_cons rfl (zoks_cons (And.intro rfl kV71) (zoks_cons (And.intro rfl (by decide)) (zoks_cons (And.intro rfl (by decide)) (zoks_cons (And.intro rfl (Or.inl ⟨rfl, rfl⟩)) trivial)))))))))))))
set_option maxRecDepth 100000 in
theorem bM_add_38 : zcode (mM_add) 38 qM_add_38 := zcode_of (by decide +kernel) (zoks_cons rfl (zoks_cons rfl (zoks_cons (And.intro rfl kV72) (zoks_cons (And.intro rfl (by decide)) (zoks_cons rfl (zoks_cons (And.intro rfl kF65) (zoks_cons rfl (zoks_cons (And.intro rfl rfl) (zoks_cons (And.intro rfl (by decide)) trivial)))))))))
set_option maxRecDepth 100000 in
theorem bM_add_56 : zcode (mM_add) 56 qM_add_56 := zcode_of (by decide +kernel) (zoks_cons (And.intro rfl (by decide)) (zoks_cons (And.intro rfl (Or.inl ⟨rfl, rfl⟩)) trivial))
set_option maxRecDepth 100000 in
theorem bM_add_59 : zcode (mM_add) 59 qM_add_59 := zcode_of (by decide +kernel) (zoks_cons rfl (zoks_cons (And.intro rfl kF53) (zoks_cons rfl (zoks_cons (And.intro rfl rfl) (zoks_cons (And.intro rfl (by decide)) (zoks_cons (And.intro rfl (by decide)) (zoks_cons (And.intro rfl (Or.inl ⟨rfl, rfl⟩)) trivial)))))))
set_option maxRecDepth 100000 in
theorem bM_add_72 : zcode (mM_add) 72 qM_add_72 := zcode_of (by decide +kernel) (zoks_cons rfl (zoks_cons rfl (zoks_cons rfl (zoks_cons rfl (zoks_cons (And.intro rfl kV73) (zoks_cons (And.intro rfl (by decide)) (zoks_cons (And.intro rfl (by decide)) (zoks_cons (And.intro rfl (Or.inl ⟨rfl, rfl⟩)) trivial))))))))
set_option maxRecDepth 100000 in
theorem bM_add_86 : zcode (mM_add) 86 qM_add_86 := zcode_of (by decide +kernel) (zoks_cons rfl (zoks_cons (And.intro rfl (by decide)) (zoks_cons rfl (zoks_cons rfl (zoks_cons rfl (zoks_cons rfl (zoks_cons (And.intro rfl (by decide)) (zoks_cons (And.intro rfl (by decide)) (zoks_cons (And.intro rfl (by decide)) trivial)))))))))
set_option maxRecDepth 100000 in
theorem bM_add_100 : zcode (mM_add) 100 qM_add_100 := zcode_of (by decide +kernel) (zoks_cons (And.intro rfl (by decide)) trivial)
set_option maxRecDepth 100000 in
theorem bM_add_101 : zcode (mM_add) 101 qM_add_101 := zcode_of (by decide +kernel) (zoks_cons (And.intro rfl kV70) (zoks_cons rfl (zoks_cons rfl (zoks_cons (And.intro rfl (by decide)) (zoks_cons rfl (zoks_cons rfl (zoks_cons (And.intro rfl kV61) (zoks_cons (And.intro rfl (by decide)) (zoks_cons (And.intro rfl (Or.inl ⟨rfl, rfl⟩)) trivial)))))))))
theorem kM_add : zcd (mM_add) cdM_add := by
  intro a is h
  unfold cdM_add at h
  split at h
  · cases h; exact bM_add_0
  · cases h; exact bM_add_16
  · cases h; exact bM_add_18
  · cases h; exact bM_add_38
  · cases h; exact bM_add_56
  · cases h; exact bM_add_59
  · cases h; exact bM_add_72
  · cases h; exact bM_add_86
  · cases h; exact bM_add_100
  · cases h; exact bM_add_101
  · cases h
def qM_begin_0 : List zIns := [(.aload_n 0, 1, 0, 0, 0, 0, 0, z0), (.iload_n 1, 1, 0, 0, 0, 0, 0, z0), (.iload_n 2, 1, 0, 0, 0, 0, 0, z0), (.invokevirtual 182, 3, 2, 9, 0, 0, 0, mM_both), (.ifCond .eq (10), 3, 16, 0, 0, 0, 0, z0), (.iload_n 3, 1, 0, 0, 0, 0, 0, z0), (.invokestatic 254, 3, 1, 0, 0, 0, 0, mM_isList), (.ifCond .ne (5), 3, 18, 0, 0, 0, 0, z0)]
def qM_begin_16 : List zIns := [(.iconst (-1), 1, 1, 0, 1, 0, 0, z0), (.ireturn, 1, 0, 0, 0, 0, 0, z0)]
def qM_begin_18 : List zIns := [(.bipush (12), 2, 12, 0, 0, 0, 0, z0), (.iload_n 1, 1, 0, 0, 0, 0, 0, z0), (.imul, 1, 0, 0, 0, 0, 0, z0), (.iload_n 2, 1, 0, 0, 0, 0, 0, z0), (.iadd, 1, 0, 0, 0, 0, 0, z0), (.istore 5, 2, 0, 0, 0, 0, 0, z0), (.aload_n 0, 1, 0, 0, 0, 0, 0, z0), (.iload_n 1, 1, 0, 0, 0, 0, 0, z0), (.iload_n 2, 1, 0, 0, 0, 0, 0, z0), (.invokevirtual 257, 3, 2, 9, 0, 0, 0, mM_mapped), (.ifCond .ne (6), 3, 38, 0, 0, 0, 0, z0), (.bipush (-2), 2, 2, 0, 1, 0, 0, z0), (.ireturn, 1, 0, 0, 0, 0, 0, z0)]
def qM_begin_38 : List zIns := [(.aload_n 0, 1, 0, 0, 0, 0, 0, z0), (.getfield 84, 3, 9, 33, 0, 0, 0, z0), (.iload 5, 2, 0, 0, 0, 0, 0, z0), (.iaload, 1, 0, 0, 0, 0, 0, z0), (.ifCond .ne (6), 3, 51, 0, 0, 0, 0, z0), (.bipush (-3), 2, 3, 0, 1, 0, 0, z0), (.ireturn, 1, 0, 0, 0, 0, 0, z0)]
def qM_begin_51 : List zIns := [(.aload_n 0, 1, 0, 0, 0, 0, 0, z0), (.getfield 90, 3, 9, 35, 0, 0, 0, z0), (.iload 5, 2, 0, 0, 0, 0, 0, z0), (.iaload, 1, 0, 0, 0, 0, 0, z0), (.ifCond .le (6), 3, 64, 0, 0, 0, 0, z0), (.bipush (-4), 2, 4, 0, 1, 0, 0, z0), (.ireturn, 1, 0, 0, 0, 0, 0, z0)]
def qM_begin_64 : List zIns := [(.aload_n 0, 1, 0, 0, 0, 0, 0, z0), (.iload_n 1, 1, 0, 0, 0, 0, 0, z0), (.iload_n 2, 1, 0, 0, 0, 0, 0, z0), (.iconst (0), 1, 0, 0, 0, 0, 0, z0), (.invokevirtual 263, 3, 3, 9, 0, 0, 0, mM_hindered), (.ifCond .eq (6), 3, 77, 0, 0, 0, 0, z0), (.bipush (-5), 2, 5, 0, 1, 0, 0, z0), (.ireturn, 1, 0, 0, 0, 0, 0, z0)]
def qM_begin_77 : List zIns := [(.aload_n 0, 1, 0, 0, 0, 0, 0, z0), (.iload 4, 2, 0, 0, 0, 0, 0, z0), (.iload_n 1, 1, 0, 0, 0, 0, 0, z0), (.iload_n 2, 1, 0, 0, 0, 0, 0, z0), (.iload_n 3, 1, 0, 0, 0, 0, 0, z0), (.iconst (0), 1, 0, 0, 0, 0, 0, z0), (.invokevirtual 250, 3, 5, 9, 0, 0, 0, mM_note), (.aload_n 0, 1, 0, 0, 0, 0, 0, z0), (.iload 5, 2, 0, 0, 0, 0, 0, z0), (.iload 4, 2, 0, 0, 0, 0, 0, z0), (.iload_n 3, 1, 0, 0, 0, 0, 0, z0), (.iconst (0), 1, 0, 0, 0, 0, 0, z0), (.invokevirtual 214, 3, 4, 9, 0, 0, 0, mM_opn), (.iconst (0), 1, 0, 0, 0, 0, 0, z0), (.ireturn, 1, 0, 0, 0, 0, 0, z0)]
def cdM_begin : zCd := fun a => match a with
  | 0 => some qM_begin_0
  | 16 => some qM_begin_16
  | 18 => some qM_begin_18
  | 38 => some qM_begin_38
  | 51 => some qM_begin_51
  | 64 => some qM_begin_64
  | 77 => some qM_begin_77
  | _ => none
set_option maxRecDepth 100000 in
theorem bM_begin_0 : zcode (mM_begin) 0 qM_begin_0 := zcode_of (by decide +kernel) (zoks_cons rfl (zoks_cons rfl (zoks_cons rfl (zoks_cons (And.intro rfl kV54) (zoks_cons (And.intro rfl (by decide)) (zoks_cons rfl (zoks_cons (And.intro rfl kS7) (zoks_cons (And.intro rfl (by decide)) trivial))))))))
set_option maxRecDepth 100000 in
theorem bM_begin_16 : zcode (mM_begin) 16 qM_begin_16 := zcode_of (by decide +kernel) (zoks_cons (And.intro rfl (by decide)) (zoks_cons (And.intro rfl (Or.inl ⟨rfl, rfl⟩)) trivial))
set_option maxRecDepth 100000 in
theorem bM_begin_18 : zcode (mM_begin) 18 qM_begin_18 := zcode_of (by decide +kernel) (zoks_cons (And.intro rfl (by decide)) (zoks_cons rfl (zoks_cons rfl (zoks_cons rfl (zoks_cons rfl (zoks_cons rfl (zoks_cons rfl (zoks_cons rfl (zoks_cons rfl (zoks_cons (And.intro rfl kV71) (zoks_cons (And.intro rfl (by decide)) (zoks_cons (And.intro rfl (by decide)) (zoks_cons (And.intro rfl (Or.inl ⟨rfl, rfl⟩)) trivial)))))))))))))
set_option maxRecDepth 100000 in
theorem bM_begin_38 : zcode (mM_begin) 38 qM_begin_38 := zcode_of (by decide +kernel) (zoks_cons rfl (zoks_cons (And.intro rfl kF65) (zoks_cons rfl (zoks_cons (And.intro rfl rfl) (zoks_cons (And.intro rfl (by decide)) (zoks_cons (And.intro rfl (by decide)) (zoks_cons (And.intro rfl (Or.inl ⟨rfl, rfl⟩)) trivial)))))))
set_option maxRecDepth 100000 in
theorem bM_begin_51 : zcode (mM_begin) 51 qM_begin_51 := zcode_of (by decide +kernel) (zoks_cons rfl (zoks_cons (And.intro rfl kF53) (zoks_cons rfl (zoks_cons (And.intro rfl rfl) (zoks_cons (And.intro rfl (by decide)) (zoks_cons (And.intro rfl (by decide)) (zoks_cons (And.intro rfl (Or.inl ⟨rfl, rfl⟩)) trivial)))))))
set_option maxRecDepth 100000 in
theorem bM_begin_64 : zcode (mM_begin) 64 qM_begin_64 := zcode_of (by decide +kernel) (zoks_cons rfl (zoks_cons rfl (zoks_cons rfl (zoks_cons (And.intro rfl (by decide)) (zoks_cons (And.intro rfl kV73) (zoks_cons (And.intro rfl (by decide)) (zoks_cons (And.intro rfl (by decide)) (zoks_cons (And.intro rfl (Or.inl ⟨rfl, rfl⟩)) trivial))))))))
set_option maxRecDepth 100000 in
theorem bM_begin_77 : zcode (mM_begin) 77 qM_begin_77 := zcode_of (by decide +kernel) (zoks_cons rfl (zoks_cons rfl (zoks_cons rfl (zoks_cons rfl (zoks_cons rfl (zoks_cons (And.intro rfl (by decide)) (zoks_cons (And.intro rfl kV70) (zoks_cons rfl (zoks_cons rfl (zoks_cons rfl (zoks_cons rfl (zoks_cons (And.intro rfl (by decide)) (zoks_cons (And.intro rfl kV61) (zoks_cons (And.intro rfl (by decide)) (zoks_cons (And.intro rfl (Or.inl ⟨rfl, rfl⟩)) trivial)))))))))))))))
theorem kM_begin : zcd (mM_begin) cdM_begin := by
  intro a is h
  unfold cdM_begin at h
  split at h
  · cases h; exact bM_begin_0
  · cases h; exact bM_begin_16
  · cases h; exact bM_begin_18
  · cases h; exact bM_begin_38
  · cases h; exact bM_begin_51
  · cases h; exact bM_begin_64
  · cases h; exact bM_begin_77
  · cases h
def qM_edit_0 : List zIns := [(.aload_n 0, 1, 0, 0, 0, 0, 0, z0), (.iload_n 1, 1, 0, 0, 0, 0, 0, z0), (.iload_n 2, 1, 0, 0, 0, 0, 0, z0), (.iload_n 3, 1, 0, 0, 0, 0, 0, z0), (.iconst (2), 1, 2, 0, 0, 0, 0, z0), (.invokevirtual 267, 3, 4, 9, 0, 0, 0, mM_begin), (.ireturn, 1, 0, 0, 0, 0, 0, z0)]
def cdM_edit : zCd := fun a => match a with
  | 0 => some qM_edit_0
  | _ => none
set_option maxRecDepth 100000 in
theorem bM_edit_0 : zcode (mM_edit) 0 qM_edit_0 := zcode_of (by decide +kernel) (zoks_cons rfl (zoks_cons rfl (zoks_cons rfl (zoks_cons rfl (zoks_cons (And.intro rfl (by decide)) (zoks_cons (And.intro rfl kV74) (zoks_cons (And.intro rfl (Or.inl ⟨rfl, rfl⟩)) trivial)))))))
theorem kM_edit : zcd (mM_edit) cdM_edit := by
  intro a is h
  unfold cdM_edit at h
  split at h
  · cases h; exact bM_edit_0
  · cases h
def qM_remove_0 : List zIns := [(.aload_n 0, 1, 0, 0, 0, 0, 0, z0), (.iload_n 1, 1, 0, 0, 0, 0, 0, z0), (.iload_n 2, 1, 0, 0, 0, 0, 0, z0), (.iload_n 3, 1, 0, 0, 0, 0, 0, z0), (.iconst (3), 1, 3, 0, 0, 0, 0, z0), (.invokevirtual 267, 3, 4, 9, 0, 0, 0, mM_begin), (.ireturn, 1, 0, 0, 0, 0, 0, z0)]
def cdM_remove : zCd := fun a => match a with
  | 0 => some qM_remove_0
  | _ => none
set_option maxRecDepth 100000 in
theorem bM_remove_0 : zcode (mM_remove) 0 qM_remove_0 := zcode_of (by decide +kernel) (zoks_cons rfl (zoks_cons rfl (zoks_cons rfl (zoks_cons rfl (zoks_cons (And.intro rfl (by decide)) (zoks_cons (And.intro rfl kV74) (zoks_cons (And.intro rfl (Or.inl ⟨rfl, rfl⟩)) trivial)))))))
theorem kM_remove : zcd (mM_remove) cdM_remove := by
  intro a is h
  unfold cdM_remove at h
  split at h
  · cases h; exact bM_remove_0
  · cases h
def qM_isOpen_0 : List zIns := [(.aload_n 0, 1, 0, 0, 0, 0, 0, z0), (.iload_n 1, 1, 0, 0, 0, 0, 0, z0), (.iload_n 2, 1, 0, 0, 0, 0, 0, z0), (.invokevirtual 182, 3, 2, 9, 0, 0, 0, mM_both), (.ifCond .eq (21), 3, 27, 0, 0, 0, 0, z0), (.aload_n 0, 1, 0, 0, 0, 0, 0, z0), (.getfield 90, 3, 9, 35, 0, 0, 0, z0), (.bipush (12), 2, 12, 0, 0, 0, 0, z0), (.iload_n 1, 1, 0, 0, 0, 0, 0, z0), (.imul, 1, 0, 0, 0, 0, 0, z0), (.iload_n 2, 1, 0, 0, 0, 0, 0, z0), (.iadd, 1, 0, 0, 0, 0, 0, z0), (.iaload, 1, 0, 0, 0, 0, 0, z0), (.ifCond .le (7), 3, 27, 0, 0, 0, 0, z0), (.iconst (1), 1, 1, 0, 0, 0, 0, z0), (.goto (4), 3, 28, 0, 0, 0, 0, z0)]
def qM_isOpen_27 : List zIns := [(.iconst (0), 1, 0, 0, 0, 0, 0, z0)]
def qM_isOpen_28 : List zIns := [(.ireturn, 1, 0, 0, 1, 0, 0, z0)]
def cdM_isOpen : zCd := fun a => match a with
  | 0 => some qM_isOpen_0
  | 27 => some qM_isOpen_27
  | 28 => some qM_isOpen_28
  | _ => none
set_option maxRecDepth 100000 in
theorem bM_isOpen_0 : zcode (mM_isOpen) 0 qM_isOpen_0 := zcode_of (by decide +kernel) (zoks_cons rfl (zoks_cons rfl (zoks_cons rfl (zoks_cons (And.intro rfl kV54) (zoks_cons (And.intro rfl (by decide)) (zoks_cons rfl (zoks_cons (And.intro rfl kF53) (zoks_cons (And.intro rfl (by decide)) (zoks_cons rfl (zoks_cons rfl (zoks_cons rfl (zoks_cons rfl (zoks_cons (And.intro rfl rfl) (zoks_cons (And.intro rfl (by decide)) (zoks_cons (And.intro rfl (by decide)) (zoks_cons (And.intro rfl (by decide)) trivial))))))))))))))))
set_option maxRecDepth 100000 in
theorem bM_isOpen_27 : zcode (mM_isOpen) 27 qM_isOpen_27 := zcode_of (by decide +kernel) (zoks_cons (And.intro rfl (by decide)) trivial)
set_option maxRecDepth 100000 in
theorem bM_isOpen_28 : zcode (mM_isOpen) 28 qM_isOpen_28 := zcode_of (by decide +kernel) (zoks_cons (And.intro rfl (Or.inr (Or.inl ⟨rfl, rfl⟩))) trivial)
theorem kM_isOpen : zcd (mM_isOpen) cdM_isOpen := by
  intro a is h
  unfold cdM_isOpen at h
  split at h
  · cases h; exact bM_isOpen_0
  · cases h; exact bM_isOpen_27
  · cases h; exact bM_isOpen_28
  · cases h
def qM_store_0 : List zIns := [(.aload_n 0, 1, 0, 0, 0, 0, 0, z0), (.iload_n 1, 1, 0, 0, 0, 0, 0, z0), (.iload_n 2, 1, 0, 0, 0, 0, 0, z0), (.invokevirtual 270, 3, 2, 9, 0, 0, 0, mM_isOpen), (.ifCond .eq (18), 3, 24, 0, 0, 0, 0, z0), (.aload_n 0, 1, 0, 0, 0, 0, 0, z0), (.getfield 90, 3, 9, 35, 0, 0, 0, z0), (.bipush (12), 2, 12, 0, 0, 0, 0, z0), (.iload_n 1, 1, 0, 0, 0, 0, 0, z0), (.imul, 1, 0, 0, 0, 0, 0, z0), (.iload_n 2, 1, 0, 0, 0, 0, 0, z0), (.iadd, 1, 0, 0, 0, 0, 0, z0), (.iaload, 1, 0, 0, 0, 0, 0, z0), (.iconst (3), 1, 3, 0, 0, 0, 0, z0), (.if_icmp .ne (5), 3, 26, 0, 0, 0, 0, z0)]
def qM_store_24 : List zIns := [(.iconst (0), 1, 0, 0, 0, 0, 0, z0), (.ireturn, 1, 0, 0, 1, 0, 0, z0)]
def qM_store_26 : List zIns := [(.aload_n 0, 1, 0, 0, 0, 0, 0, z0), (.iconst (4), 1, 4, 0, 0, 0, 0, z0), (.iload_n 1, 1, 0, 0, 0, 0, 0, z0), (.iload_n 2, 1, 0, 0, 0, 0, 0, z0), (.iload_n 3, 1, 0, 0, 0, 0, 0, z0), (.iconst (0), 1, 0, 0, 0, 0, 0, z0), (.invokevirtual 250, 3, 5, 9, 0, 0, 0, mM_note), (.aload_n 0, 1, 0, 0, 0, 0, 0, z0), (.getfield 87, 3, 9, 34, 0, 0, 0, z0), (.bipush (12), 2, 12, 0, 0, 0, 0, z0), (.iload_n 1, 1, 0, 0, 0, 0, 0, z0), (.imul, 1, 0, 0, 0, 0, 0, z0), (.iload_n 2, 1, 0, 0, 0, 0, 0, z0), (.iadd, 1, 0, 0, 0, 0, 0, z0), (.iload_n 3, 1, 0, 0, 0, 0, 0, z0), (.iastore, 1, 0, 0, 0, 0, 0, z0), (.iconst (1), 1, 1, 0, 0, 0, 0, z0), (.ireturn, 1, 0, 0, 1, 0, 0, z0)]
def cdM_store : zCd := fun a => match a with
  | 0 => some qM_store_0
  | 24 => some qM_store_24
  | 26 => some qM_store_26
  | _ => none
set_option maxRecDepth 100000 in
theorem bM_store_0 : zcode (mM_store) 0 qM_store_0 := zcode_of (by decide +kernel) (zoks_cons rfl (zoks_cons rfl (zoks_cons rfl (zoks_cons (And.intro rfl kV75) (zoks_cons (And.intro rfl (by decide)) (zoks_cons rfl (zoks_cons (And.intro rfl kF53) (zoks_cons (And.intro rfl (by decide)) (zoks_cons rfl (zoks_cons rfl (zoks_cons rfl (zoks_cons rfl (zoks_cons (And.intro rfl rfl) (zoks_cons (And.intro rfl (by decide)) (zoks_cons (And.intro rfl (by decide)) trivial)))))))))))))))
set_option maxRecDepth 100000 in
theorem bM_store_24 : zcode (mM_store) 24 qM_store_24 := zcode_of (by decide +kernel) (zoks_cons (And.intro rfl (by decide)) (zoks_cons (And.intro rfl (Or.inr (Or.inl ⟨rfl, rfl⟩))) trivial))
set_option maxRecDepth 100000 in
theorem bM_store_26 : zcode (mM_store) 26 qM_store_26 := zcode_of (by decide +kernel) (zoks_cons rfl (zoks_cons (And.intro rfl (by decide)) (zoks_cons rfl (zoks_cons rfl (zoks_cons rfl (zoks_cons (And.intro rfl (by decide)) (zoks_cons (And.intro rfl kV70) (zoks_cons rfl (zoks_cons (And.intro rfl kF62) (zoks_cons (And.intro rfl (by decide)) (zoks_cons rfl (zoks_cons rfl (zoks_cons rfl (zoks_cons rfl (zoks_cons rfl (zoks_cons (And.intro rfl rfl) (zoks_cons (And.intro rfl (by decide)) (zoks_cons (And.intro rfl (Or.inr (Or.inl ⟨rfl, rfl⟩))) trivial))))))))))))))))))
theorem kM_store : zcd (mM_store) cdM_store := by
  intro a is h
  unfold cdM_store at h
  split at h
  · cases h; exact bM_store_0
  · cases h; exact bM_store_24
  · cases h; exact bM_store_26
  · cases h
def qM_reopen_0 : List zIns := [(.aload_n 0, 1, 0, 0, 0, 0, 0, z0), (.iload_n 1, 1, 0, 0, 0, 0, 0, z0), (.iload_n 2, 1, 0, 0, 0, 0, 0, z0), (.invokevirtual 270, 3, 2, 9, 0, 0, 0, mM_isOpen), (.ifCond .eq (10), 3, 16, 0, 0, 0, 0, z0), (.iload_n 3, 1, 0, 0, 0, 0, 0, z0), (.invokestatic 254, 3, 1, 0, 0, 0, 0, mM_isList), (.ifCond .ne (5), 3, 18, 0, 0, 0, 0, z0)]
def qM_reopen_16 : List zIns := [(.iconst (0), 1, 0, 0, 0, 0, 0, z0), (.ireturn, 1, 0, 0, 1, 0, 0, z0)]
def qM_reopen_18 : List zIns := [(.aload_n 0, 1, 0, 0, 0, 0, 0, z0), (.iconst (5), 1, 5, 0, 0, 0, 0, z0), (.iload_n 1, 1, 0, 0, 0, 0, 0, z0), (.iload_n 2, 1, 0, 0, 0, 0, 0, z0), (.iload_n 3, 1, 0, 0, 0, 0, 0, z0), (.iconst (0), 1, 0, 0, 0, 0, 0, z0), (.invokevirtual 250, 3, 5, 9, 0, 0, 0, mM_note), (.aload_n 0, 1, 0, 0, 0, 0, 0, z0), (.getfield 93, 3, 9, 36, 0, 0, 0, z0), (.bipush (12), 2, 12, 0, 0, 0, 0, z0), (.iload_n 1, 1, 0, 0, 0, 0, 0, z0), (.imul, 1, 0, 0, 0, 0, 0, z0), (.iload_n 2, 1, 0, 0, 0, 0, 0, z0), (.iadd, 1, 0, 0, 0, 0, 0, z0), (.iload_n 3, 1, 0, 0, 0, 0, 0, z0), (.iastore, 1, 0, 0, 0, 0, 0, z0), (.iconst (1), 1, 1, 0, 0, 0, 0, z0), (.ireturn, 1, 0, 0, 1, 0, 0, z0)]
def cdM_reopen : zCd := fun a => match a with
  | 0 => some qM_reopen_0
  | 16 => some qM_reopen_16
  | 18 => some qM_reopen_18
  | _ => none
set_option maxRecDepth 100000 in
theorem bM_reopen_0 : zcode (mM_reopen) 0 qM_reopen_0 := zcode_of (by decide +kernel) (zoks_cons rfl (zoks_cons rfl (zoks_cons rfl (zoks_cons (And.intro rfl kV75) (zoks_cons (And.intro rfl (by decide)) (zoks_cons rfl (zoks_cons (And.intro rfl kS7) (zoks_cons (And.intro rfl (by decide)) trivial))))))))
set_option maxRecDepth 100000 in
theorem bM_reopen_16 : zcode (mM_reopen) 16 qM_reopen_16 := zcode_of (by decide +kernel) (zoks_cons (And.intro rfl (by decide)) (zoks_cons (And.intro rfl (Or.inr (Or.inl ⟨rfl, rfl⟩))) trivial))
set_option maxRecDepth 100000 in
theorem bM_reopen_18 : zcode (mM_reopen) 18 qM_reopen_18 := zcode_of (by decide +kernel) (zoks_cons rfl (zoks_cons (And.intro rfl (by decide)) (zoks_cons rfl (zoks_cons rfl (zoks_cons rfl (zoks_cons (And.intro rfl (by decide)) (zoks_cons (And.intro rfl kV70) (zoks_cons rfl (zoks_cons (And.intro rfl kF63) (zoks_cons (And.intro rfl (by decide)) (zoks_cons rfl (zoks_cons rfl (zoks_cons rfl (zoks_cons rfl (zoks_cons rfl (zoks_cons (And.intro rfl rfl) (zoks_cons (And.intro rfl (by decide)) (zoks_cons (And.intro rfl (Or.inr (Or.inl ⟨rfl, rfl⟩))) trivial))))))))))))))))))
theorem kM_reopen : zcd (mM_reopen) cdM_reopen := by
  intro a is h
  unfold cdM_reopen at h
  split at h
  · cases h; exact bM_reopen_0
  · cases h; exact bM_reopen_16
  · cases h; exact bM_reopen_18
  · cases h
def qM_close_0 : List zIns := [(.aload_n 0, 1, 0, 0, 0, 0, 0, z0), (.getfield 90, 3, 9, 35, 0, 0, 0, z0), (.iload_n 1, 1, 0, 0, 0, 0, 0, z0), (.iconst (0), 1, 0, 0, 0, 0, 0, z0), (.iastore, 1, 0, 0, 0, 0, 0, z0), (.aload_n 0, 1, 0, 0, 0, 0, 0, z0), (.getfield 87, 3, 9, 34, 0, 0, 0, z0), (.iload_n 1, 1, 0, 0, 0, 0, 0, z0), (.aload_n 0, 1, 0, 0, 0, 0, 0, z0), (.iload_n 2, 1, 0, 0, 0, 0, 0, z0), (.aload_n 0, 1, 0, 0, 0, 0, 0, z0), (.getfield 84, 3, 9, 33, 0, 0, 0, z0), (.iload_n 1, 1, 0, 0, 0, 0, 0, z0), (.iaload, 1, 0, 0, 0, 0, 0, z0), (.invokevirtual 198, 3, 2, 9, 0, 0, 0, mM_content), (.iastore, 1, 0, 0, 0, 0, 0, z0), (.aload_n 0, 1, 0, 0, 0, 0, 0, z0), (.iload_n 1, 1, 0, 0, 0, 0, 0, z0), (.invokevirtual 247, 3, 1, 9, 0, 0, 0, mM_forget), (.return_, 1, 0, 0, 0, 0, 0, z0)]
def cdM_close : zCd := fun a => match a with
  | 0 => some qM_close_0
  | _ => none
set_option maxRecDepth 100000 in
theorem bM_close_0 : zcode (mM_close) 0 qM_close_0 := zcode_of (by decide +kernel) (zoks_cons rfl (zoks_cons (And.intro rfl kF53) (zoks_cons rfl (zoks_cons (And.intro rfl (by decide)) (zoks_cons (And.intro rfl rfl) (zoks_cons rfl (zoks_cons (And.intro rfl kF62) (zoks_cons rfl (zoks_cons rfl (zoks_cons rfl (zoks_cons rfl (zoks_cons (And.intro rfl kF65) (zoks_cons rfl (zoks_cons (And.intro rfl rfl) (zoks_cons (And.intro rfl kV58) (zoks_cons (And.intro rfl rfl) (zoks_cons rfl (zoks_cons rfl (zoks_cons (And.intro rfl kV69) (zoks_cons (And.intro rfl rfl) trivial))))))))))))))))))))
theorem kM_close : zcd (mM_close) cdM_close := by
  intro a is h
  unfold cdM_close at h
  split at h
  · cases h; exact bM_close_0
  · cases h
def qM_revert_0 : List zIns := [(.aload_n 0, 1, 0, 0, 0, 0, 0, z0), (.iload_n 1, 1, 0, 0, 0, 0, 0, z0), (.iload_n 2, 1, 0, 0, 0, 0, 0, z0), (.invokevirtual 270, 3, 2, 9, 0, 0, 0, mM_isOpen), (.ifCond .ne (5), 3, 11, 0, 0, 0, 0, z0), (.iconst (0), 1, 0, 0, 0, 0, 0, z0), (.ireturn, 1, 0, 0, 1, 0, 0, z0)]
def qM_revert_11 : List zIns := [(.aload_n 0, 1, 0, 0, 0, 0, 0, z0), (.bipush (6), 2, 6, 0, 0, 0, 0, z0), (.iload_n 1, 1, 0, 0, 0, 0, 0, z0), (.iload_n 2, 1, 0, 0, 0, 0, 0, z0), (.iconst (0), 1, 0, 0, 0, 0, 0, z0), (.iconst (0), 1, 0, 0, 0, 0, 0, z0), (.invokevirtual 250, 3, 5, 9, 0, 0, 0, mM_note), (.aload_n 0, 1, 0, 0, 0, 0, 0, z0), (.bipush (12), 2, 12, 0, 0, 0, 0, z0), (.iload_n 1, 1, 0, 0, 0, 0, 0, z0), (.imul, 1, 0, 0, 0, 0, 0, z0), (.iload_n 2, 1, 0, 0, 0, 0, 0, z0), (.iadd, 1, 0, 0, 0, 0, 0, z0), (.iload_n 2, 1, 0, 0, 0, 0, 0, z0), (.invokevirtual 218, 3, 2, 9, 0, 0, 0, mM_close), (.iconst (1), 1, 1, 0, 0, 0, 0, z0), (.ireturn, 1, 0, 0, 1, 0, 0, z0)]
def cdM_revert : zCd := fun a => match a with
  | 0 => some qM_revert_0
  | 11 => some qM_revert_11
  | _ => none
set_option maxRecDepth 100000 in
theorem bM_revert_0 : zcode (mM_revert) 0 qM_revert_0 := zcode_of (by decide +kernel) (zoks_cons rfl (zoks_cons rfl (zoks_cons rfl (zoks_cons (And.intro rfl kV75) (zoks_cons (And.intro rfl (by decide)) (zoks_cons (And.intro rfl (by decide)) (zoks_cons (And.intro rfl (Or.inr (Or.inl ⟨rfl, rfl⟩))) trivial)))))))
set_option maxRecDepth 100000 in
theorem bM_revert_11 : zcode (mM_revert) 11 qM_revert_11 := zcode_of (by decide +kernel) (zoks_cons rfl (zoks_cons (And.intro rfl (by decide)) (zoks_cons rfl (zoks_cons rfl (zoks_cons (And.intro rfl (by decide)) (zoks_cons (And.intro rfl (by decide)) (zoks_cons (And.intro rfl kV70) (zoks_cons rfl (zoks_cons (And.intro rfl (by decide)) (zoks_cons rfl (zoks_cons rfl (zoks_cons rfl (zoks_cons rfl (zoks_cons rfl (zoks_cons (And.intro rfl kV62) (zoks_cons (And.intro rfl (by decide)) (zoks_cons (And.intro rfl (Or.inr (Or.inl ⟨rfl, rfl⟩))) trivial)))))))))))))))))
theorem kM_revert : zcd (mM_revert) cdM_revert := by
  intro a is h
  unfold cdM_revert at h
  split at h
  · cases h; exact bM_revert_0
  · cases h; exact bM_revert_11
  · cases h
def qM_wanted_0 : List zIns := [(.iconst (0), 1, 0, 0, 0, 0, 0, z0), (.istore 4, 2, 0, 0, 0, 0, 0, z0), (.iconst (0), 1, 0, 0, 0, 0, 0, z0), (.istore 5, 2, 0, 0, 0, 0, 0, z0), (.iconst (0), 1, 0, 0, 0, 0, 0, z0), (.istore 6, 2, 0, 0, 0, 0, 0, z0), (.iconst (0), 1, 0, 0, 0, 0, 0, z0), (.istore 7, 2, 0, 0, 0, 0, 0, z0)]
def qM_wanted_12 : List zIns := [(.iload 7, 2, 0, 0, 0, 0, 0, z0), (.aload_n 0, 1, 0, 0, 0, 0, 0, z0), (.getfield 188, 3, 9, 24, 0, 0, 0, z0), (.if_icmp .ge (70), 3, 88, 0, 0, 0, 0, z0), (.aload_n 0, 1, 0, 0, 0, 0, 0, z0), (.getfield 66, 3, 9, 25, 0, 0, 0, z0), (.iload 7, 2, 0, 0, 0, 0, 0, z0), (.iaload, 1, 0, 0, 0, 0, 0, z0), (.iload_n 2, 1, 0, 0, 0, 0, 0, z0), (.if_icmp .ne (10), 3, 39, 0, 0, 0, 0, z0), (.iload 4, 2, 0, 0, 0, 0, 0, z0), (.iconst (1), 1, 1, 0, 0, 0, 0, z0), (.iadd, 1, 0, 0, 0, 0, 0, z0), (.goto (5), 3, 41, 0, 0, 0, 0, z0)]
def qM_wanted_39 : List zIns := [(.iload 4, 2, 0, 0, 0, 0, 0, z0)]
def qM_wanted_41 : List zIns := [(.istore 4, 2, 0, 0, 0, 0, 0, z0), (.aload_n 0, 1, 0, 0, 0, 0, 0, z0), (.getfield 66, 3, 9, 25, 0, 0, 0, z0), (.iload 7, 2, 0, 0, 0, 0, 0, z0), (.iaload, 1, 0, 0, 0, 0, 0, z0), (.iload_n 2, 1, 0, 0, 0, 0, 0, z0), (.if_icmp .ne (31), 3, 82, 0, 0, 0, 0, z0), (.iload_n 3, 1, 0, 0, 0, 0, 0, z0), (.ifCond .lt (14), 3, 69, 0, 0, 0, 0, z0), (.aload_n 0, 1, 0, 0, 0, 0, 0, z0), (.getfield 69, 3, 9, 26, 0, 0, 0, z0), (.iload 7, 2, 0, 0, 0, 0, 0, z0), (.iaload, 1, 0, 0, 0, 0, 0, z0), (.iload_n 3, 1, 0, 0, 0, 0, 0, z0), (.if_icmp .gt (16), 3, 82, 0, 0, 0, 0, z0)]
def qM_wanted_69 : List zIns := [(.iload 4, 2, 0, 0, 0, 0, 0, z0), (.istore 5, 2, 0, 0, 0, 0, 0, z0), (.aload_n 0, 1, 0, 0, 0, 0, 0, z0), (.getfield 75, 3, 9, 28, 0, 0, 0, z0), (.iload 7, 2, 0, 0, 0, 0, 0, z0), (.baload, 1, 2, 0, 0, 0, 0, z0), (.istore 6, 2, 0, 0, 0, 0, 0, z0)]
def qM_wanted_82 : List zIns := [(.iinc 7 (1), 3, 1, 0, 0, 0, 0, z0), (.goto (-73), 3, 12, 0, 0, 0, 0, z0)]
def qM_wanted_88 : List zIns := [(.iload 6, 2, 0, 0, 0, 0, 0, z0), (.ifCond .ne (12), 3, 102, 0, 0, 0, 0, z0), (.aload_n 0, 1, 0, 0, 0, 0, 0, z0), (.iload_n 1, 1, 0, 0, 0, 0, 0, z0), (.iload_n 2, 1, 0, 0, 0, 0, 0, z0), (.invokevirtual 257, 3, 2, 9, 0, 0, 0, mM_mapped), (.ifCond .ne (7), 3, 106, 0, 0, 0, 0, z0)]
def qM_wanted_102 : List zIns := [(.iconst (0), 1, 0, 0, 0, 0, 0, z0), (.goto (5), 3, 108, 0, 0, 0, 0, z0)]
def qM_wanted_106 : List zIns := [(.iload 5, 2, 0, 0, 0, 0, 0, z0)]
def qM_wanted_108 : List zIns := [(.ireturn, 1, 0, 0, 0, 0, 0, z0)]
def cdM_wanted : zCd := fun a => match a with
  | 0 => some qM_wanted_0
  | 12 => some qM_wanted_12
  | 39 => some qM_wanted_39
  | 41 => some qM_wanted_41
  | 69 => some qM_wanted_69
  | 82 => some qM_wanted_82
  | 88 => some qM_wanted_88
  | 102 => some qM_wanted_102
  | 106 => some qM_wanted_106
  | 108 => some qM_wanted_108
  | _ => none
set_option maxRecDepth 100000 in
theorem bM_wanted_0 : zcode (mM_wanted) 0 qM_wanted_0 := zcode_of (by decide +kernel) (zoks_cons (And.intro rfl (by decide)) (zoks_cons rfl (zoks_cons (And.intro rfl (by decide)) (zoks_cons rfl (zoks_cons (And.intro rfl (by decide)) (zoks_cons rfl (zoks_cons (And.intro rfl (by decide)) (zoks_cons rfl trivial))))))))
set_option maxRecDepth 100000 in
theorem bM_wanted_12 : zcode (mM_wanted) 12 qM_wanted_12 := zcode_of (by decide +kernel) (zoks_cons rfl (zoks_cons rfl (zoks_cons (And.intro rfl kF47) (zoks_cons (And.intro rfl (by decide)) (zoks_cons rfl (zoks_cons (And.intro rfl kF48) (zoks_cons rfl (zoks_cons (And.intro rfl rfl) (zoks_cons rfl (zoks_cons (And.intro rfl (by decide)) (zoks_cons rfl (zoks_cons (And.intro rfl (by decide)) (zoks_cons rfl (zoks_cons (And.intro rfl (by decide)) trivial))))))))))))))
set_option maxRecDepth 100000 in
theorem bM_wanted_39 : zcode (mM_wanted) 39 qM_wanted_39 := zcode_of (by decide +kernel) (zoks_cons rfl trivial)
set_option maxRecDepth 100000 in
theorem bM_wanted_41 : zcode (mM_wanted) 41 qM_wanted_41 := zcode_of (by decide +kernel) (zoks_cons rfl (zoks_cons rfl (zoks_cons (And.intro rfl kF48) (zoks_cons rfl (zoks_cons (And.intro rfl rfl) (zoks_cons rfl (zoks_cons (And.intro rfl (by decide)) (zoks_cons rfl (zoks_cons (And.intro rfl (by decide)) (zoks_cons rfl (zoks_cons (And.intro rfl kF52) (zoks_cons rfl (zoks_cons (And.intro rfl rfl) (zoks_cons rfl (zoks_cons (And.intro rfl (by decide)) trivial)))))))))))))))
set_option maxRecDepth 100000 in
theorem bM_wanted_69 : zcode (mM_wanted) 69 qM_wanted_69 := zcode_of (by decide +kernel) (zoks_cons rfl (zoks_cons rfl (zoks_cons rfl (zoks_cons (And.intro rfl kF49) (zoks_cons rfl (zoks_cons (And.intro rfl rfl) (zoks_cons rfl trivial)))))))
set_option maxRecDepth 100000 in
theorem bM_wanted_82 : zcode (mM_wanted) 82 qM_wanted_82 := zcode_of (by decide +kernel) (zoks_cons (And.intro rfl (by decide)) (zoks_cons (And.intro rfl (by decide)) trivial))
set_option maxRecDepth 100000 in
theorem bM_wanted_88 : zcode (mM_wanted) 88 qM_wanted_88 := zcode_of (by decide +kernel) (zoks_cons rfl (zoks_cons (And.intro rfl (by decide)) (zoks_cons rfl (zoks_cons rfl (zoks_cons rfl (zoks_cons (And.intro rfl kV71) (zoks_cons (And.intro rfl (by decide)) trivial)))))))
set_option maxRecDepth 100000 in
theorem bM_wanted_102 : zcode (mM_wanted) 102 qM_wanted_102 := zcode_of (by decide +kernel) (zoks_cons (And.intro rfl (by decide)) (zoks_cons (And.intro rfl (by decide)) trivial))
set_option maxRecDepth 100000 in
theorem bM_wanted_106 : zcode (mM_wanted) 106 qM_wanted_106 := zcode_of (by decide +kernel) (zoks_cons rfl trivial)
set_option maxRecDepth 100000 in
theorem bM_wanted_108 : zcode (mM_wanted) 108 qM_wanted_108 := zcode_of (by decide +kernel) (zoks_cons (And.intro rfl (Or.inl ⟨rfl, rfl⟩)) trivial)
theorem kM_wanted : zcd (mM_wanted) cdM_wanted := by
  intro a is h
  unfold cdM_wanted at h
  split at h
  · cases h; exact bM_wanted_0
  · cases h; exact bM_wanted_12
  · cases h; exact bM_wanted_39
  · cases h; exact bM_wanted_41
  · cases h; exact bM_wanted_69
  · cases h; exact bM_wanted_82
  · cases h; exact bM_wanted_88
  · cases h; exact bM_wanted_102
  · cases h; exact bM_wanted_106
  · cases h; exact bM_wanted_108
  · cases h
def qM_bring_0 : List zIns := [(.iconst (0), 1, 0, 0, 0, 0, 0, z0), (.istore_n 3, 1, 0, 0, 0, 0, 0, z0), (.iconst (0), 1, 0, 0, 0, 0, 0, z0), (.istore 4, 2, 0, 0, 0, 0, 0, z0)]
def qM_bring_5 : List zIns := [(.iload 4, 2, 0, 0, 0, 0, 0, z0), (.aload_n 0, 1, 0, 0, 0, 0, 0, z0), (.getfield 120, 3, 9, 2, 0, 0, 0, z0), (.if_icmp .ge (127), 3, 138, 0, 0, 0, 0, z0), (.bipush (12), 2, 12, 0, 0, 0, 0, z0), (.iload_n 1, 1, 0, 0, 0, 0, 0, z0), (.imul, 1, 0, 0, 0, 0, 0, z0), (.iload 4, 2, 0, 0, 0, 0, 0, z0), (.iadd, 1, 0, 0, 0, 0, 0, z0), (.istore 5, 2, 0, 0, 0, 0, 0, z0), (.aload_n 0, 1, 0, 0, 0, 0, 0, z0), (.iload_n 1, 1, 0, 0, 0, 0, 0, z0), (.iload 4, 2, 0, 0, 0, 0, 0, z0), (.iload_n 2, 1, 0, 0, 0, 0, 0, z0), (.invokevirtual 273, 3, 3, 9, 0, 0, 0, mM_wanted), (.istore 6, 2, 0, 0, 0, 0, 0, z0), (.aload_n 0, 1, 0, 0, 0, 0, 0, z0), (.getfield 90, 3, 9, 35, 0, 0, 0, z0), (.iload 5, 2, 0, 0, 0, 0, 0, z0), (.iaload, 1, 0, 0, 0, 0, 0, z0), (.ifCond .ne (45), 3, 85, 0, 0, 0, 0, z0), (.aload_n 0, 1, 0, 0, 0, 0, 0, z0), (.getfield 84, 3, 9, 33, 0, 0, 0, z0), (.iload 5, 2, 0, 0, 0, 0, 0, z0), (.iaload, 1, 0, 0, 0, 0, 0, z0), (.iload 6, 2, 0, 0, 0, 0, 0, z0), (.if_icmp .eq (33), 3, 85, 0, 0, 0, 0, z0), (.aload_n 0, 1, 0, 0, 0, 0, 0, z0), (.getfield 84, 3, 9, 33, 0, 0, 0, z0), (.iload 5, 2, 0, 0, 0, 0, 0, z0), (.iload 6, 2, 0, 0, 0, 0, 0, z0), (.iastore, 1, 0, 0, 0, 0, 0, z0), (.aload_n 0, 1, 0, 0, 0, 0, 0, z0), (.getfield 87, 3, 9, 34, 0, 0, 0, z0), (.iload 5, 2, 0, 0, 0, 0, 0, z0), (.aload_n 0, 1, 0, 0, 0, 0, 0, z0), (.iload 4, 2, 0, 0, 0, 0, 0, z0), (.iload 6, 2, 0, 0, 0, 0, 0, z0), (.invokevirtual 198, 3, 2, 9, 0, 0, 0, mM_content), (.iastore, 1, 0, 0, 0, 0, 0, z0), (.iinc 3 (1), 3, 1, 0, 0, 0, 0, z0), (.goto (50), 3, 132, 0, 0, 0, 0, z0)]
def qM_bring_85 : List zIns := [(.aload_n 0, 1, 0, 0, 0, 0, 0, z0), (.getfield 90, 3, 9, 35, 0, 0, 0, z0), (.iload 5, 2, 0, 0, 0, 0, 0, z0), (.iaload, 1, 0, 0, 0, 0, 0, z0), (.iconst (2), 1, 2, 0, 0, 0, 0, z0), (.if_icmp .ne (39), 3, 132, 0, 0, 0, 0, z0), (.aload_n 0, 1, 0, 0, 0, 0, 0, z0), (.getfield 96, 3, 9, 37, 0, 0, 0, z0), (.iload 5, 2, 0, 0, 0, 0, 0, z0), (.iaload, 1, 0, 0, 0, 0, 0, z0), (.iload 6, 2, 0, 0, 0, 0, 0, z0), (.if_icmp .ge (27), 3, 132, 0, 0, 0, 0, z0), (.aload_n 0, 1, 0, 0, 0, 0, 0, z0), (.getfield 102, 3, 9, 39, 0, 0, 0, z0), (.iload 5, 2, 0, 0, 0, 0, 0, z0), (.iaload, 1, 0, 0, 0, 0, 0, z0), (.iload 6, 2, 0, 0, 0, 0, 0, z0), (.if_icmp .eq (15), 3, 132, 0, 0, 0, 0, z0), (.aload_n 0, 1, 0, 0, 0, 0, 0, z0), (.getfield 102, 3, 9, 39, 0, 0, 0, z0), (.iload 5, 2, 0, 0, 0, 0, 0, z0), (.iload 6, 2, 0, 0, 0, 0, 0, z0), (.iastore, 1, 0, 0, 0, 0, 0, z0), (.iinc 3 (1), 3, 1, 0, 0, 0, 0, z0)]
def qM_bring_132 : List zIns := [(.iinc 4 (1), 3, 1, 0, 0, 0, 0, z0), (.goto (-130), 3, 5, 0, 0, 0, 0, z0)]
def qM_bring_138 : List zIns := [(.iload_n 3, 1, 0, 0, 0, 0, 0, z0), (.ireturn, 1, 0, 0, 0, 0, 0, z0)]
def cdM_bring : zCd := fun a => match a with
  | 0 => some qM_bring_0
  | 5 => some qM_bring_5
  | 85 => some qM_bring_85
  | 132 => some qM_bring_132
  | 138 => some qM_bring_138
  | _ => none
set_option maxRecDepth 100000 in
theorem bM_bring_0 : zcode (mM_bring) 0 qM_bring_0 := zcode_of (by decide +kernel) (zoks_cons (And.intro rfl (by decide)) (zoks_cons rfl (zoks_cons (And.intro rfl (by decide)) (zoks_cons rfl trivial))))
set_option maxRecDepth 100000 in
theorem bM_bring_5 : zcode (mM_bring) 5 qM_bring_5 := zcode_of (by decide +kernel) (zoks_cons rfl (zoks_cons rfl (zoks_cons (And.intro rfl kF30) (zoks_cons (And.intro rfl (by decide)) (zoks_cons (And.intro rfl (by decide)) (zoks_cons rfl (zoks_cons rfl (zoks_cons rfl (zoks_cons rfl (zoks_cons rfl (zoks_cons rfl (zoks_cons rfl (zoks_cons rfl (zoks_cons rfl (zoks_cons (And.intro rfl kV76) (zoks_cons rfl (zoks_cons rfl (zoks_cons (And.intro rfl kF53) (zoks_cons rfl (zoks_cons (And.intro rfl rfl) (zoks_cons (And.intro rfl (by decide)) (zoks_cons rfl (zoks_cons (And.intro rfl kF65) (zoks_cons rfl (zoks_cons (And.intro rfl rfl) (zoks_cons rfl (zoks_cons (And.intro rfl (by decide)) (zoks_cons rfl (zoks_cons (And.intro rfl kF65) (zoks_cons rfl (zoks_cons rfl (zoks_cons (And.intro rfl rfl) (zoks_cons rfl (zoks_cons (And.intro rfl kF62) (zoks_cons rfl (zoks_cons rfl (zoks_cons rfl (zoks_cons rfl (zoks_cons (And.intro rfl kV58) (zoks_cons (And.intro rfl rfl) (zoks_cons (And.intro rfl (by decide)) (zoks_cons (And.intro rfl (by decide)) trivial))))))))))))))))))))))))))))))))))))))))))
set_option maxRecDepth 100000 in
theorem bM_bring_85 : zcode (mM_bring) 85 qM_bring_85 := zcode_of (by decide +kernel) (zoks_cons rfl (zoks_cons (And.intro rfl kF53) (zoks_cons rfl (zoks_cons (And.intro rfl rfl) (zoks_cons (And.intro rfl (by decide)) (zoks_cons (And.intro rfl (by decide)) (zoks_cons rfl (zoks_cons (And.intro rfl kF69) (zoks_cons rfl (zoks_cons (And.intro rfl rfl) (zoks_cons rfl (zoks_cons (And.intro rfl (by decide)) (zoks_cons rfl (zoks_cons (And.intro rfl kF66) (zoks_cons rfl (zoks_cons (And.intro rfl rfl) (zoks_cons rfl (zoks_cons (And.intro rfl (by decide)) (zoks_cons rfl (zoks_cons (And.intro rfl kF66) (zoks_cons rfl (zoks_cons rfl (zoks_cons (And.intro rfl rfl) (zoks_cons (And.intro rfl (by decide)) trivial))))))))))))))))))))))))
set_option maxRecDepth 100000 in
theorem bM_bring_132 : zcode (mM_bring) 132 qM_bring_132 := zcode_of (by decide +kernel) (zoks_cons (And.intro rfl (by decide)) (zoks_cons (And.intro rfl (by decide)) trivial))
set_option maxRecDepth 100000 in
theorem bM_bring_138 : zcode (mM_bring) 138 qM_bring_138 := zcode_of (by decide +kernel) (zoks_cons rfl (zoks_cons (And.intro rfl (Or.inl ⟨rfl, rfl⟩)) trivial))
theorem kM_bring : zcd (mM_bring) cdM_bring := by
  intro a is h
  unfold cdM_bring at h
  split at h
  · cases h; exact bM_bring_0
  · cases h; exact bM_bring_5
  · cases h; exact bM_bring_85
  · cases h; exact bM_bring_132
  · cases h; exact bM_bring_138
  · cases h
def qM_sync_0 : List zIns := [(.iload_n 1, 1, 0, 0, 0, 0, 0, z0), (.invokestatic 124, 3, 1, 0, 0, 0, 0, mM_isClient), (.ifCond .ne (5), 3, 9, 0, 0, 0, 0, z0), (.iconst (-1), 1, 1, 0, 1, 0, 0, z0), (.ireturn, 1, 0, 0, 0, 0, 0, z0)]
def qM_sync_9 : List zIns := [(.aload_n 0, 1, 0, 0, 0, 0, 0, z0), (.bipush (7), 2, 7, 0, 0, 0, 0, z0), (.iload_n 1, 1, 0, 0, 0, 0, 0, z0), (.iload_n 2, 1, 0, 0, 0, 0, 0, z0), (.iconst (0), 1, 0, 0, 0, 0, 0, z0), (.iconst (0), 1, 0, 0, 0, 0, 0, z0), (.invokevirtual 250, 3, 5, 9, 0, 0, 0, mM_note), (.aload_n 0, 1, 0, 0, 0, 0, 0, z0), (.iload_n 1, 1, 0, 0, 0, 0, 0, z0), (.iload_n 2, 1, 0, 0, 0, 0, 0, z0), (.invokevirtual 221, 3, 2, 9, 0, 0, 0, mM_bring), (.ireturn, 1, 0, 0, 0, 0, 0, z0)]
def cdM_sync : zCd := fun a => match a with
  | 0 => some qM_sync_0
  | 9 => some qM_sync_9
  | _ => none
set_option maxRecDepth 100000 in
theorem bM_sync_0 : zcode (mM_sync) 0 qM_sync_0 := zcode_of (by decide +kernel) (zoks_cons rfl (zoks_cons (And.intro rfl kS4) (zoks_cons (And.intro rfl (by decide)) (zoks_cons (And.intro rfl (by decide)) (zoks_cons (And.intro rfl (Or.inl ⟨rfl, rfl⟩)) trivial)))))
set_option maxRecDepth 100000 in
theorem bM_sync_9 : zcode (mM_sync) 9 qM_sync_9 := zcode_of (by decide +kernel) (zoks_cons rfl (zoks_cons (And.intro rfl (by decide)) (zoks_cons rfl (zoks_cons rfl (zoks_cons (And.intro rfl (by decide)) (zoks_cons (And.intro rfl (by decide)) (zoks_cons (And.intro rfl kV70) (zoks_cons rfl (zoks_cons rfl (zoks_cons rfl (zoks_cons (And.intro rfl kV63) (zoks_cons (And.intro rfl (Or.inl ⟨rfl, rfl⟩)) trivial))))))))))))
theorem kM_sync : zcd (mM_sync) cdM_sync := by
  intro a is h
  unfold cdM_sync at h
  split at h
  · cases h; exact bM_sync_0
  · cases h; exact bM_sync_9
  · cases h
def qM_joining_0 : List zIns := [(.bipush (12), 2, 12, 0, 0, 0, 0, z0), (.iload_n 1, 1, 0, 0, 0, 0, 0, z0), (.imul, 1, 0, 0, 0, 0, 0, z0), (.iload_n 3, 1, 0, 0, 0, 0, 0, z0), (.iadd, 1, 0, 0, 0, 0, 0, z0), (.istore 5, 2, 0, 0, 0, 0, 0, z0), (.aload_n 0, 1, 0, 0, 0, 0, 0, z0), (.iload_n 2, 1, 0, 0, 0, 0, 0, z0), (.invokevirtual 194, 3, 1, 9, 0, 0, 0, mM_head), (.istore 6, 2, 0, 0, 0, 0, 0, z0), (.aload_n 0, 1, 0, 0, 0, 0, 0, z0), (.iload_n 3, 1, 0, 0, 0, 0, 0, z0), (.invokevirtual 260, 3, 1, 9, 0, 0, 0, mM_gone), (.ifCond .eq (74), 3, 94, 0, 0, 0, 0, z0), (.aload_n 0, 1, 0, 0, 0, 0, 0, z0), (.getfield 90, 3, 9, 35, 0, 0, 0, z0), (.iload 5, 2, 0, 0, 0, 0, 0, z0), (.iaload, 1, 0, 0, 0, 0, 0, z0), (.ifCond .ne (64), 3, 94, 0, 0, 0, 0, z0), (.aload_n 0, 1, 0, 0, 0, 0, 0, z0), (.iload_n 2, 1, 0, 0, 0, 0, 0, z0), (.invokevirtual 201, 3, 1, 9, 0, 0, 0, mM_exclusive), (.istore 7, 2, 0, 0, 0, 0, 0, z0), (.aload_n 0, 1, 0, 0, 0, 0, 0, z0), (.iload 5, 2, 0, 0, 0, 0, 0, z0), (.iconst (1), 1, 1, 0, 0, 0, 0, z0), (.iload 4, 2, 0, 0, 0, 0, 0, z0), (.iload 7, 2, 0, 0, 0, 0, 0, z0), (.invokevirtual 214, 3, 4, 9, 0, 0, 0, mM_opn), (.aload_n 0, 1, 0, 0, 0, 0, 0, z0), (.getfield 87, 3, 9, 34, 0, 0, 0, z0), (.iload 5, 2, 0, 0, 0, 0, 0, z0), (.aload_n 0, 1, 0, 0, 0, 0, 0, z0), (.iload_n 2, 1, 0, 0, 0, 0, 0, z0), (.iload 6, 2, 0, 0, 0, 0, 0, z0), (.invokevirtual 198, 3, 2, 9, 0, 0, 0, mM_content), (.iastore, 1, 0, 0, 0, 0, 0, z0), (.aload_n 0, 1, 0, 0, 0, 0, 0, z0), (.getfield 111, 3, 9, 42, 0, 0, 0, z0), (.iload 5, 2, 0, 0, 0, 0, 0, z0), (.iload_n 2, 1, 0, 0, 0, 0, 0, z0), (.iconst (1), 1, 1, 0, 0, 0, 0, z0), (.iadd, 1, 0, 0, 0, 0, 0, z0), (.iastore, 1, 0, 0, 0, 0, 0, z0), (.aload_n 0, 1, 0, 0, 0, 0, 0, z0), (.getfield 114, 3, 9, 43, 0, 0, 0, z0), (.iload 5, 2, 0, 0, 0, 0, 0, z0), (.iload 6, 2, 0, 0, 0, 0, 0, z0), (.iastore, 1, 0, 0, 0, 0, 0, z0), (.aload_n 0, 1, 0, 0, 0, 0, 0, z0), (.getfield 117, 3, 9, 44, 0, 0, 0, z0), (.iload 5, 2, 0, 0, 0, 0, 0, z0), (.iconst (1), 1, 1, 0, 0, 0, 0, z0), (.bastore, 1, 2, 0, 0, 0, 0, z0), (.iconst (1), 1, 1, 0, 0, 0, 0, z0), (.ireturn, 1, 0, 0, 0, 0, 0, z0)]
def qM_joining_94 : List zIns := [(.aload_n 0, 1, 0, 0, 0, 0, 0, z0), (.getfield 90, 3, 9, 35, 0, 0, 0, z0), (.iload 5, 2, 0, 0, 0, 0, 0, z0), (.iaload, 1, 0, 0, 0, 0, 0, z0), (.ifCond .ne (13), 3, 114, 0, 0, 0, 0, z0), (.aload_n 0, 1, 0, 0, 0, 0, 0, z0), (.iload 5, 2, 0, 0, 0, 0, 0, z0), (.iconst (2), 1, 2, 0, 0, 0, 0, z0), (.iload 4, 2, 0, 0, 0, 0, 0, z0), (.iconst (0), 1, 0, 0, 0, 0, 0, z0), (.invokevirtual 214, 3, 4, 9, 0, 0, 0, mM_opn)]
def qM_joining_114 : List zIns := [(.aload_n 0, 1, 0, 0, 0, 0, 0, z0), (.getfield 105, 3, 9, 40, 0, 0, 0, z0), (.iload 5, 2, 0, 0, 0, 0, 0, z0), (.iload_n 2, 1, 0, 0, 0, 0, 0, z0), (.iconst (1), 1, 1, 0, 0, 0, 0, z0), (.iadd, 1, 0, 0, 0, 0, 0, z0), (.iastore, 1, 0, 0, 0, 0, 0, z0), (.aload_n 0, 1, 0, 0, 0, 0, 0, z0), (.getfield 108, 3, 9, 41, 0, 0, 0, z0), (.iload 5, 2, 0, 0, 0, 0, 0, z0), (.iload 6, 2, 0, 0, 0, 0, 0, z0), (.iastore, 1, 0, 0, 0, 0, 0, z0), (.iconst (2), 1, 2, 0, 0, 0, 0, z0), (.ireturn, 1, 0, 0, 0, 0, 0, z0)]
def cdM_joining : zCd := fun a => match a with
  | 0 => some qM_joining_0
  | 94 => some qM_joining_94
  | 114 => some qM_joining_114
  | _ => none
set_option maxRecDepth 100000 in
theorem bM_joining_0 : zcode (mM_joining) 0 qM_joining_0 := zcode_of (by decide +kernel) (zoks_cons (And.intro rfl (by decide)) (zoks_cons rfl (zoks_cons rfl (zoks_cons rfl (zoks_cons rfl (zoks_cons rfl (zoks_cons rfl (zoks_cons rfl (zoks_cons (And.intro rfl kV57) (zoks_cons rfl (zoks_cons rfl (zoks_cons rfl (zoks_cons (And.intro rfl kV72) (zoks_cons (And.intro rfl (by decide)) (zoks_cons rfl (zoks_cons (And.intro rfl kF53) (zoks_cons rfl (zoks_cons (And.intro rfl rfl) (zoks_cons (And.intro rfl (by decide)) (zoks_cons rfl (zoks_cons rfl (zoks_cons (And.intro rfl kV59) (zoks_cons rfl (zoks_cons rfl (zoks_cons rfl (zoks_cons (And.intro rfl (by decide)) (zoks_cons rfl (zoks_cons rfl (zoks_cons (And.intro rfl kV61) (zoks_cons rfl (zoks_cons (And.intro rfl kF62) (zoks_cons rfl (zoks_cons rfl (zoks_cons rfl (zoks_cons rfl (zoks_cons (And.intro rfl kV58) (zoks_cons (And.intro rfl rfl) (zoks_cons rfl (zoks_cons (And.intro rfl kF68) (zoks_cons rfl (zoks_cons rfl (zoks_cons (And.intro rfl (by decide)) (zoks_cons rfl (zoks_cons (And.intro rfl rfl) (zoks_cons rfl (zoks_cons (And.intro rfl kF70) (zoks_cons rfl (zoks_cons rfl (zoks_cons (And.intro rfl rfl) (zoks_cons rfl (zoks_cons (And.intro rfl kF71) (zoks_cons rfl (zoks_cons (And.intro rfl (by decide)) (zoks_cons (And.intro rfl rfl) (zoks_cons (And.intro rfl (by decide)) (zoks_cons (And.intro rfl (Or.inl ⟨rfl, rfl⟩)) trivial))))))))))))))))))))))))))))))))))))))))))))))))))))))))
set_option maxRecDepth 100000 in
theorem bM_joining_94 : zcode (mM_joining) 94 qM_joining_94 := zcode_of (by decide +kernel) (zoks_cons rfl (zoks_cons (And.intro rfl kF53) (zoks_cons rfl (zoks_cons (And.intro rfl rfl) (zoks_cons (And.intro rfl (by decide)) (zoks_cons rfl (zoks_cons rfl (zoks_cons (And.intro rfl (by decide)) (zoks_cons rfl (zoks_cons (And.intro rfl (by decide)) (zoks_cons (And.intro rfl kV61) trivial)))))))))))
set_option maxRecDepth 100000 in
theorem bM_joining_114 : zcode (mM_joining) 114 qM_joining_114 := zcode_of (by decide +kernel) (zoks_cons rfl (zoks_cons (And.intro rfl kF67) (zoks_cons rfl (zoks_cons rfl (zoks_cons (And.intro rfl (by decide)) (zoks_cons rfl (zoks_cons (And.intro rfl rfl) (zoks_cons rfl (zoks_cons (And.intro rfl kF72) (zoks_cons rfl (zoks_cons rfl (zoks_cons (And.intro rfl rfl) (zoks_cons (And.intro rfl (by decide)) (zoks_cons (And.intro rfl (Or.inl ⟨rfl, rfl⟩)) trivial))))))))))))))
theorem kM_joining : zcd (mM_joining) cdM_joining := by
  intro a is h
  unfold cdM_joining at h
  split at h
  · cases h; exact bM_joining_0
  · cases h; exact bM_joining_94
  · cases h; exact bM_joining_114
  · cases h
def qM_join_0 : List zIns := [(.aload_n 0, 1, 0, 0, 0, 0, 0, z0), (.iload_n 1, 1, 0, 0, 0, 0, 0, z0), (.iload_n 2, 1, 0, 0, 0, 0, 0, z0), (.invokevirtual 182, 3, 2, 9, 0, 0, 0, mM_both), (.ifCond .eq (24), 3, 30, 0, 0, 0, 0, z0), (.aload_n 0, 1, 0, 0, 0, 0, 0, z0), (.iload_n 3, 1, 0, 0, 0, 0, 0, z0), (.invokevirtual 128, 3, 1, 9, 0, 0, 0, mM_isFile), (.ifCond .eq (16), 3, 30, 0, 0, 0, 0, z0), (.iload 4, 2, 0, 0, 0, 0, 0, z0), (.invokestatic 254, 3, 1, 0, 0, 0, 0, mM_isList), (.ifCond .eq (8), 3, 30, 0, 0, 0, 0, z0), (.iload_n 2, 1, 0, 0, 0, 0, 0, z0), (.iload_n 3, 1, 0, 0, 0, 0, 0, z0), (.if_icmp .ne (5), 3, 32, 0, 0, 0, 0, z0)]
def qM_join_30 : List zIns := [(.iconst (-1), 1, 1, 0, 1, 0, 0, z0), (.ireturn, 1, 0, 0, 0, 0, 0, z0)]
def qM_join_32 : List zIns := [(.bipush (12), 2, 12, 0, 0, 0, 0, z0), (.iload_n 1, 1, 0, 0, 0, 0, 0, z0), (.imul, 1, 0, 0, 0, 0, 0, z0), (.iload_n 3, 1, 0, 0, 0, 0, 0, z0), (.iadd, 1, 0, 0, 0, 0, 0, z0), (.istore 5, 2, 0, 0, 0, 0, 0, z0), (.aload_n 0, 1, 0, 0, 0, 0, 0, z0), (.iload_n 3, 1, 0, 0, 0, 0, 0, z0), (.invokevirtual 260, 3, 1, 9, 0, 0, 0, mM_gone), (.istore 6, 2, 0, 0, 0, 0, 0, z0), (.aload_n 0, 1, 0, 0, 0, 0, 0, z0), (.getfield 90, 3, 9, 35, 0, 0, 0, z0), (.iload 5, 2, 0, 0, 0, 0, 0, z0), (.iaload, 1, 0, 0, 0, 0, 0, z0), (.ifCond .ne (7), 3, 61, 0, 0, 0, 0, z0), (.iconst (1), 1, 1, 0, 0, 0, 0, z0), (.goto (4), 3, 62, 0, 0, 0, 0, z0)]
def qM_join_61 : List zIns := [(.iconst (0), 1, 0, 0, 0, 0, 0, z0)]
def qM_join_62 : List zIns := [(.istore 7, 2, 0, 0, 0, 0, 0, z0), (.aload_n 0, 1, 0, 0, 0, 0, 0, z0), (.iload_n 1, 1, 0, 0, 0, 0, 0, z0), (.iload_n 3, 1, 0, 0, 0, 0, 0, z0), (.invokevirtual 257, 3, 2, 9, 0, 0, 0, mM_mapped), (.ifCond .ne (6), 3, 76, 0, 0, 0, 0, z0), (.bipush (-2), 2, 2, 0, 1, 0, 0, z0), (.ireturn, 1, 0, 0, 0, 0, 0, z0)]
def qM_join_76 : List zIns := [(.aload_n 0, 1, 0, 0, 0, 0, 0, z0), (.iload_n 2, 1, 0, 0, 0, 0, 0, z0), (.invokevirtual 260, 3, 1, 9, 0, 0, 0, mM_gone), (.ifCond .eq (6), 3, 87, 0, 0, 0, 0, z0), (.bipush (-3), 2, 3, 0, 1, 0, 0, z0), (.ireturn, 1, 0, 0, 0, 0, 0, z0)]
def qM_join_87 : List zIns := [(.aload_n 0, 1, 0, 0, 0, 0, 0, z0), (.getfield 81, 3, 9, 32, 0, 0, 0, z0), (.bipush (12), 2, 12, 0, 0, 0, 0, z0), (.iload_n 2, 1, 0, 0, 0, 0, 0, z0), (.imul, 1, 0, 0, 0, 0, 0, z0), (.iload_n 3, 1, 0, 0, 0, 0, 0, z0), (.iadd, 1, 0, 0, 0, 0, 0, z0), (.iaload, 1, 0, 0, 0, 0, 0, z0), (.aload_n 0, 1, 0, 0, 0, 0, 0, z0), (.iload_n 2, 1, 0, 0, 0, 0, 0, z0), (.invokevirtual 194, 3, 1, 9, 0, 0, 0, mM_head), (.if_icmp .ne (6), 3, 109, 0, 0, 0, 0, z0), (.bipush (-4), 2, 4, 0, 1, 0, 0, z0), (.ireturn, 1, 0, 0, 0, 0, 0, z0)]
def qM_join_109 : List zIns := [(.iload 7, 2, 0, 0, 0, 0, 0, z0), (.ifCond .ne (37), 3, 148, 0, 0, 0, 0, z0), (.aload_n 0, 1, 0, 0, 0, 0, 0, z0), (.getfield 90, 3, 9, 35, 0, 0, 0, z0), (.iload 5, 2, 0, 0, 0, 0, 0, z0), (.iaload, 1, 0, 0, 0, 0, 0, z0), (.iconst (2), 1, 2, 0, 0, 0, 0, z0), (.if_icmp .ne (23), 3, 145, 0, 0, 0, 0, z0), (.aload_n 0, 1, 0, 0, 0, 0, 0, z0), (.getfield 105, 3, 9, 40, 0, 0, 0, z0), (.iload 5, 2, 0, 0, 0, 0, 0, z0), (.iaload, 1, 0, 0, 0, 0, 0, z0), (.ifCond .gt (13), 3, 145, 0, 0, 0, 0, z0), (.aload_n 0, 1, 0, 0, 0, 0, 0, z0), (.getfield 111, 3, 9, 42, 0, 0, 0, z0), (.iload 5, 2, 0, 0, 0, 0, 0, z0), (.iaload, 1, 0, 0, 0, 0, 0, z0), (.ifCond .le (6), 3, 148, 0, 0, 0, 0, z0)]
def qM_join_145 : List zIns := [(.bipush (-5), 2, 5, 0, 1, 0, 0, z0), (.ireturn, 1, 0, 0, 0, 0, 0, z0)]
def qM_join_148 : List zIns := [(.iload 7, 2, 0, 0, 0, 0, 0, z0), (.ifCond .eq (30), 3, 180, 0, 0, 0, 0, z0), (.aload_n 0, 1, 0, 0, 0, 0, 0, z0), (.getfield 84, 3, 9, 33, 0, 0, 0, z0), (.iload 5, 2, 0, 0, 0, 0, 0, z0), (.iaload, 1, 0, 0, 0, 0, 0, z0), (.iload 6, 2, 0, 0, 0, 0, 0, z0), (.ifCond .eq (7), 3, 169, 0, 0, 0, 0, z0), (.iconst (0), 1, 0, 0, 0, 0, 0, z0), (.goto (8), 3, 174, 0, 0, 0, 0, z0)]
def qM_join_169 : List zIns := [(.aload_n 0, 1, 0, 0, 0, 0, 0, z0), (.iload_n 3, 1, 0, 0, 0, 0, 0, z0), (.invokevirtual 194, 3, 1, 9, 0, 0, 0, mM_head)]
def qM_join_174 : List zIns := [(.if_icmp .eq (6), 3, 180, 0, 0, 0, 0, z0), (.bipush (-6), 2, 6, 0, 1, 0, 0, z0), (.ireturn, 1, 0, 0, 0, 0, 0, z0)]
def qM_join_180 : List zIns := [(.iload 6, 2, 0, 0, 0, 0, 0, z0), (.ifCond .eq (15), 3, 197, 0, 0, 0, 0, z0), (.aload_n 0, 1, 0, 0, 0, 0, 0, z0), (.iload_n 2, 1, 0, 0, 0, 0, 0, z0), (.invokevirtual 201, 3, 1, 9, 0, 0, 0, mM_exclusive), (.ifCond .eq (7), 3, 197, 0, 0, 0, 0, z0), (.iconst (1), 1, 1, 0, 0, 0, 0, z0), (.goto (4), 3, 198, 0, 0, 0, 0, z0)]
def qM_join_197 : List zIns := [(.iconst (0), 1, 0, 0, 0, 0, 0, z0)]
def qM_join_198 : List zIns := [(.istore 8, 2, 0, 0, 0, 0, 0, z0), (.iload 7, 2, 0, 0, 0, 0, 0, z0), (.ifCond .eq (17), 3, 219, 0, 0, 0, 0, z0), (.aload_n 0, 1, 0, 0, 0, 0, 0, z0), (.iload_n 1, 1, 0, 0, 0, 0, 0, z0), (.iload_n 3, 1, 0, 0, 0, 0, 0, z0), (.iload 8, 2, 0, 0, 0, 0, 0, z0), (.invokevirtual 263, 3, 3, 9, 0, 0, 0, mM_hindered), (.ifCond .eq (6), 3, 219, 0, 0, 0, 0, z0), (.bipush (-7), 2, 7, 0, 1, 0, 0, z0), (.ireturn, 1, 0, 0, 0, 0, 0, z0)]
def qM_join_219 : List zIns := [(.aload_n 0, 1, 0, 0, 0, 0, 0, z0), (.bipush (8), 2, 8, 0, 0, 0, 0, z0), (.iload_n 1, 1, 0, 0, 0, 0, 0, z0), (.iload_n 2, 1, 0, 0, 0, 0, 0, z0), (.iload_n 3, 1, 0, 0, 0, 0, 0, z0), (.iload 4, 2, 0, 0, 0, 0, 0, z0), (.invokevirtual 250, 3, 5, 9, 0, 0, 0, mM_note), (.aload_n 0, 1, 0, 0, 0, 0, 0, z0), (.iload_n 1, 1, 0, 0, 0, 0, 0, z0), (.iload_n 2, 1, 0, 0, 0, 0, 0, z0), (.iload_n 3, 1, 0, 0, 0, 0, 0, z0), (.iload 4, 2, 0, 0, 0, 0, 0, z0), (.invokevirtual 224, 3, 4, 9, 0, 0, 0, mM_joining), (.ireturn, 1, 0, 0, 0, 0, 0, z0)]
def cdM_join : zCd := fun a => match a with
  | 0 => some qM_join_0
  | 30 => some qM_join_30
  | 32 => some qM_join_32
  | 61 => some qM_join_61
  | 62 => some qM_join_62
  | 76 => some qM_join_76
  | 87 => some qM_join_87
  | 109 => some qM_join_109
  | 145 => some qM_join_145
  | 148 => some qM_join_148
  | 169 => some qM_join_169
  | 174 => some qM_join_174
  | 180 => some qM_join_180
  | 197 => some qM_join_197
  | 198 => some qM_join_198
  | 219 => some qM_join_219
  | _ => none
set_option maxRecDepth 100000 in
theorem bM_join_0 : zcode (mM_join) 0 qM_join_0 := zcode_of (by decide +kernel) (zoks_cons rfl (zoks_cons rfl (zoks_cons rfl (zoks_cons (And.intro rfl kV54) (zoks_cons (And.intro rfl (by decide)) (zoks_cons rfl (zoks_cons rfl (zoks_cons (And.intro rfl kV44) (zoks_cons (And.intro rfl (by decide)) (zoks_cons rfl (zoks_cons (And.intro rfl kS7) (zoks_cons (And.intro rfl (by decide)) (zoks_cons rfl (zoks_cons rfl (zoks_cons (And.intro rfl (by decide)) trivial)))))))))))))))
set_option maxRecDepth 100000 in
theorem bM_join_30 : zcode (mM_join) 30 qM_join_30 := zcode_of (by decide +kernel) (zoks_cons (And.intro rfl (by decide)) (zoks_cons (And.intro rfl (Or.inl ⟨rfl, rfl⟩)) trivial))
set_option maxRecDepth 100000 in
theorem bM_join_32 : zcode (mM_join) 32 qM_join_32 := zcode_of (by decide +kernel) (zoks_cons (And.intro rfl (by decide)) (zoks_cons rfl (zoks_cons rfl (zoks_cons rfl (zoks_cons rfl (zoks_cons rfl (zoks_cons rfl (zoks_cons rfl (zoks_cons (And.intro rfl kV72) (zoks_cons rfl (zoks_cons rfl (zoks_cons (And.intro rfl kF53) (zoks_cons rfl (zoks_cons (And.intro rfl rfl) (zoks_cons (And.intro rfl (by decide)) (zoks_cons (And.intro rfl (by decide)) (zoks_cons (And.intro rfl (by decide)) trivial)))))))))))))))))
set_option maxRecDepth 100000 in
theorem bM_join_61 : zcode (mM_join) 61 qM_join_61 := zcode_of (by decide +kernel) (zoks_cons (And.intro rfl (by decide)) trivial)
set_option maxRecDepth 100000 in
theorem bM_join_62 : zcode (mM_join) 62 qM_join_62 := zcode_of (by decide +kernel) (zoks_cons rfl (zoks_cons rfl (zoks_cons rfl (zoks_cons rfl (zoks_cons (And.intro rfl kV71) (zoks_cons (And.intro rfl (by decide)) (zoks_cons (And.intro rfl (by decide)) (zoks_cons (And.intro rfl (Or.inl ⟨rfl, rfl⟩)) trivial))))))))
set_option maxRecDepth 100000 in
theorem bM_join_76 : zcode (mM_join) 76 qM_join_76 := zcode_of (by decide +kernel) (zoks_cons rfl (zoks_cons rfl (zoks_cons (And.intro rfl kV72) (zoks_cons (And.intro rfl (by decide)) (zoks_cons (And.intro rfl (by decide)) (zoks_cons (And.intro rfl (Or.inl ⟨rfl, rfl⟩)) trivial))))))
set_option maxRecDepth 100000 in
theorem bM_join_87 : zcode (mM_join) 87 qM_join_87 := zcode_of (by decide +kernel) (zoks_cons rfl (zoks_cons (And.intro rfl kF64) (zoks_cons (And.intro rfl (by decide)) (zoks_cons rfl (zoks_cons rfl (zoks_cons rfl (zoks_cons rfl (zoks_cons (And.intro rfl rfl) (zoks_cons rfl (zoks_cons rfl (zoks_cons (And.intro rfl kV57) (zoks_cons (And.intro rfl (by decide)) (zoks_cons (And.intro rfl (by decide)) (zoks_cons (And.intro rfl (Or.inl ⟨rfl, rfl⟩)) trivial))))))))))))))
set_option maxRecDepth 100000 in
theorem bM_join_109 : zcode (mM_join) 109 qM_join_109 := zcode_of (by decide +kernel) (zoks_cons rfl (zoks_cons (And.intro rfl (by decide)) (zoks_cons rfl (zoks_cons (And.intro rfl kF53) (zoks_cons rfl (zoks_cons (And.intro rfl rfl) (zoks_cons (And.intro rfl (by decide)) (zoks_cons (And.intro rfl (by decide)) (zoks_cons rfl (zoks_cons (And.intro rfl kF67) (zoks_cons rfl (zoks_cons (And.intro rfl rfl) (zoks_cons (And.intro rfl (by decide)) (zoks_cons rfl (zoks_cons (And.intro rfl kF68) (zoks_cons rfl (zoks_cons (And.intro rfl rfl) (zoks_cons (And.intro rfl (by decide)) trivial))))))))))))))))))
set_option maxRecDepth 100000 in
theorem bM_join_145 : zcode (mM_join) 145 qM_join_145 := zcode_of (by decide +kernel) (zoks_cons (And.intro rfl (by decide)) (zoks_cons (And.intro rfl (Or.inl ⟨rfl, rfl⟩)) trivial))
set_option maxRecDepth 100000 in
theorem bM_join_148 : zcode (mM_join) 148 qM_join_148 := zcode_of (by decide +kernel) (zoks_cons rfl (zoks_cons (And.intro rfl (by decide)) (zoks_cons rfl (zoks_cons (And.intro rfl kF65) (zoks_cons rfl (zoks_cons (And.intro rfl rfl) (zoks_cons rfl (zoks_cons (And.intro rfl (by decide)) (zoks_cons (And.intro rfl (by decide)) (zoks_cons (And.intro rfl (by decide)) trivial))))))))))
set_option maxRecDepth 100000 in
theorem bM_join_169 : zcode (mM_join) 169 qM_join_169 := zcode_of (by decide +kernel) (zoks_cons rfl (zoks_cons rfl (zoks_cons (And.intro rfl kV57) trivial)))
set_option maxRecDepth 100000 in
theorem bM_join_174 : zcode (mM_join) 174 qM_join_174 := zcode_of (by decide +kernel) (zoks_cons (And.intro rfl (by decide)) (zoks_cons (And.intro rfl (by decide)) (zoks_cons (And.intro rfl (Or.inl ⟨rfl, rfl⟩)) trivial)))
set_option maxRecDepth 100000 in
theorem bM_join_180 : zcode (mM_join) 180 qM_join_180 := zcode_of (by decide +kernel) (zoks_cons rfl (zoks_cons (And.intro rfl (by decide)) (zoks_cons rfl (zoks_cons rfl (zoks_cons (And.intro rfl kV59) (zoks_cons (And.intro rfl (by decide)) (zoks_cons (And.intro rfl (by decide)) (zoks_cons (And.intro rfl (by decide)) trivial))))))))
set_option maxRecDepth 100000 in
theorem bM_join_197 : zcode (mM_join) 197 qM_join_197 := zcode_of (by decide +kernel) (zoks_cons (And.intro rfl (by decide)) trivial)
set_option maxRecDepth 100000 in
theorem bM_join_198 : zcode (mM_join) 198 qM_join_198 := zcode_of (by decide +kernel) (zoks_cons rfl (zoks_cons rfl (zoks_cons (And.intro rfl (by decide)) (zoks_cons rfl (zoks_cons rfl (zoks_cons rfl (zoks_cons rfl (zoks_cons (And.intro rfl kV73) (zoks_cons (And.intro rfl (by decide)) (zoks_cons (And.intro rfl (by decide)) (zoks_cons (And.intro rfl (Or.inl ⟨rfl, rfl⟩)) trivial)))))))))))
set_option maxRecDepth 100000 in
theorem bM_join_219 : zcode (mM_join) 219 qM_join_219 := zcode_of (by decide +kernel) (zoks_cons rfl (zoks_cons (And.intro rfl (by decide)) (zoks_cons rfl (zoks_cons rfl (zoks_cons rfl (zoks_cons rfl (zoks_cons (And.intro rfl kV70) (zoks_cons rfl (zoks_cons rfl (zoks_cons rfl (zoks_cons rfl (zoks_cons rfl (zoks_cons (And.intro rfl kV64) (zoks_cons (And.intro rfl (Or.inl ⟨rfl, rfl⟩)) trivial))))))))))))))
theorem kM_join : zcd (mM_join) cdM_join := by
  intro a is h
  unfold cdM_join at h
  split at h
  · cases h; exact bM_join_0
  · cases h; exact bM_join_30
  · cases h; exact bM_join_32
  · cases h; exact bM_join_61
  · cases h; exact bM_join_62
  · cases h; exact bM_join_76
  · cases h; exact bM_join_87
  · cases h; exact bM_join_109
  · cases h; exact bM_join_145
  · cases h; exact bM_join_148
  · cases h; exact bM_join_169
  · cases h; exact bM_join_174
  · cases h; exact bM_join_180
  · cases h; exact bM_join_197
  · cases h; exact bM_join_198
  · cases h; exact bM_join_219
  · cases h
def qM_digit_0 : List zIns := [(.iload_n 0, 1, 0, 0, 0, 0, 0, z0), (.iconst (4), 1, 4, 0, 0, 0, 0, z0), (.iload_n 3, 1, 0, 0, 0, 0, 0, z0), (.imul, 1, 0, 0, 0, 0, 0, z0), (.iushr, 1, 0, 0, 0, 0, 0, z0), (.bipush (15), 2, 15, 0, 0, 0, 0, z0), (.iand, 1, 0, 0, 0, 0, 0, z0), (.istore 4, 2, 0, 0, 0, 0, 0, z0), (.iload_n 1, 1, 0, 0, 0, 0, 0, z0), (.iconst (4), 1, 4, 0, 0, 0, 0, z0), (.iload_n 3, 1, 0, 0, 0, 0, 0, z0), (.imul, 1, 0, 0, 0, 0, 0, z0), (.iushr, 1, 0, 0, 0, 0, 0, z0), (.bipush (15), 2, 15, 0, 0, 0, 0, z0), (.iand, 1, 0, 0, 0, 0, 0, z0), (.istore 5, 2, 0, 0, 0, 0, 0, z0), (.iload_n 2, 1, 0, 0, 0, 0, 0, z0), (.iconst (4), 1, 4, 0, 0, 0, 0, z0), (.iload_n 3, 1, 0, 0, 0, 0, 0, z0), (.imul, 1, 0, 0, 0, 0, 0, z0), (.iushr, 1, 0, 0, 0, 0, 0, z0), (.bipush (15), 2, 15, 0, 0, 0, 0, z0), (.iand, 1, 0, 0, 0, 0, 0, z0), (.istore 6, 2, 0, 0, 0, 0, 0, z0), (.iload 5, 2, 0, 0, 0, 0, 0, z0), (.iload 6, 2, 0, 0, 0, 0, 0, z0), (.if_icmp .eq (10), 3, 44, 0, 0, 0, 0, z0), (.iload 5, 2, 0, 0, 0, 0, 0, z0), (.iload 4, 2, 0, 0, 0, 0, 0, z0), (.if_icmp .ne (8), 3, 49, 0, 0, 0, 0, z0)]
def qM_digit_44 : List zIns := [(.iload 4, 2, 0, 0, 0, 0, 0, z0), (.goto (16), 3, 62, 0, 0, 0, 0, z0)]
def qM_digit_49 : List zIns := [(.iload 4, 2, 0, 0, 0, 0, 0, z0), (.iload 6, 2, 0, 0, 0, 0, 0, z0), (.if_icmp .ne (8), 3, 61, 0, 0, 0, 0, z0), (.iload 5, 2, 0, 0, 0, 0, 0, z0), (.goto (4), 3, 62, 0, 0, 0, 0, z0)]
def qM_digit_61 : List zIns := [(.iconst (-1), 1, 1, 0, 1, 0, 0, z0)]
def qM_digit_62 : List zIns := [(.ireturn, 1, 0, 0, 0, 0, 0, z0)]
def cdM_digit : zCd := fun a => match a with
  | 0 => some qM_digit_0
  | 44 => some qM_digit_44
  | 49 => some qM_digit_49
  | 61 => some qM_digit_61
  | 62 => some qM_digit_62
  | _ => none
set_option maxRecDepth 100000 in
theorem bM_digit_0 : zcode (mM_digit) 0 qM_digit_0 := zcode_of (by decide +kernel) (zoks_cons rfl (zoks_cons (And.intro rfl (by decide)) (zoks_cons rfl (zoks_cons rfl (zoks_cons rfl (zoks_cons (And.intro rfl (by decide)) (zoks_cons rfl (zoks_cons rfl (zoks_cons rfl (zoks_cons (And.intro rfl (by decide)) (zoks_cons rfl (zoks_cons rfl (zoks_cons rfl (zoks_cons (And.intro rfl (by decide)) (zoks_cons rfl (zoks_cons rfl (zoks_cons rfl (zoks_cons (And.intro rfl (by decide)) (zoks_cons rfl (zoks_cons rfl (zoks_cons rfl (zoks_cons (And.intro rfl (by decide)) (zoks_cons rfl (zoks_cons rfl (zoks_cons rfl (zoks_cons rfl (zoks_cons (And.intro rfl (by decide)) (zoks_cons rfl (zoks_cons rfl (zoks_cons (And.intro rfl (by decide)) trivial))))))))))))))))))))))))))))))
set_option maxRecDepth 100000 in
theorem bM_digit_44 : zcode (mM_digit) 44 qM_digit_44 := zcode_of (by decide +kernel) (zoks_cons rfl (zoks_cons (And.intro rfl (by decide)) trivial))
set_option maxRecDepth 100000 in
theorem bM_digit_49 : zcode (mM_digit) 49 qM_digit_49 := zcode_of (by decide +kernel) (zoks_cons rfl (zoks_cons rfl (zoks_cons (And.intro rfl (by decide)) (zoks_cons rfl (zoks_cons (And.intro rfl (by decide)) trivial)))))
set_option maxRecDepth 100000 in
theorem bM_digit_61 : zcode (mM_digit) 61 qM_digit_61 := zcode_of (by decide +kernel) (zoks_cons (And.intro rfl (by decide)) trivial)
set_option maxRecDepth 100000 in
theorem bM_digit_62 : zcode (mM_digit) 62 qM_digit_62 := zcode_of (by decide +kernel) (zoks_cons (And.intro rfl (Or.inl ⟨rfl, rfl⟩)) trivial)
theorem kM_digit : zcd (mM_digit) cdM_digit := by
  intro a is h
  unfold cdM_digit at h
  split at h
  · cases h; exact bM_digit_0
  · cases h; exact bM_digit_44
  · cases h; exact bM_digit_49
  · cases h; exact bM_digit_61
  · cases h; exact bM_digit_62
  · cases h
def qM_clashes_0 : List zIns := [(.iconst (0), 1, 0, 0, 0, 0, 0, z0), (.istore_n 3, 1, 0, 0, 0, 0, 0, z0), (.iconst (0), 1, 0, 0, 0, 0, 0, z0), (.istore 4, 2, 0, 0, 0, 0, 0, z0)]
def qM_clashes_5 : List zIns := [(.iload 4, 2, 0, 0, 0, 0, 0, z0), (.bipush (8), 2, 8, 0, 0, 0, 0, z0), (.if_icmp .ge (30), 3, 39, 0, 0, 0, 0, z0), (.iload_n 3, 1, 0, 0, 0, 0, 0, z0), (.ifCond .ne (14), 3, 27, 0, 0, 0, 0, z0), (.iload_n 0, 1, 0, 0, 0, 0, 0, z0), (.iload_n 1, 1, 0, 0, 0, 0, 0, z0), (.iload_n 2, 1, 0, 0, 0, 0, 0, z0), (.iload 4, 2, 0, 0, 0, 0, 0, z0), (.invokestatic 277, 3, 4, 0, 0, 0, 0, mM_digit), (.ifCond .ge (7), 3, 31, 0, 0, 0, 0, z0)]
def qM_clashes_27 : List zIns := [(.iconst (1), 1, 1, 0, 0, 0, 0, z0), (.goto (4), 3, 32, 0, 0, 0, 0, z0)]
def qM_clashes_31 : List zIns := [(.iconst (0), 1, 0, 0, 0, 0, 0, z0)]
def qM_clashes_32 : List zIns := [(.istore_n 3, 1, 0, 0, 0, 0, 0, z0), (.iinc 4 (1), 3, 1, 0, 0, 0, 0, z0), (.goto (-31), 3, 5, 0, 0, 0, 0, z0)]
def qM_clashes_39 : List zIns := [(.iload_n 3, 1, 0, 0, 0, 0, 0, z0), (.ireturn, 1, 0, 0, 1, 0, 0, z0)]
def cdM_clashes : zCd := fun a => match a with
  | 0 => some qM_clashes_0
  | 5 => some qM_clashes_5
  | 27 => some qM_clashes_27
  | 31 => some qM_clashes_31
  | 32 => some qM_clashes_32
  | 39 => some qM_clashes_39
  | _ => none
set_option maxRecDepth 100000 in
theorem bM_clashes_0 : zcode (mM_clashes) 0 qM_clashes_0 := zcode_of (by decide +kernel) (zoks_cons (And.intro rfl (by decide)) (zoks_cons rfl (zoks_cons (And.intro rfl (by decide)) (zoks_cons rfl trivial))))
set_option maxRecDepth 100000 in
theorem bM_clashes_5 : zcode (mM_clashes) 5 qM_clashes_5 := zcode_of (by decide +kernel) (zoks_cons rfl (zoks_cons (And.intro rfl (by decide)) (zoks_cons (And.intro rfl (by decide)) (zoks_cons rfl (zoks_cons (And.intro rfl (by decide)) (zoks_cons rfl (zoks_cons rfl (zoks_cons rfl (zoks_cons rfl (zoks_cons (And.intro rfl kS8) (zoks_cons (And.intro rfl (by decide)) trivial)))))))))))
set_option maxRecDepth 100000 in
theorem bM_clashes_27 : zcode (mM_clashes) 27 qM_clashes_27 := zcode_of (by decide +kernel) (zoks_cons (And.intro rfl (by decide)) (zoks_cons (And.intro rfl (by decide)) trivial))
set_option maxRecDepth 100000 in
theorem bM_clashes_31 : zcode (mM_clashes) 31 qM_clashes_31 := zcode_of (by decide +kernel) (zoks_cons (And.intro rfl (by decide)) trivial)
set_option maxRecDepth 100000 in
theorem bM_clashes_32 : zcode (mM_clashes) 32 qM_clashes_32 := zcode_of (by decide +kernel) (zoks_cons rfl (zoks_cons (And.intro rfl (by decide)) (zoks_cons (And.intro rfl (by decide)) trivial)))
set_option maxRecDepth 100000 in
theorem bM_clashes_39 : zcode (mM_clashes) 39 qM_clashes_39 := zcode_of (by decide +kernel) (zoks_cons rfl (zoks_cons (And.intro rfl (Or.inr (Or.inl ⟨rfl, rfl⟩))) trivial))
theorem kM_clashes : zcd (mM_clashes) cdM_clashes := by
  intro a is h
  unfold cdM_clashes at h
  split at h
  · cases h; exact bM_clashes_0
  · cases h; exact bM_clashes_5
  · cases h; exact bM_clashes_27
  · cases h; exact bM_clashes_31
  · cases h; exact bM_clashes_32
  · cases h; exact bM_clashes_39
  · cases h
def qM_merged_0 : List zIns := [(.iconst (0), 1, 0, 0, 0, 0, 0, z0), (.istore_n 3, 1, 0, 0, 0, 0, 0, z0), (.iconst (0), 1, 0, 0, 0, 0, 0, z0), (.istore 4, 2, 0, 0, 0, 0, 0, z0)]
def qM_merged_5 : List zIns := [(.iload 4, 2, 0, 0, 0, 0, 0, z0), (.bipush (8), 2, 8, 0, 0, 0, 0, z0), (.if_icmp .ge (25), 3, 34, 0, 0, 0, 0, z0), (.iload_n 3, 1, 0, 0, 0, 0, 0, z0), (.iload_n 0, 1, 0, 0, 0, 0, 0, z0), (.iload_n 1, 1, 0, 0, 0, 0, 0, z0), (.iload_n 2, 1, 0, 0, 0, 0, 0, z0), (.iload 4, 2, 0, 0, 0, 0, 0, z0), (.invokestatic 277, 3, 4, 0, 0, 0, 0, mM_digit), (.iconst (4), 1, 4, 0, 0, 0, 0, z0), (.iload 4, 2, 0, 0, 0, 0, 0, z0), (.imul, 1, 0, 0, 0, 0, 0, z0), (.ishl, 1, 0, 0, 0, 0, 0, z0), (.ior, 1, 0, 0, 0, 0, 0, z0), (.istore_n 3, 1, 0, 0, 0, 0, 0, z0), (.iinc 4 (1), 3, 1, 0, 0, 0, 0, z0), (.goto (-26), 3, 5, 0, 0, 0, 0, z0)]
def qM_merged_34 : List zIns := [(.iload_n 3, 1, 0, 0, 0, 0, 0, z0), (.ireturn, 1, 0, 0, 0, 0, 0, z0)]
def cdM_merged : zCd := fun a => match a with
  | 0 => some qM_merged_0
  | 5 => some qM_merged_5
  | 34 => some qM_merged_34
  | _ => none
set_option maxRecDepth 100000 in
theorem bM_merged_0 : zcode (mM_merged) 0 qM_merged_0 := zcode_of (by decide +kernel) (zoks_cons (And.intro rfl (by decide)) (zoks_cons rfl (zoks_cons (And.intro rfl (by decide)) (zoks_cons rfl trivial))))
set_option maxRecDepth 100000 in
theorem bM_merged_5 : zcode (mM_merged) 5 qM_merged_5 := zcode_of (by decide +kernel) (zoks_cons rfl (zoks_cons (And.intro rfl (by decide)) (zoks_cons (And.intro rfl (by decide)) (zoks_cons rfl (zoks_cons rfl (zoks_cons rfl (zoks_cons rfl (zoks_cons rfl (zoks_cons (And.intro rfl kS8) (zoks_cons (And.intro rfl (by decide)) (zoks_cons rfl (zoks_cons rfl (zoks_cons rfl (zoks_cons rfl (zoks_cons rfl (zoks_cons (And.intro rfl (by decide)) (zoks_cons (And.intro rfl (by decide)) trivial)))))))))))))))))
set_option maxRecDepth 100000 in
theorem bM_merged_34 : zcode (mM_merged) 34 qM_merged_34 := zcode_of (by decide +kernel) (zoks_cons rfl (zoks_cons (And.intro rfl (Or.inl ⟨rfl, rfl⟩)) trivial))
theorem kM_merged : zcd (mM_merged) cdM_merged := by
  intro a is h
  unfold cdM_merged at h
  split at h
  · cases h; exact bM_merged_0
  · cases h; exact bM_merged_5
  · cases h; exact bM_merged_34
  · cases h
def qM_theirs_0 : List zIns := [(.aload_n 0, 1, 0, 0, 0, 0, 0, z0), (.getfield 102, 3, 9, 39, 0, 0, 0, z0), (.iload_n 1, 1, 0, 0, 0, 0, 0, z0), (.iaload, 1, 0, 0, 0, 0, 0, z0), (.ifCond .le (17), 3, 23, 0, 0, 0, 0, z0), (.aload_n 0, 1, 0, 0, 0, 0, 0, z0), (.iload_n 2, 1, 0, 0, 0, 0, 0, z0), (.aload_n 0, 1, 0, 0, 0, 0, 0, z0), (.getfield 102, 3, 9, 39, 0, 0, 0, z0), (.iload_n 1, 1, 0, 0, 0, 0, 0, z0), (.iaload, 1, 0, 0, 0, 0, 0, z0), (.invokevirtual 198, 3, 2, 9, 0, 0, 0, mM_content), (.goto (21), 3, 41, 0, 0, 0, 0, z0)]
def qM_theirs_23 : List zIns := [(.aload_n 0, 1, 0, 0, 0, 0, 0, z0), (.aload_n 0, 1, 0, 0, 0, 0, 0, z0), (.getfield 105, 3, 9, 40, 0, 0, 0, z0), (.iload_n 1, 1, 0, 0, 0, 0, 0, z0), (.iaload, 1, 0, 0, 0, 0, 0, z0), (.iconst (1), 1, 1, 0, 0, 0, 0, z0), (.isub, 1, 0, 0, 0, 0, 0, z0), (.aload_n 0, 1, 0, 0, 0, 0, 0, z0), (.getfield 108, 3, 9, 41, 0, 0, 0, z0), (.iload_n 1, 1, 0, 0, 0, 0, 0, z0), (.iaload, 1, 0, 0, 0, 0, 0, z0), (.invokevirtual 198, 3, 2, 9, 0, 0, 0, mM_content)]
def qM_theirs_41 : List zIns := [(.ireturn, 1, 0, 0, 0, 0, 0, z0)]
def cdM_theirs : zCd := fun a => match a with
  | 0 => some qM_theirs_0
  | 23 => some qM_theirs_23
  | 41 => some qM_theirs_41
  | _ => none
set_option maxRecDepth 100000 in
theorem bM_theirs_0 : zcode (mM_theirs) 0 qM_theirs_0 := zcode_of (by decide +kernel) (zoks_cons rfl (zoks_cons (And.intro rfl kF66) (zoks_cons rfl (zoks_cons (And.intro rfl rfl) (zoks_cons (And.intro rfl (by decide)) (zoks_cons rfl (zoks_cons rfl (zoks_cons rfl (zoks_cons (And.intro rfl kF66) (zoks_cons rfl (zoks_cons (And.intro rfl rfl) (zoks_cons (And.intro rfl kV58) (zoks_cons (And.intro rfl (by decide)) trivial)))))))))))))
set_option maxRecDepth 100000 in
theorem bM_theirs_23 : zcode (mM_theirs) 23 qM_theirs_23 := zcode_of (by decide +kernel) (zoks_cons rfl (zoks_cons rfl (zoks_cons (And.intro rfl kF67) (zoks_cons rfl (zoks_cons (And.intro rfl rfl) (zoks_cons (And.intro rfl (by decide)) (zoks_cons rfl (zoks_cons rfl (zoks_cons (And.intro rfl kF72) (zoks_cons rfl (zoks_cons (And.intro rfl rfl) (zoks_cons (And.intro rfl kV58) trivial))))))))))))
set_option maxRecDepth 100000 in
theorem bM_theirs_41 : zcode (mM_theirs) 41 qM_theirs_41 := zcode_of (by decide +kernel) (zoks_cons (And.intro rfl (Or.inl ⟨rfl, rfl⟩)) trivial)
theorem kM_theirs : zcd (mM_theirs) cdM_theirs := by
  intro a is h
  unfold cdM_theirs at h
  split at h
  · cases h; exact bM_theirs_0
  · cases h; exact bM_theirs_23
  · cases h; exact bM_theirs_41
  · cases h
def qM_old_0 : List zIns := [(.aload_n 0, 1, 0, 0, 0, 0, 0, z0), (.getfield 105, 3, 9, 40, 0, 0, 0, z0), (.iload_n 1, 1, 0, 0, 0, 0, 0, z0), (.iaload, 1, 0, 0, 0, 0, 0, z0), (.iconst (1), 1, 1, 0, 0, 0, 0, z0), (.isub, 1, 0, 0, 0, 0, 0, z0), (.istore_n 3, 1, 0, 0, 0, 0, 0, z0), (.aload_n 0, 1, 0, 0, 0, 0, 0, z0), (.getfield 102, 3, 9, 39, 0, 0, 0, z0), (.iload_n 1, 1, 0, 0, 0, 0, 0, z0), (.iaload, 1, 0, 0, 0, 0, 0, z0), (.ifCond .le (17), 3, 32, 0, 0, 0, 0, z0), (.aload_n 0, 1, 0, 0, 0, 0, 0, z0), (.iload_n 2, 1, 0, 0, 0, 0, 0, z0), (.aload_n 0, 1, 0, 0, 0, 0, 0, z0), (.getfield 96, 3, 9, 37, 0, 0, 0, z0), (.iload_n 1, 1, 0, 0, 0, 0, 0, z0), (.iaload, 1, 0, 0, 0, 0, 0, z0), (.invokevirtual 198, 3, 2, 9, 0, 0, 0, mM_content), (.goto (19), 3, 48, 0, 0, 0, 0, z0)]
def qM_old_32 : List zIns := [(.aload_n 0, 1, 0, 0, 0, 0, 0, z0), (.iload_n 3, 1, 0, 0, 0, 0, 0, z0), (.aload_n 0, 1, 0, 0, 0, 0, 0, z0), (.getfield 81, 3, 9, 32, 0, 0, 0, z0), (.bipush (12), 2, 12, 0, 0, 0, 0, z0), (.iload_n 3, 1, 0, 0, 0, 0, 0, z0), (.imul, 1, 0, 0, 0, 0, 0, z0), (.iload_n 2, 1, 0, 0, 0, 0, 0, z0), (.iadd, 1, 0, 0, 0, 0, 0, z0), (.iaload, 1, 0, 0, 0, 0, 0, z0), (.invokevirtual 198, 3, 2, 9, 0, 0, 0, mM_content)]
def qM_old_48 : List zIns := [(.ireturn, 1, 0, 0, 0, 0, 0, z0)]
def cdM_old : zCd := fun a => match a with
  | 0 => some qM_old_0
  | 32 => some qM_old_32
  | 48 => some qM_old_48
  | _ => none
set_option maxRecDepth 100000 in
theorem bM_old_0 : zcode (mM_old) 0 qM_old_0 := zcode_of (by decide +kernel) (zoks_cons rfl (zoks_cons (And.intro rfl kF67) (zoks_cons rfl (zoks_cons (And.intro rfl rfl) (zoks_cons (And.intro rfl (by decide)) (zoks_cons rfl (zoks_cons rfl (zoks_cons rfl (zoks_cons (And.intro rfl kF66) (zoks_cons rfl (zoks_cons (And.intro rfl rfl) (zoks_cons (And.intro rfl (by decide)) (zoks_cons rfl (zoks_cons rfl (zoks_cons rfl (zoks_cons (And.intro rfl kF69) (zoks_cons rfl (zoks_cons (And.intro rfl rfl) (zoks_cons (And.intro rfl kV58) (zoks_cons (And.intro rfl (by decide)) trivial))))))))))))))))))))
set_option maxRecDepth 100000 in
theorem bM_old_32 : zcode (mM_old) 32 qM_old_32 := zcode_of (by decide +kernel) (zoks_cons rfl (zoks_cons rfl (zoks_cons rfl (zoks_cons (And.intro rfl kF64) (zoks_cons (And.intro rfl (by decide)) (zoks_cons rfl (zoks_cons rfl (zoks_cons rfl (zoks_cons rfl (zoks_cons (And.intro rfl rfl) (zoks_cons (And.intro rfl kV58) trivial)))))))))))
set_option maxRecDepth 100000 in
theorem bM_old_48 : zcode (mM_old) 48 qM_old_48 := zcode_of (by decide +kernel) (zoks_cons (And.intro rfl (Or.inl ⟨rfl, rfl⟩)) trivial)
theorem kM_old : zcd (mM_old) cdM_old := by
  intro a is h
  unfold cdM_old at h
  split at h
  · cases h; exact bM_old_0
  · cases h; exact bM_old_32
  · cases h; exact bM_old_48
  · cases h
def qM_settle_0 : List zIns := [(.aload_n 0, 1, 0, 0, 0, 0, 0, z0), (.iload_n 1, 1, 0, 0, 0, 0, 0, z0), (.iload_n 2, 1, 0, 0, 0, 0, 0, z0), (.invokevirtual 280, 3, 2, 9, 0, 0, 0, mM_theirs), (.istore 4, 2, 0, 0, 0, 0, 0, z0), (.aload_n 0, 1, 0, 0, 0, 0, 0, z0), (.iload_n 1, 1, 0, 0, 0, 0, 0, z0), (.iload_n 2, 1, 0, 0, 0, 0, 0, z0), (.invokevirtual 283, 3, 2, 9, 0, 0, 0, mM_old), (.istore 5, 2, 0, 0, 0, 0, 0, z0), (.aload_n 0, 1, 0, 0, 0, 0, 0, z0), (.getfield 87, 3, 9, 34, 0, 0, 0, z0), (.iload_n 1, 1, 0, 0, 0, 0, 0, z0), (.iload_n 3, 1, 0, 0, 0, 0, 0, z0), (.ifCond .ne (19), 3, 41, 0, 0, 0, 0, z0), (.aload_n 0, 1, 0, 0, 0, 0, 0, z0), (.getfield 87, 3, 9, 34, 0, 0, 0, z0), (.iload_n 1, 1, 0, 0, 0, 0, 0, z0), (.iaload, 1, 0, 0, 0, 0, 0, z0), (.iload 4, 2, 0, 0, 0, 0, 0, z0), (.iload 5, 2, 0, 0, 0, 0, 0, z0), (.invokestatic 286, 3, 3, 0, 0, 0, 0, mM_merged), (.goto (19), 3, 57, 0, 0, 0, 0, z0)]
def qM_settle_41 : List zIns := [(.iload_n 3, 1, 0, 0, 0, 0, 0, z0), (.iconst (1), 1, 1, 0, 0, 0, 0, z0), (.if_icmp .ne (8), 3, 51, 0, 0, 0, 0, z0), (.iload 4, 2, 0, 0, 0, 0, 0, z0), (.goto (9), 3, 57, 0, 0, 0, 0, z0)]
def qM_settle_51 : List zIns := [(.aload_n 0, 1, 0, 0, 0, 0, 0, z0), (.getfield 87, 3, 9, 34, 0, 0, 0, z0), (.iload_n 1, 1, 0, 0, 0, 0, 0, z0), (.iaload, 1, 0, 0, 0, 0, 0, z0)]
def qM_settle_57 : List zIns := [(.iastore, 1, 0, 0, 0, 0, 0, z0), (.aload_n 0, 1, 0, 0, 0, 0, 0, z0), (.getfield 102, 3, 9, 39, 0, 0, 0, z0), (.iload_n 1, 1, 0, 0, 0, 0, 0, z0), (.iaload, 1, 0, 0, 0, 0, 0, z0), (.ifCond .le (35), 3, 99, 0, 0, 0, 0, z0), (.aload_n 0, 1, 0, 0, 0, 0, 0, z0), (.getfield 96, 3, 9, 37, 0, 0, 0, z0), (.iload_n 1, 1, 0, 0, 0, 0, 0, z0), (.aload_n 0, 1, 0, 0, 0, 0, 0, z0), (.getfield 102, 3, 9, 39, 0, 0, 0, z0), (.iload_n 1, 1, 0, 0, 0, 0, 0, z0), (.iaload, 1, 0, 0, 0, 0, 0, z0), (.iastore, 1, 0, 0, 0, 0, 0, z0), (.aload_n 0, 1, 0, 0, 0, 0, 0, z0), (.getfield 84, 3, 9, 33, 0, 0, 0, z0), (.iload_n 1, 1, 0, 0, 0, 0, 0, z0), (.aload_n 0, 1, 0, 0, 0, 0, 0, z0), (.getfield 102, 3, 9, 39, 0, 0, 0, z0), (.iload_n 1, 1, 0, 0, 0, 0, 0, z0), (.iaload, 1, 0, 0, 0, 0, 0, z0), (.iastore, 1, 0, 0, 0, 0, 0, z0), (.aload_n 0, 1, 0, 0, 0, 0, 0, z0), (.getfield 102, 3, 9, 39, 0, 0, 0, z0), (.iload_n 1, 1, 0, 0, 0, 0, 0, z0), (.iconst (0), 1, 0, 0, 0, 0, 0, z0), (.iastore, 1, 0, 0, 0, 0, 0, z0), (.return_, 1, 0, 0, 0, 0, 0, z0)]
def qM_settle_99 : List zIns := [(.aload_n 0, 1, 0, 0, 0, 0, 0, z0), (.getfield 111, 3, 9, 42, 0, 0, 0, z0), (.iload_n 1, 1, 0, 0, 0, 0, 0, z0), (.aload_n 0, 1, 0, 0, 0, 0, 0, z0), (.getfield 105, 3, 9, 40, 0, 0, 0, z0), (.iload_n 1, 1, 0, 0, 0, 0, 0, z0), (.iaload, 1, 0, 0, 0, 0, 0, z0), (.iastore, 1, 0, 0, 0, 0, 0, z0), (.aload_n 0, 1, 0, 0, 0, 0, 0, z0), (.getfield 114, 3, 9, 43, 0, 0, 0, z0), (.iload_n 1, 1, 0, 0, 0, 0, 0, z0), (.aload_n 0, 1, 0, 0, 0, 0, 0, z0), (.getfield 108, 3, 9, 41, 0, 0, 0, z0), (.iload_n 1, 1, 0, 0, 0, 0, 0, z0), (.iaload, 1, 0, 0, 0, 0, 0, z0), (.iastore, 1, 0, 0, 0, 0, 0, z0), (.aload_n 0, 1, 0, 0, 0, 0, 0, z0), (.getfield 117, 3, 9, 44, 0, 0, 0, z0), (.iload_n 1, 1, 0, 0, 0, 0, 0, z0), (.iload_n 3, 1, 0, 0, 0, 0, 0, z0), (.iconst (1), 1, 1, 0, 0, 0, 0, z0), (.if_icmp .ne (7), 3, 137, 0, 0, 0, 0, z0), (.iconst (1), 1, 1, 0, 0, 0, 0, z0), (.goto (4), 3, 138, 0, 0, 0, 0, z0)]
def qM_settle_137 : List zIns := [(.iconst (0), 1, 0, 0, 0, 0, 0, z0)]
def qM_settle_138 : List zIns := [(.bastore, 1, 2, 0, 0, 0, 0, z0), (.aload_n 0, 1, 0, 0, 0, 0, 0, z0), (.getfield 105, 3, 9, 40, 0, 0, 0, z0), (.iload_n 1, 1, 0, 0, 0, 0, 0, z0), (.iconst (0), 1, 0, 0, 0, 0, 0, z0), (.iastore, 1, 0, 0, 0, 0, 0, z0), (.return_, 1, 0, 0, 0, 0, 0, z0)]
def cdM_settle : zCd := fun a => match a with
  | 0 => some qM_settle_0
  | 41 => some qM_settle_41
  | 51 => some qM_settle_51
  | 57 => some qM_settle_57
  | 99 => some qM_settle_99
  | 137 => some qM_settle_137
  | 138 => some qM_settle_138
  | _ => none
set_option maxRecDepth 100000 in
theorem bM_settle_0 : zcode (mM_settle) 0 qM_settle_0 := zcode_of (by decide +kernel) (zoks_cons rfl (zoks_cons rfl (zoks_cons rfl (zoks_cons (And.intro rfl kV77) (zoks_cons rfl (zoks_cons rfl (zoks_cons rfl (zoks_cons rfl (zoks_cons (And.intro rfl kV78) (zoks_cons rfl (zoks_cons rfl (zoks_cons (And.intro rfl kF62) (zoks_cons rfl (zoks_cons rfl (zoks_cons (And.intro rfl (by decide)) (zoks_cons rfl (zoks_cons (And.intro rfl kF62) (zoks_cons rfl (zoks_cons (And.intro rfl rfl) (zoks_cons rfl (zoks_cons rfl (zoks_cons (And.intro rfl kS9) (zoks_cons (And.intro rfl (by decide)) trivial)))))))))))))))))))))))
set_option maxRecDepth 100000 in
theorem bM_settle_41 : zcode (mM_settle) 41 qM_settle_41 := zcode_of (by decide +kernel) (zoks_cons rfl (zoks_cons (And.intro rfl (by decide)) (zoks_cons (And.intro rfl (by decide)) (zoks_cons rfl (zoks_cons (And.intro rfl (by decide)) trivial)))))
set_option maxRecDepth 100000 in
theorem bM_settle_51 : zcode (mM_settle) 51 qM_settle_51 := zcode_of (by decide +kernel) (zoks_cons rfl (zoks_cons (And.intro rfl kF62) (zoks_cons rfl (zoks_cons (And.intro rfl rfl) trivial))))
set_option maxRecDepth 100000 in
theorem bM_settle_57 : zcode (mM_settle) 57 qM_settle_57 := zcode_of (by decide +kernel) (zoks_cons (And.intro rfl rfl) (zoks_cons rfl (zoks_cons (And.intro rfl kF66) (zoks_cons rfl (zoks_cons (And.intro rfl rfl) (zoks_cons (And.intro rfl (by decide)) (zoks_cons rfl (zoks_cons (And.intro rfl kF69) (zoks_cons rfl (zoks_cons rfl (zoks_cons (And.intro rfl kF66) (zoks_cons rfl (zoks_cons (And.intro rfl rfl) (zoks_cons (And.intro rfl rfl) (zoks_cons rfl (zoks_cons (And.intro rfl kF65) (zoks_cons rfl (zoks_cons rfl (zoks_cons (And.intro rfl kF66) (zoks_cons rfl (zoks_cons (And.intro rfl rfl) (zoks_cons (And.intro rfl rfl) (zoks_cons rfl (zoks_cons (And.intro rfl kF66) (zoks_cons rfl (zoks_cons (And.intro rfl (by decide)) (zoks_cons (And.intro rfl rfl) (zoks_cons (And.intro rfl rfl) trivial))))))))))))))))))))))))))))
set_option maxRecDepth 100000 in
theorem bM_settle_99 : zcode (mM_settle) 99 qM_settle_99 := zcode_of (by decide +kernel) (zoks_cons rfl (zoks_cons (And.intro rfl kF68) (zoks_cons rfl (zoks_cons rfl (zoks_cons (And.intro rfl kF67) (zoks_cons rfl (zoks_cons (And.intro rfl rfl) (zoks_cons (And.intro rfl rfl) (zoks_cons rfl (zoks_cons (And.intro rfl kF70) (zoks_cons rfl (zoks_cons rfl (zoks_cons (And.intro rfl kF72) (zoks_cons rfl (zoks_cons (And.intro rfl rfl) (zoks_cons (And.intro rfl rfl) (zoks_cons rfl (zoks_cons (And.intro rfl kF71) (zoks_cons rfl (zoks_cons rfl (zoks_cons (And.intro rfl (by decide)) (zoks_cons (And.intro rfl (by decide)) (zoks_cons (And.intro rfl (by decide)) (zoks_cons (And.intro rfl (by decide)) trivial))))))))))))))))))))))))
set_option maxRecDepth 100000 in
theorem bM_settle_137 : zcode (mM_settle) 137 qM_settle_137 := zcode_of (by decide +kernel) (zoks_cons (And.intro rfl (by decide)) trivial)
set_option maxRecDepth 100000 in
theorem bM_settle_138 : zcode (mM_settle) 138 qM_settle_138 := zcode_of (by decide +kernel) (zoks_cons (And.intro rfl rfl) (zoks_cons rfl (zoks_cons (And.intro rfl kF67) (zoks_cons rfl (zoks_cons (And.intro rfl (by decide)) (zoks_cons (And.intro rfl rfl) (zoks_cons (And.intro rfl rfl) trivial)))))))
theorem kM_settle : zcd (mM_settle) cdM_settle := by
  intro a is h
  unfold cdM_settle at h
  split at h
  · cases h; exact bM_settle_0
  · cases h; exact bM_settle_41
  · cases h; exact bM_settle_51
  · cases h; exact bM_settle_57
  · cases h; exact bM_settle_99
  · cases h; exact bM_settle_137
  · cases h; exact bM_settle_138
  · cases h
def qM_resolve_0 : List zIns := [(.aload_n 0, 1, 0, 0, 0, 0, 0, z0), (.iload_n 1, 1, 0, 0, 0, 0, 0, z0), (.iload_n 2, 1, 0, 0, 0, 0, 0, z0), (.invokevirtual 182, 3, 2, 9, 0, 0, 0, mM_both), (.ifCond .eq (12), 3, 18, 0, 0, 0, 0, z0), (.iload_n 3, 1, 0, 0, 0, 0, 0, z0), (.ifCond .lt (8), 3, 18, 0, 0, 0, 0, z0), (.iload_n 3, 1, 0, 0, 0, 0, 0, z0), (.iconst (2), 1, 2, 0, 0, 0, 0, z0), (.if_icmp .le (5), 3, 20, 0, 0, 0, 0, z0)]
def qM_resolve_18 : List zIns := [(.iconst (-1), 1, 1, 0, 1, 0, 0, z0), (.ireturn, 1, 0, 0, 0, 0, 0, z0)]
def qM_resolve_20 : List zIns := [(.bipush (12), 2, 12, 0, 0, 0, 0, z0), (.iload_n 1, 1, 0, 0, 0, 0, 0, z0), (.imul, 1, 0, 0, 0, 0, 0, z0), (.iload_n 2, 1, 0, 0, 0, 0, 0, z0), (.iadd, 1, 0, 0, 0, 0, 0, z0), (.istore 4, 2, 0, 0, 0, 0, 0, z0), (.aload_n 0, 1, 0, 0, 0, 0, 0, z0), (.getfield 90, 3, 9, 35, 0, 0, 0, z0), (.iload 4, 2, 0, 0, 0, 0, 0, z0), (.iaload, 1, 0, 0, 0, 0, 0, z0), (.ifCond .eq (23), 3, 58, 0, 0, 0, 0, z0), (.aload_n 0, 1, 0, 0, 0, 0, 0, z0), (.getfield 102, 3, 9, 39, 0, 0, 0, z0), (.iload 4, 2, 0, 0, 0, 0, 0, z0), (.iaload, 1, 0, 0, 0, 0, 0, z0), (.ifCond .ne (16), 3, 61, 0, 0, 0, 0, z0), (.aload_n 0, 1, 0, 0, 0, 0, 0, z0), (.getfield 105, 3, 9, 40, 0, 0, 0, z0), (.iload 4, 2, 0, 0, 0, 0, 0, z0), (.iaload, 1, 0, 0, 0, 0, 0, z0), (.ifCond .ne (6), 3, 61, 0, 0, 0, 0, z0)]
def qM_resolve_58 : List zIns := [(.bipush (-2), 2, 2, 0, 1, 0, 0, z0), (.ireturn, 1, 0, 0, 0, 0, 0, z0)]
def qM_resolve_61 : List zIns := [(.aload_n 0, 1, 0, 0, 0, 0, 0, z0), (.iload 4, 2, 0, 0, 0, 0, 0, z0), (.iload_n 2, 1, 0, 0, 0, 0, 0, z0), (.invokevirtual 280, 3, 2, 9, 0, 0, 0, mM_theirs), (.istore 5, 2, 0, 0, 0, 0, 0, z0), (.aload_n 0, 1, 0, 0, 0, 0, 0, z0), (.iload 4, 2, 0, 0, 0, 0, 0, z0), (.iload_n 2, 1, 0, 0, 0, 0, 0, z0), (.invokevirtual 283, 3, 2, 9, 0, 0, 0, mM_old), (.istore 6, 2, 0, 0, 0, 0, 0, z0), (.iload_n 3, 1, 0, 0, 0, 0, 0, z0), (.ifCond .ne (23), 3, 103, 0, 0, 0, 0, z0), (.aload_n 0, 1, 0, 0, 0, 0, 0, z0), (.getfield 87, 3, 9, 34, 0, 0, 0, z0), (.iload 4, 2, 0, 0, 0, 0, 0, z0), (.iaload, 1, 0, 0, 0, 0, 0, z0), (.iload 5, 2, 0, 0, 0, 0, 0, z0), (.iload 6, 2, 0, 0, 0, 0, 0, z0), (.invokestatic 289, 3, 3, 0, 0, 0, 0, mM_clashes), (.ifCond .eq (6), 3, 103, 0, 0, 0, 0, z0), (.bipush (-3), 2, 3, 0, 1, 0, 0, z0), (.ireturn, 1, 0, 0, 0, 0, 0, z0)]
def qM_resolve_103 : List zIns := [(.aload_n 0, 1, 0, 0, 0, 0, 0, z0), (.bipush (9), 2, 9, 0, 0, 0, 0, z0), (.iload_n 1, 1, 0, 0, 0, 0, 0, z0), (.iload_n 2, 1, 0, 0, 0, 0, 0, z0), (.iload_n 3, 1, 0, 0, 0, 0, 0, z0), (.iconst (0), 1, 0, 0, 0, 0, 0, z0), (.invokevirtual 250, 3, 5, 9, 0, 0, 0, mM_note), (.aload_n 0, 1, 0, 0, 0, 0, 0, z0), (.iload 4, 2, 0, 0, 0, 0, 0, z0), (.iload_n 2, 1, 0, 0, 0, 0, 0, z0), (.iload_n 3, 1, 0, 0, 0, 0, 0, z0), (.invokevirtual 228, 3, 3, 9, 0, 0, 0, mM_settle), (.iconst (0), 1, 0, 0, 0, 0, 0, z0), (.ireturn, 1, 0, 0, 0, 0, 0, z0)]
def cdM_resolve : zCd := fun a => match a with
  | 0 => some qM_resolve_0
  | 18 => some qM_resolve_18
  | 20 => some qM_resolve_20
  | 58 => some qM_resolve_58
  | 61 => some qM_resolve_61
  | 103 => some qM_resolve_103
  | _ => none
set_option maxRecDepth 100000 in
theorem bM_resolve_0 : zcode (mM_resolve) 0 qM_resolve_0 := zcode_of (by decide +kernel) (zoks_cons rfl (zoks_cons rfl (zoks_cons rfl (zoks_cons (And.intro rfl kV54) (zoks_cons (And.intro rfl (by decide)) (zoks_cons rfl (zoks_cons (And.intro rfl (by decide)) (zoks_cons rfl (zoks_cons (And.intro rfl (by decide)) (zoks_cons (And.intro rfl (by decide)) trivial))))))))))
set_option maxRecDepth 100000 in
theorem bM_resolve_18 : zcode (mM_resolve) 18 qM_resolve_18 := zcode_of (by decide +kernel) (zoks_cons (And.intro rfl (by decide)) (zoks_cons (And.intro rfl (Or.inl ⟨rfl, rfl⟩)) trivial))
set_option maxRecDepth 100000 in
theorem bM_resolve_20 : zcode (mM_resolve) 20 qM_resolve_20 := zcode_of (by decide +kernel) (zoks_cons (And.intro rfl (by decide)) (zoks_cons rfl (zoks_cons rfl (zoks_cons rfl (zoks_cons rfl (zoks_cons rfl (zoks_cons rfl (zoks_cons (And.intro rfl kF53) (zoks_cons rfl (zoks_cons (And.intro rfl rfl) (zoks_cons (And.intro rfl (by decide)) (zoks_cons rfl (zoks_cons (And.intro rfl kF66) (zoks_cons rfl (zoks_cons (And.intro rfl rfl) (zoks_cons (And.intro rfl (by decide)) (zoks_cons rfl (zoks_cons (And.intro rfl kF67) (zoks_cons rfl (zoks_cons (And.intro rfl rfl) (zoks_cons (And.intro rfl (by decide)) trivial)))))))))))))))))))))
set_option maxRecDepth 100000 in
theorem bM_resolve_58 : zcode (mM_resolve) 58 qM_resolve_58 := zcode_of (by decide +kernel) (zoks_cons (And.intro rfl (by decide)) (zoks_cons (And.intro rfl (Or.inl ⟨rfl, rfl⟩)) trivial))
set_option maxRecDepth 100000 in
theorem bM_resolve_61 : zcode (mM_resolve) 61 qM_resolve_61 := zcode_of (by decide +kernel) (zoks_cons rfl (zoks_cons rfl (zoks_cons rfl (zoks_cons (And.intro rfl kV77) (zoks_cons rfl (zoks_cons rfl (zoks_cons rfl (zoks_cons rfl (zoks_cons (And.intro rfl kV78) (zoks_cons rfl (zoks_cons rfl (zoks_cons (And.intro rfl (by decide)) (zoks_cons rfl (zoks_cons (And.intro rfl kF62) (zoks_cons rfl (zoks_cons (And.intro rfl rfl) (zoks_cons rfl (zoks_cons rfl (zoks_cons (And.intro rfl kS10) (zoks_cons (And.intro rfl (by decide)) (zoks_cons (And.intro rfl (by decide)) (zoks_cons (And.intro rfl (Or.inl ⟨rfl, rfl⟩)) trivial))))))))))))))))))))))
set_option maxRecDepth 100000 in
theorem bM_resolve_103 : zcode (mM_resolve) 103 qM_resolve_103 := zcode_of (by decide +kernel) (zoks_cons rfl (zoks_cons (And.intro rfl (by decide)) (zoks_cons rfl (zoks_cons rfl (zoks_cons rfl (zoks_cons (And.intro rfl (by decide)) (zoks_cons (And.intro rfl kV70) (zoks_cons rfl (zoks_cons rfl (zoks_cons rfl (zoks_cons rfl (zoks_cons (And.intro rfl kV65) (zoks_cons (And.intro rfl (by decide)) (zoks_cons (And.intro rfl (Or.inl ⟨rfl, rfl⟩)) trivial))))))))))))))
theorem kM_resolve : zcd (mM_resolve) cdM_resolve := by
  intro a is h
  unfold cdM_resolve at h
  split at h
  · cases h; exact bM_resolve_0
  · cases h; exact bM_resolve_18
  · cases h; exact bM_resolve_20
  · cases h; exact bM_resolve_58
  · cases h; exact bM_resolve_61
  · cases h; exact bM_resolve_103
  · cases h
def qM_change_0 : List zIns := [(.aload_n 0, 1, 0, 0, 0, 0, 0, z0), (.dup, 1, 0, 0, 0, 0, 0, z0), (.getfield 241, 3, 9, 30, 0, 0, 0, z0), (.iconst (1), 1, 1, 0, 0, 0, 0, z0), (.iadd, 1, 0, 0, 0, 0, 0, z0), (.putfield 241, 3, 9, 30, 0, 0, 0, z0), (.iconst (0), 1, 0, 0, 0, 0, 0, z0), (.istore_n 3, 1, 0, 0, 0, 0, 0, z0)]
def qM_change_12 : List zIns := [(.iload_n 3, 1, 0, 0, 0, 0, 0, z0), (.aload_n 0, 1, 0, 0, 0, 0, 0, z0), (.getfield 120, 3, 9, 2, 0, 0, 0, z0), (.if_icmp .ge (45), 3, 62, 0, 0, 0, 0, z0), (.bipush (12), 2, 12, 0, 0, 0, 0, z0), (.iload_n 1, 1, 0, 0, 0, 0, 0, z0), (.imul, 1, 0, 0, 0, 0, 0, z0), (.iload_n 3, 1, 0, 0, 0, 0, 0, z0), (.iadd, 1, 0, 0, 0, 0, 0, z0), (.istore 4, 2, 0, 0, 0, 0, 0, z0), (.aload_n 0, 1, 0, 0, 0, 0, 0, z0), (.getfield 90, 3, 9, 35, 0, 0, 0, z0), (.iload 4, 2, 0, 0, 0, 0, 0, z0), (.iaload, 1, 0, 0, 0, 0, 0, z0), (.ifCond .le (21), 3, 56, 0, 0, 0, 0, z0), (.aload_n 0, 1, 0, 0, 0, 0, 0, z0), (.getfield 93, 3, 9, 36, 0, 0, 0, z0), (.iload 4, 2, 0, 0, 0, 0, 0, z0), (.iaload, 1, 0, 0, 0, 0, 0, z0), (.iload_n 2, 1, 0, 0, 0, 0, 0, z0), (.if_icmp .ne (10), 3, 56, 0, 0, 0, 0, z0), (.aload_n 0, 1, 0, 0, 0, 0, 0, z0), (.iload 4, 2, 0, 0, 0, 0, 0, z0), (.iload_n 3, 1, 0, 0, 0, 0, 0, z0), (.invokevirtual 293, 3, 2, 9, 0, 0, 0, mM_enter)]
def qM_change_56 : List zIns := [(.iinc 3 (1), 3, 1, 0, 0, 0, 0, z0), (.goto (-47), 3, 12, 0, 0, 0, 0, z0)]
def qM_change_62 : List zIns := [(.aload_n 0, 1, 0, 0, 0, 0, 0, z0), (.getfield 241, 3, 9, 30, 0, 0, 0, z0), (.ireturn, 1, 0, 0, 0, 0, 0, z0)]
def cdM_change : zCd := fun a => match a with
  | 0 => some qM_change_0
  | 12 => some qM_change_12
  | 56 => some qM_change_56
  | 62 => some qM_change_62
  | _ => none
set_option maxRecDepth 100000 in
theorem bM_change_0 : zcode (mM_change) 0 qM_change_0 := zcode_of (by decide +kernel) (zoks_cons rfl (zoks_cons rfl (zoks_cons (And.intro rfl kF73) (zoks_cons (And.intro rfl (by decide)) (zoks_cons rfl (zoks_cons (And.intro rfl (And.intro rfl (kP57 rfl))) (zoks_cons (And.intro rfl (by decide)) (zoks_cons rfl trivial))))))))
set_option maxRecDepth 100000 in
theorem bM_change_12 : zcode (mM_change) 12 qM_change_12 := zcode_of (by decide +kernel) (zoks_cons rfl (zoks_cons rfl (zoks_cons (And.intro rfl kF30) (zoks_cons (And.intro rfl (by decide)) (zoks_cons (And.intro rfl (by decide)) (zoks_cons rfl (zoks_cons rfl (zoks_cons rfl (zoks_cons rfl (zoks_cons rfl (zoks_cons rfl (zoks_cons (And.intro rfl kF53) (zoks_cons rfl (zoks_cons (And.intro rfl rfl) (zoks_cons (And.intro rfl (by decide)) (zoks_cons rfl (zoks_cons (And.intro rfl kF63) (zoks_cons rfl (zoks_cons (And.intro rfl rfl) (zoks_cons rfl (zoks_cons (And.intro rfl (by decide)) (zoks_cons rfl (zoks_cons rfl (zoks_cons rfl (zoks_cons (And.intro rfl kV79) trivial)))))))))))))))))))))))))
set_option maxRecDepth 100000 in
theorem bM_change_56 : zcode (mM_change) 56 qM_change_56 := zcode_of (by decide +kernel) (zoks_cons (And.intro rfl (by decide)) (zoks_cons (And.intro rfl (by decide)) trivial))
set_option maxRecDepth 100000 in
theorem bM_change_62 : zcode (mM_change) 62 qM_change_62 := zcode_of (by decide +kernel) (zoks_cons rfl (zoks_cons (And.intro rfl kF73) (zoks_cons (And.intro rfl (Or.inl ⟨rfl, rfl⟩)) trivial)))
theorem kM_change : zcd (mM_change) cdM_change := by
  intro a is h
  unfold cdM_change at h
  split at h
  · cases h; exact bM_change_0
  · cases h; exact bM_change_12
  · cases h; exact bM_change_56
  · cases h; exact bM_change_62
  · cases h
def qM_enter_0 : List zIns := [(.aload_n 0, 1, 0, 0, 0, 0, 0, z0), (.iload_n 2, 1, 0, 0, 0, 0, 0, z0), (.invokevirtual 201, 3, 1, 9, 0, 0, 0, mM_exclusive), (.istore_n 3, 1, 0, 0, 0, 0, 0, z0), (.aload_n 0, 1, 0, 0, 0, 0, 0, z0), (.iload_n 2, 1, 0, 0, 0, 0, 0, z0), (.invokevirtual 194, 3, 1, 9, 0, 0, 0, mM_head), (.iconst (1), 1, 1, 0, 0, 0, 0, z0), (.iadd, 1, 0, 0, 0, 0, 0, z0), (.istore 4, 2, 0, 0, 0, 0, 0, z0), (.aload_n 0, 1, 0, 0, 0, 0, 0, z0), (.getfield 66, 3, 9, 25, 0, 0, 0, z0), (.aload_n 0, 1, 0, 0, 0, 0, 0, z0), (.getfield 188, 3, 9, 24, 0, 0, 0, z0), (.iload_n 2, 1, 0, 0, 0, 0, 0, z0), (.iastore, 1, 0, 0, 0, 0, 0, z0), (.aload_n 0, 1, 0, 0, 0, 0, 0, z0), (.getfield 69, 3, 9, 26, 0, 0, 0, z0), (.aload_n 0, 1, 0, 0, 0, 0, 0, z0), (.getfield 188, 3, 9, 24, 0, 0, 0, z0), (.aload_n 0, 1, 0, 0, 0, 0, 0, z0), (.getfield 241, 3, 9, 30, 0, 0, 0, z0), (.iastore, 1, 0, 0, 0, 0, 0, z0), (.aload_n 0, 1, 0, 0, 0, 0, 0, z0), (.getfield 75, 3, 9, 28, 0, 0, 0, z0), (.aload_n 0, 1, 0, 0, 0, 0, 0, z0), (.getfield 188, 3, 9, 24, 0, 0, 0, z0), (.aload_n 0, 1, 0, 0, 0, 0, 0, z0), (.getfield 90, 3, 9, 35, 0, 0, 0, z0), (.iload_n 1, 1, 0, 0, 0, 0, 0, z0), (.iaload, 1, 0, 0, 0, 0, 0, z0), (.iconst (3), 1, 3, 0, 0, 0, 0, z0), (.if_icmp .ne (7), 3, 60, 0, 0, 0, 0, z0), (.iconst (1), 1, 1, 0, 0, 0, 0, z0), (.goto (4), 3, 61, 0, 0, 0, 0, z0)]
def qM_enter_60 : List zIns := [(.iconst (0), 1, 0, 0, 0, 0, 0, z0)]
def qM_enter_61 : List zIns := [(.bastore, 1, 2, 0, 0, 0, 0, z0), (.aload_n 0, 1, 0, 0, 0, 0, 0, z0), (.getfield 72, 3, 9, 27, 0, 0, 0, z0), (.aload_n 0, 1, 0, 0, 0, 0, 0, z0), (.getfield 188, 3, 9, 24, 0, 0, 0, z0), (.aload_n 0, 1, 0, 0, 0, 0, 0, z0), (.getfield 87, 3, 9, 34, 0, 0, 0, z0), (.iload_n 1, 1, 0, 0, 0, 0, 0, z0), (.iaload, 1, 0, 0, 0, 0, 0, z0), (.iastore, 1, 0, 0, 0, 0, 0, z0), (.aload_n 0, 1, 0, 0, 0, 0, 0, z0), (.getfield 78, 3, 9, 29, 0, 0, 0, z0), (.aload_n 0, 1, 0, 0, 0, 0, 0, z0), (.getfield 188, 3, 9, 24, 0, 0, 0, z0), (.aload_n 0, 1, 0, 0, 0, 0, 0, z0), (.getfield 90, 3, 9, 35, 0, 0, 0, z0), (.iload_n 1, 1, 0, 0, 0, 0, 0, z0), (.iaload, 1, 0, 0, 0, 0, 0, z0), (.iconst (1), 1, 1, 0, 0, 0, 0, z0), (.if_icmp .ne (12), 3, 104, 0, 0, 0, 0, z0), (.aload_n 0, 1, 0, 0, 0, 0, 0, z0), (.getfield 99, 3, 9, 38, 0, 0, 0, z0), (.iload_n 1, 1, 0, 0, 0, 0, 0, z0), (.baload, 1, 2, 0, 0, 0, 0, z0), (.goto (4), 3, 105, 0, 0, 0, 0, z0)]
def qM_enter_104 : List zIns := [(.iload_n 3, 1, 0, 0, 0, 0, 0, z0)]
def qM_enter_105 : List zIns := [(.bastore, 1, 2, 0, 0, 0, 0, z0), (.aload_n 0, 1, 0, 0, 0, 0, 0, z0), (.dup, 1, 0, 0, 0, 0, 0, z0), (.getfield 188, 3, 9, 24, 0, 0, 0, z0), (.iconst (1), 1, 1, 0, 0, 0, 0, z0), (.iadd, 1, 0, 0, 0, 0, 0, z0), (.putfield 188, 3, 9, 24, 0, 0, 0, z0), (.aload_n 0, 1, 0, 0, 0, 0, 0, z0), (.getfield 84, 3, 9, 33, 0, 0, 0, z0), (.iload_n 1, 1, 0, 0, 0, 0, 0, z0), (.aload_n 0, 1, 0, 0, 0, 0, 0, z0), (.getfield 90, 3, 9, 35, 0, 0, 0, z0), (.iload_n 1, 1, 0, 0, 0, 0, 0, z0), (.iaload, 1, 0, 0, 0, 0, 0, z0), (.iconst (3), 1, 3, 0, 0, 0, 0, z0), (.if_icmp .ne (7), 3, 135, 0, 0, 0, 0, z0), (.iconst (0), 1, 0, 0, 0, 0, 0, z0), (.goto (5), 3, 137, 0, 0, 0, 0, z0)]
def qM_enter_135 : List zIns := [(.iload 4, 2, 0, 0, 0, 0, 0, z0)]
def qM_enter_137 : List zIns := [(.iastore, 1, 0, 0, 0, 0, 0, z0), (.aload_n 0, 1, 0, 0, 0, 0, 0, z0), (.getfield 111, 3, 9, 42, 0, 0, 0, z0), (.iload_n 1, 1, 0, 0, 0, 0, 0, z0), (.iaload, 1, 0, 0, 0, 0, 0, z0), (.iconst (1), 1, 1, 0, 0, 0, 0, z0), (.isub, 1, 0, 0, 0, 0, 0, z0), (.istore 5, 2, 0, 0, 0, 0, 0, z0), (.iload 5, 2, 0, 0, 0, 0, 0, z0), (.ifCond .lt (110), 3, 260, 0, 0, 0, 0, z0), (.bipush (12), 2, 12, 0, 0, 0, 0, z0), (.iload 5, 2, 0, 0, 0, 0, 0, z0), (.imul, 1, 0, 0, 0, 0, 0, z0), (.iload_n 2, 1, 0, 0, 0, 0, 0, z0), (.iadd, 1, 0, 0, 0, 0, 0, z0), (.istore 6, 2, 0, 0, 0, 0, 0, z0), (.bipush (12), 2, 12, 0, 0, 0, 0, z0), (.iload_n 2, 1, 0, 0, 0, 0, 0, z0), (.imul, 1, 0, 0, 0, 0, 0, z0), (.iload 5, 2, 0, 0, 0, 0, 0, z0), (.iadd, 1, 0, 0, 0, 0, 0, z0), (.istore 7, 2, 0, 0, 0, 0, 0, z0), (.aload_n 0, 1, 0, 0, 0, 0, 0, z0), (.getfield 81, 3, 9, 32, 0, 0, 0, z0), (.iload 6, 2, 0, 0, 0, 0, 0, z0), (.aload_n 0, 1, 0, 0, 0, 0, 0, z0), (.getfield 114, 3, 9, 43, 0, 0, 0, z0), (.iload_n 1, 1, 0, 0, 0, 0, 0, z0), (.iaload, 1, 0, 0, 0, 0, 0, z0), (.aload_n 0, 1, 0, 0, 0, 0, 0, z0), (.getfield 81, 3, 9, 32, 0, 0, 0, z0), (.iload 6, 2, 0, 0, 0, 0, 0, z0), (.iaload, 1, 0, 0, 0, 0, 0, z0), (.if_icmp .le (12), 3, 202, 0, 0, 0, 0, z0), (.aload_n 0, 1, 0, 0, 0, 0, 0, z0), (.getfield 114, 3, 9, 43, 0, 0, 0, z0), (.iload_n 1, 1, 0, 0, 0, 0, 0, z0), (.iaload, 1, 0, 0, 0, 0, 0, z0), (.goto (10), 3, 209, 0, 0, 0, 0, z0)]
def qM_enter_202 : List zIns := [(.aload_n 0, 1, 0, 0, 0, 0, 0, z0), (.getfield 81, 3, 9, 32, 0, 0, 0, z0), (.iload 6, 2, 0, 0, 0, 0, 0, z0), (.iaload, 1, 0, 0, 0, 0, 0, z0)]
def qM_enter_209 : List zIns := [(.iastore, 1, 0, 0, 0, 0, 0, z0), (.aload_n 0, 1, 0, 0, 0, 0, 0, z0), (.dup, 1, 0, 0, 0, 0, 0, z0), (.getfield 244, 3, 9, 31, 0, 0, 0, z0), (.iconst (1), 1, 1, 0, 0, 0, 0, z0), (.iadd, 1, 0, 0, 0, 0, 0, z0), (.putfield 244, 3, 9, 31, 0, 0, 0, z0), (.aload_n 0, 1, 0, 0, 0, 0, 0, z0), (.getfield 81, 3, 9, 32, 0, 0, 0, z0), (.iload 7, 2, 0, 0, 0, 0, 0, z0), (.aload_n 0, 1, 0, 0, 0, 0, 0, z0), (.getfield 117, 3, 9, 44, 0, 0, 0, z0), (.iload_n 1, 1, 0, 0, 0, 0, 0, z0), (.baload, 1, 2, 0, 0, 0, 0, z0), (.ifCond .eq (20), 3, 252, 0, 0, 0, 0, z0), (.iload 4, 2, 0, 0, 0, 0, 0, z0), (.aload_n 0, 1, 0, 0, 0, 0, 0, z0), (.getfield 81, 3, 9, 32, 0, 0, 0, z0), (.iload 7, 2, 0, 0, 0, 0, 0, z0), (.iaload, 1, 0, 0, 0, 0, 0, z0), (.if_icmp .le (8), 3, 252, 0, 0, 0, 0, z0), (.iload 4, 2, 0, 0, 0, 0, 0, z0), (.goto (10), 3, 259, 0, 0, 0, 0, z0)]
def qM_enter_252 : List zIns := [(.aload_n 0, 1, 0, 0, 0, 0, 0, z0), (.getfield 81, 3, 9, 32, 0, 0, 0, z0), (.iload 7, 2, 0, 0, 0, 0, 0, z0), (.iaload, 1, 0, 0, 0, 0, 0, z0)]
def qM_enter_259 : List zIns := [(.iastore, 1, 0, 0, 0, 0, 0, z0)]
def qM_enter_260 : List zIns := [(.aload_n 0, 1, 0, 0, 0, 0, 0, z0), (.getfield 90, 3, 9, 35, 0, 0, 0, z0), (.iload_n 1, 1, 0, 0, 0, 0, 0, z0), (.iconst (0), 1, 0, 0, 0, 0, 0, z0), (.iastore, 1, 0, 0, 0, 0, 0, z0), (.aload_n 0, 1, 0, 0, 0, 0, 0, z0), (.iload_n 1, 1, 0, 0, 0, 0, 0, z0), (.invokevirtual 247, 3, 1, 9, 0, 0, 0, mM_forget), (.return_, 1, 0, 0, 0, 0, 0, z0)]
def cdM_enter : zCd := fun a => match a with
  | 0 => some qM_enter_0
  | 60 => some qM_enter_60
  | 61 => some qM_enter_61
  | 104 => some qM_enter_104
  | 105 => some qM_enter_105
  | 135 => some qM_enter_135
  | 137 => some qM_enter_137
  | 202 => some qM_enter_202
  | 209 => some qM_enter_209
  | 252 => some qM_enter_252
  | 259 => some qM_enter_259
  | 260 => some qM_enter_260
  | _ => none
set_option maxRecDepth 100000 in
theorem bM_enter_0 : zcode (mM_enter) 0 qM_enter_0 := zcode_of (by decide +kernel) (zoks_cons rfl (zoks_cons rfl (zoks_cons (And.intro rfl kV59) (zoks_cons rfl (zoks_cons rfl (zoks_cons rfl (zoks_cons (And.intro rfl kV57) (zoks_cons (And.intro rfl (by decide)) (zoks_cons rfl (zoks_cons rfl (zoks_cons rfl (zoks_cons (And.intro rfl kF48) (zoks_cons rfl (zoks_cons (And.intro rfl kF47) (zoks_cons rfl (zoks_cons (And.intro rfl rfl) (zoks_cons rfl (zoks_cons (And.intro rfl kF52) (zoks_cons rfl (zoks_cons (And.intro rfl kF47) (zoks_cons rfl (zoks_cons (And.intro rfl kF73) (zoks_cons (And.intro rfl rfl) (zoks_cons rfl (zoks_cons (And.intro rfl kF49) (zoks_cons rfl (zoks_cons (And.intro rfl kF47) (zoks_cons rfl (zoks_cons (And.intro rfl kF53) (zoks_cons rfl (zoks_cons (And.intro rfl rfl) (zoks_cons (And.intro rfl (by decide)) (zoks_cons (And.intro rfl (by decide)) (zoks_cons (And.intro rfl (by decide)) (zoks_cons (And.intro rfl (by decide)) trivial)))))))))))))))))))))))))))))))))))
set_option maxRecDepth 100000 in
theorem bM_enter_60 : zcode (mM_enter) 60 qM_enter_60 := zcode_of (by decide +kernel) (zoks_cons (And.intro rfl (by decide)) trivial)
set_option maxRecDepth 100000 in
theorem bM_enter_61 : zcode (mM_enter) 61 qM_enter_61 := zcode_of (by decide +kernel) (zoks_cons (And.intro rfl rfl) (zoks_cons rfl (zoks_cons (And.intro rfl kF50) (zoks_cons rfl (zoks_cons (And.intro rfl kF47) (zoks_cons rfl (zoks_cons (And.intro rfl kF62) (zoks_cons rfl (zoks_cons (And.intro rfl rfl) (zoks_cons (And.intro rfl rfl) (zoks_cons rfl (zoks_cons (And.intro rfl kF51) (zoks_cons rfl (zoks_cons (And.intro rfl kF47) (zoks_cons rfl (zoks_cons (And.intro rfl kF53) (zoks_cons rfl (zoks_cons (And.intro rfl rfl) (zoks_cons (And.intro rfl (by decide)) (zoks_cons (And.intro rfl (by decide)) (zoks_cons rfl (zoks_cons (And.intro rfl kF54) (zoks_cons rfl (zoks_cons (And.intro rfl rfl) (zoks_cons (And.intro rfl (by decide)) trivial)))))))))))))))))))))))))
set_option maxRecDepth 100000 in
theorem bM_enter_104 : zcode (mM_enter) 104 qM_enter_104 := zcode_of (by decide +kernel) (zoks_cons rfl trivial)
set_option maxRecDepth 100000 in
theorem bM_enter_105 : zcode (mM_enter) 105 qM_enter_105 := zcode_of (by decide +kernel) (zoks_cons (And.intro rfl rfl) (zoks_cons rfl (zoks_cons rfl (zoks_cons (And.intro rfl kF47) (zoks_cons (And.intro rfl (by decide)) (zoks_cons rfl (zoks_cons (And.intro rfl (And.intro rfl (kP56 rfl))) (zoks_cons rfl (zoks_cons (And.intro rfl kF65) (zoks_cons rfl (zoks_cons rfl (zoks_cons (And.intro rfl kF53) (zoks_cons rfl (zoks_cons (And.intro rfl rfl) (zoks_cons (And.intro rfl (by decide)) (zoks_cons (And.intro rfl (by decide)) (zoks_cons (And.intro rfl (by decide)) (zoks_cons (And.intro rfl (by decide)) trivial))))))))))))))))))
set_option maxRecDepth 100000 in
theorem bM_enter_135 : zcode (mM_enter) 135 qM_enter_135 := zcode_of (by decide +kernel) (zoks_cons rfl trivial)
set_option maxRecDepth 100000 in
theorem bM_enter_137 : zcode (mM_enter) 137 qM_enter_137 := zcode_of (by decide +kernel) (zoks_cons (And.intro rfl rfl) (zoks_cons rfl (zoks_cons (And.intro rfl kF68) (zoks_cons rfl (zoks_cons (And.intro rfl rfl) (zoks_cons (And.intro rfl (by decide)) (zoks_cons rfl (zoks_cons rfl (zoks_cons rfl (zoks_cons (And.intro rfl (by decide)) (zoks_cons (And.intro rfl (by decide)) (zoks_cons rfl (zoks_cons rfl (zoks_cons rfl (zoks_cons rfl (zoks_cons rfl (zoks_cons (And.intro rfl (by decide)) (zoks_cons rfl (zoks_cons rfl (zoks_cons rfl (zoks_cons rfl (zoks_cons rfl (zoks_cons rfl (zoks_cons (And.intro rfl kF64) (zoks_cons rfl (zoks_cons rfl (zoks_cons (And.intro rfl kF70) (zoks_cons rfl (zoks_cons (And.intro rfl rfl) (zoks_cons rfl (zoks_cons (And.intro rfl kF64) (zoks_cons rfl (zoks_cons (And.intro rfl rfl) (zoks_cons (And.intro rfl (by decide)) (zoks_cons rfl (zoks_cons (And.intro rfl kF70) (zoks_cons rfl (zoks_cons (And.intro rfl rfl) (zoks_cons (And.intro rfl (by decide)) trivial)))))))))))))))))))))))))))))))))))))))
set_option maxRecDepth 100000 in
theorem bM_enter_202 : zcode (mM_enter) 202 qM_enter_202 := zcode_of (by decide +kernel) (zoks_cons rfl (zoks_cons (And.intro rfl kF64) (zoks_cons rfl (zoks_cons (And.intro rfl rfl) trivial))))
set_option maxRecDepth 100000 in
theorem bM_enter_209 : zcode (mM_enter) 209 qM_enter_209 := zcode_of (by decide +kernel) (zoks_cons (And.intro rfl rfl) (zoks_cons rfl (zoks_cons rfl (zoks_cons (And.intro rfl kF74) (zoks_cons (And.intro rfl (by decide)) (zoks_cons rfl (zoks_cons (And.intro rfl (And.intro rfl (kP58 rfl))) (zoks_cons rfl (zoks_cons (And.intro rfl kF64) (zoks_cons rfl (zoks_cons rfl (zoks_cons (And.intro rfl kF71) (zoks_cons rfl (zoks_cons (And.intro rfl rfl) (zoks_cons (And.intro rfl (by decide)) (zoks_cons rfl (zoks_cons rfl (zoks_cons (And.intro rfl kF64) (zoks_cons rfl (zoks_cons (And.intro rfl rfl) (zoks_cons (And.intro rfl (by decide)) (zoks_cons rfl (zoks_cons (And.intro rfl (by decide)) trivial)))))))))))))))))))))))
set_option maxRecDepth 100000 in
theorem bM_enter_252 : zcode (mM_enter) 252 qM_enter_252 := zcode_of (by decide +kernel) (zoks_cons rfl (zoks_cons (And.intro rfl kF64) (zoks_cons rfl (zoks_cons (And.intro rfl rfl) trivial))))
set_option maxRecDepth 100000 in
theorem bM_enter_259 : zcode (mM_enter) 259 qM_enter_259 := zcode_of (by decide +kernel) (zoks_cons (And.intro rfl rfl) trivial)
set_option maxRecDepth 100000 in
theorem bM_enter_260 : zcode (mM_enter) 260 qM_enter_260 := zcode_of (by decide +kernel) (zoks_cons rfl (zoks_cons (And.intro rfl kF53) (zoks_cons rfl (zoks_cons (And.intro rfl (by decide)) (zoks_cons (And.intro rfl rfl) (zoks_cons rfl (zoks_cons rfl (zoks_cons (And.intro rfl kV69) (zoks_cons (And.intro rfl rfl) trivial)))))))))
theorem kM_enter : zcd (mM_enter) cdM_enter := by
  intro a is h
  unfold cdM_enter at h
  split at h
  · cases h; exact bM_enter_0
  · cases h; exact bM_enter_60
  · cases h; exact bM_enter_61
  · cases h; exact bM_enter_104
  · cases h; exact bM_enter_105
  · cases h; exact bM_enter_135
  · cases h; exact bM_enter_137
  · cases h; exact bM_enter_202
  · cases h; exact bM_enter_209
  · cases h; exact bM_enter_252
  · cases h; exact bM_enter_259
  · cases h; exact bM_enter_260
  · cases h
def qM_submit_0 : List zIns := [(.iload_n 1, 1, 0, 0, 0, 0, 0, z0), (.invokestatic 124, 3, 1, 0, 0, 0, 0, mM_isClient), (.ifCond .eq (10), 3, 14, 0, 0, 0, 0, z0), (.iload_n 2, 1, 0, 0, 0, 0, 0, z0), (.invokestatic 254, 3, 1, 0, 0, 0, 0, mM_isList), (.ifCond .ne (5), 3, 16, 0, 0, 0, 0, z0)]
def qM_submit_14 : List zIns := [(.iconst (-1), 1, 1, 0, 1, 0, 0, z0), (.ireturn, 1, 0, 0, 0, 0, 0, z0)]
def qM_submit_16 : List zIns := [(.iconst (0), 1, 0, 0, 0, 0, 0, z0), (.istore_n 3, 1, 0, 0, 0, 0, 0, z0), (.iconst (0), 1, 0, 0, 0, 0, 0, z0), (.istore 4, 2, 0, 0, 0, 0, 0, z0), (.iconst (0), 1, 0, 0, 0, 0, 0, z0), (.istore 5, 2, 0, 0, 0, 0, 0, z0), (.iconst (0), 1, 0, 0, 0, 0, 0, z0), (.istore 6, 2, 0, 0, 0, 0, 0, z0)]
def qM_submit_27 : List zIns := [(.iload 6, 2, 0, 0, 0, 0, 0, z0), (.aload_n 0, 1, 0, 0, 0, 0, 0, z0), (.getfield 120, 3, 9, 2, 0, 0, 0, z0), (.if_icmp .ge (125), 3, 158, 0, 0, 0, 0, z0), (.bipush (12), 2, 12, 0, 0, 0, 0, z0), (.iload_n 1, 1, 0, 0, 0, 0, 0, z0), (.imul, 1, 0, 0, 0, 0, 0, z0), (.iload 6, 2, 0, 0, 0, 0, 0, z0), (.iadd, 1, 0, 0, 0, 0, 0, z0), (.istore 7, 2, 0, 0, 0, 0, 0, z0), (.aload_n 0, 1, 0, 0, 0, 0, 0, z0), (.getfield 90, 3, 9, 35, 0, 0, 0, z0), (.iload 7, 2, 0, 0, 0, 0, 0, z0), (.iaload, 1, 0, 0, 0, 0, 0, z0), (.ifCond .le (100), 3, 152, 0, 0, 0, 0, z0), (.aload_n 0, 1, 0, 0, 0, 0, 0, z0), (.getfield 93, 3, 9, 36, 0, 0, 0, z0), (.iload 7, 2, 0, 0, 0, 0, 0, z0), (.iaload, 1, 0, 0, 0, 0, 0, z0), (.iload_n 2, 1, 0, 0, 0, 0, 0, z0), (.if_icmp .ne (89), 3, 152, 0, 0, 0, 0, z0), (.iinc 3 (1), 3, 1, 0, 0, 0, 0, z0), (.iload 4, 2, 0, 0, 0, 0, 0, z0), (.ifCond .ne (42), 3, 113, 0, 0, 0, 0, z0), (.aload_n 0, 1, 0, 0, 0, 0, 0, z0), (.getfield 90, 3, 9, 35, 0, 0, 0, z0), (.iload 7, 2, 0, 0, 0, 0, 0, z0), (.iaload, 1, 0, 0, 0, 0, 0, z0), (.iconst (1), 1, 1, 0, 0, 0, 0, z0), (.if_icmp .ne (15), 3, 97, 0, 0, 0, 0, z0), (.aload_n 0, 1, 0, 0, 0, 0, 0, z0), (.iload 6, 2, 0, 0, 0, 0, 0, z0), (.invokevirtual 260, 3, 1, 9, 0, 0, 0, mM_gone), (.ifCond .ne (26), 3, 117, 0, 0, 0, 0, z0), (.goto (19), 3, 113, 0, 0, 0, 0, z0)]
def qM_submit_97 : List zIns := [(.aload_n 0, 1, 0, 0, 0, 0, 0, z0), (.getfield 96, 3, 9, 37, 0, 0, 0, z0), (.iload 7, 2, 0, 0, 0, 0, 0, z0), (.iaload, 1, 0, 0, 0, 0, 0, z0), (.aload_n 0, 1, 0, 0, 0, 0, 0, z0), (.iload 6, 2, 0, 0, 0, 0, 0, z0), (.invokevirtual 194, 3, 1, 9, 0, 0, 0, mM_head), (.if_icmp .eq (7), 3, 117, 0, 0, 0, 0, z0)]
def qM_submit_113 : List zIns := [(.iconst (1), 1, 1, 0, 0, 0, 0, z0), (.goto (4), 3, 118, 0, 0, 0, 0, z0)]
def qM_submit_117 : List zIns := [(.iconst (0), 1, 0, 0, 0, 0, 0, z0)]
def qM_submit_118 : List zIns := [(.istore 4, 2, 0, 0, 0, 0, 0, z0), (.iload 5, 2, 0, 0, 0, 0, 0, z0), (.ifCond .ne (23), 3, 145, 0, 0, 0, 0, z0), (.aload_n 0, 1, 0, 0, 0, 0, 0, z0), (.getfield 102, 3, 9, 39, 0, 0, 0, z0), (.iload 7, 2, 0, 0, 0, 0, 0, z0), (.iaload, 1, 0, 0, 0, 0, 0, z0), (.ifCond .gt (13), 3, 145, 0, 0, 0, 0, z0), (.aload_n 0, 1, 0, 0, 0, 0, 0, z0), (.getfield 105, 3, 9, 40, 0, 0, 0, z0), (.iload 7, 2, 0, 0, 0, 0, 0, z0), (.iaload, 1, 0, 0, 0, 0, 0, z0), (.ifCond .le (7), 3, 149, 0, 0, 0, 0, z0)]
def qM_submit_145 : List zIns := [(.iconst (1), 1, 1, 0, 0, 0, 0, z0), (.goto (4), 3, 150, 0, 0, 0, 0, z0)]
def qM_submit_149 : List zIns := [(.iconst (0), 1, 0, 0, 0, 0, 0, z0)]
def qM_submit_150 : List zIns := [(.istore 5, 2, 0, 0, 0, 0, 0, z0)]
def qM_submit_152 : List zIns := [(.iinc 6 (1), 3, 1, 0, 0, 0, 0, z0), (.goto (-128), 3, 27, 0, 0, 0, 0, z0)]
def qM_submit_158 : List zIns := [(.iload_n 3, 1, 0, 0, 0, 0, 0, z0), (.ifCond .ne (6), 3, 165, 0, 0, 0, 0, z0), (.bipush (-2), 2, 2, 0, 1, 0, 0, z0), (.ireturn, 1, 0, 0, 0, 0, 0, z0)]
def qM_submit_165 : List zIns := [(.iload 4, 2, 0, 0, 0, 0, 0, z0), (.ifCond .eq (6), 3, 173, 0, 0, 0, 0, z0), (.bipush (-3), 2, 3, 0, 1, 0, 0, z0), (.ireturn, 1, 0, 0, 0, 0, 0, z0)]
def qM_submit_173 : List zIns := [(.iload 5, 2, 0, 0, 0, 0, 0, z0), (.ifCond .eq (6), 3, 181, 0, 0, 0, 0, z0), (.bipush (-4), 2, 4, 0, 1, 0, 0, z0), (.ireturn, 1, 0, 0, 0, 0, 0, z0)]
def qM_submit_181 : List zIns := [(.aload_n 0, 1, 0, 0, 0, 0, 0, z0), (.getfield 188, 3, 9, 24, 0, 0, 0, z0), (.iload_n 3, 1, 0, 0, 0, 0, 0, z0), (.iadd, 1, 0, 0, 0, 0, 0, z0), (.bipush (48), 2, 48, 0, 0, 0, 0, z0), (.if_icmp .le (6), 3, 195, 0, 0, 0, 0, z0), (.bipush (-5), 2, 5, 0, 1, 0, 0, z0), (.ireturn, 1, 0, 0, 0, 0, 0, z0)]
def qM_submit_195 : List zIns := [(.aload_n 0, 1, 0, 0, 0, 0, 0, z0), (.bipush (10), 2, 10, 0, 0, 0, 0, z0), (.iload_n 1, 1, 0, 0, 0, 0, 0, z0), (.iload_n 2, 1, 0, 0, 0, 0, 0, z0), (.iconst (0), 1, 0, 0, 0, 0, 0, z0), (.iconst (0), 1, 0, 0, 0, 0, 0, z0), (.invokevirtual 250, 3, 5, 9, 0, 0, 0, mM_note), (.aload_n 0, 1, 0, 0, 0, 0, 0, z0), (.iload_n 1, 1, 0, 0, 0, 0, 0, z0), (.iload_n 2, 1, 0, 0, 0, 0, 0, z0), (.invokevirtual 231, 3, 2, 9, 0, 0, 0, mM_change), (.ireturn, 1, 0, 0, 0, 0, 0, z0)]
def cdM_submit : zCd := fun a => match a with
  | 0 => some qM_submit_0
  | 14 => some qM_submit_14
  | 16 => some qM_submit_16
  | 27 => some qM_submit_27
  | 97 => some qM_submit_97
  | 113 => some qM_submit_113
  | 117 => some qM_submit_117
  | 118 => some qM_submit_118
  | 145 => some qM_submit_145
  | 149 => some qM_submit_149
  | 150 => some qM_submit_150
  | 152 => some qM_submit_152
  | 158 => some qM_submit_158
  | 165 => some qM_submit_165
  | 173 => some qM_submit_173
  | 181 => some qM_submit_181
  | 195 => some qM_submit_195
  | _ => none
set_option maxRecDepth 100000 in
theorem bM_submit_0 : zcode (mM_submit) 0 qM_submit_0 := zcode_of (by decide +kernel) (zoks_cons rfl (zoks_cons (And.intro rfl kS4) (zoks_cons (And.intro rfl (by decide)) (zoks_cons rfl (zoks_cons (And.intro rfl kS7) (zoks_cons (And.intro rfl (by decide)) trivial))))))
set_option maxRecDepth 100000 in
theorem bM_submit_14 : zcode (mM_submit) 14 qM_submit_14 := zcode_of (by decide +kernel) (zoks_cons (And.intro rfl (by decide)) (zoks_cons (And.intro rfl (Or.inl ⟨rfl, rfl⟩)) trivial))
set_option maxRecDepth 100000 in
theorem bM_submit_16 : zcode (mM_submit) 16 qM_submit_16 := zcode_of (by decide +kernel) (zoks_cons (And.intro rfl (by decide)) (zoks_cons rfl (zoks_cons (And.intro rfl (by decide)) (zoks_cons rfl (zoks_cons (And.intro rfl (by decide)) (zoks_cons rfl (zoks_cons (And.intro rfl (by decide)) (zoks_cons rfl trivial))))))))
set_option maxRecDepth 100000 in
theorem bM_submit_27 : zcode (mM_submit) 27 qM_submit_27 := zcode_of (by decide +kernel) (zoks_cons rfl (zoks_cons rfl (zoks_cons (And.intro rfl kF30) (zoks_cons (And.intro rfl (by decide)) (zoks_cons (And.intro rfl (by decide)) (zoks_cons rfl (zoks_cons rfl (zoks_cons rfl (zoks_cons rfl (zoks_cons rfl (zoks_cons rfl (zoks_cons (And.intro rfl kF53) (zoks_cons rfl (zoks_cons (And.intro rfl rfl) (zoks_cons (And.intro rfl (by decide)) (zoks_cons rfl (zoks_cons (And.intro rfl kF63) (zoks_cons rfl (zoks_cons (And.intro rfl rfl) (zoks_cons rfl (zoks_cons (And.intro rfl (by decide)) (zoks_cons (And.intro rfl (by decide)) (zoks_cons rfl (zoks_cons (And.intro rfl (by decide)) (zoks_cons rfl (zoks_cons (And.intro rfl kF53) (zoks_cons rfl (zoks_cons (And.intro rfl rfl) (zoks_cons (And.intro rfl (by decide)) (zoks_cons (And.intro rfl (by decide)) (zoks_cons rfl (zoks_cons rfl (zoks_cons (And.intro rfl kV72) (zoks_cons (And.intro rfl (by decide)) (zoks_cons (And.intro rfl (by decide)) trivial)))))))))))))))))))))))))))))))))))
set_option maxRecDepth 100000 in
theorem bM_submit_97 : zcode (mM_submit) 97 qM_submit_97 := zcode_of (by decide +kernel) (zoks_cons rfl (zoks_cons (And.intro rfl kF69) (zoks_cons rfl (zoks_cons (And.intro rfl rfl) (zoks_cons rfl (zoks_cons rfl (zoks_cons (And.intro rfl kV57) (zoks_cons (And.intro rfl (by decide)) trivial))))))))
set_option maxRecDepth 100000 in
theorem bM_submit_113 : zcode (mM_submit) 113 qM_submit_113 := zcode_of (by decide +kernel) (zoks_cons (And.intro rfl (by decide)) (zoks_cons (And.intro rfl (by decide)) trivial))
set_option maxRecDepth 100000 in
theorem bM_submit_117 : zcode (mM_submit) 117 qM_submit_117 := zcode_of (by decide +kernel) (zoks_cons (And.intro rfl (by decide)) trivial)
set_option maxRecDepth 100000 in
theorem bM_submit_118 : zcode (mM_submit) 118 qM_submit_118 := zcode_of (by decide +kernel) (zoks_cons rfl (zoks_cons rfl (zoks_cons (And.intro rfl (by decide)) (zoks_cons rfl (zoks_cons (And.intro rfl kF66) (zoks_cons rfl (zoks_cons (And.intro rfl rfl) (zoks_cons (And.intro rfl (by decide)) (zoks_cons rfl (zoks_cons (And.intro rfl kF67) (zoks_cons rfl (zoks_cons (And.intro rfl rfl) (zoks_cons (And.intro rfl (by decide)) trivial)))))))))))))
set_option maxRecDepth 100000 in
theorem bM_submit_145 : zcode (mM_submit) 145 qM_submit_145 := zcode_of (by decide +kernel) (zoks_cons (And.intro rfl (by decide)) (zoks_cons (And.intro rfl (by decide)) trivial))
set_option maxRecDepth 100000 in
theorem bM_submit_149 : zcode (mM_submit) 149 qM_submit_149 := zcode_of (by decide +kernel) (zoks_cons (And.intro rfl (by decide)) trivial)
set_option maxRecDepth 100000 in
theorem bM_submit_150 : zcode (mM_submit) 150 qM_submit_150 := zcode_of (by decide +kernel) (zoks_cons rfl trivial)
set_option maxRecDepth 100000 in
theorem bM_submit_152 : zcode (mM_submit) 152 qM_submit_152 := zcode_of (by decide +kernel) (zoks_cons (And.intro rfl (by decide)) (zoks_cons (And.intro rfl (by decide)) trivial))
set_option maxRecDepth 100000 in
theorem bM_submit_158 : zcode (mM_submit) 158 qM_submit_158 := zcode_of (by decide +kernel) (zoks_cons rfl (zoks_cons (And.intro rfl (by decide)) (zoks_cons (And.intro rfl (by decide)) (zoks_cons (And.intro rfl (Or.inl ⟨rfl, rfl⟩)) trivial))))
set_option maxRecDepth 100000 in
theorem bM_submit_165 : zcode (mM_submit) 165 qM_submit_165 := zcode_of (by decide +kernel) (zoks_cons rfl (zoks_cons (And.intro rfl (by decide)) (zoks_cons (And.intro rfl (by decide)) (zoks_cons (And.intro rfl (Or.inl ⟨rfl, rfl⟩)) trivial))))
set_option maxRecDepth 100000 in
theorem bM_submit_173 : zcode (mM_submit) 173 qM_submit_173 := zcode_of (by decide +kernel) (zoks_cons rfl (zoks_cons (And.intro rfl (by decide)) (zoks_cons (And.intro rfl (by decide)) (zoks_cons (And.intro rfl (Or.inl ⟨rfl, rfl⟩)) trivial))))
set_option maxRecDepth 100000 in
theorem bM_submit_181 : zcode (mM_submit) 181 qM_submit_181 := zcode_of (by decide +kernel) (zoks_cons rfl (zoks_cons (And.intro rfl kF47) (zoks_cons rfl (zoks_cons rfl (zoks_cons (And.intro rfl (by decide)) (zoks_cons (And.intro rfl (by decide)) (zoks_cons (And.intro rfl (by decide)) (zoks_cons (And.intro rfl (Or.inl ⟨rfl, rfl⟩)) trivial))))))))
set_option maxRecDepth 100000 in
theorem bM_submit_195 : zcode (mM_submit) 195 qM_submit_195 := zcode_of (by decide +kernel) (zoks_cons rfl (zoks_cons (And.intro rfl (by decide)) (zoks_cons rfl (zoks_cons rfl (zoks_cons (And.intro rfl (by decide)) (zoks_cons (And.intro rfl (by decide)) (zoks_cons (And.intro rfl kV70) (zoks_cons rfl (zoks_cons rfl (zoks_cons rfl (zoks_cons (And.intro rfl kV66) (zoks_cons (And.intro rfl (Or.inl ⟨rfl, rfl⟩)) trivial))))))))))))
theorem kM_submit : zcd (mM_submit) cdM_submit := by
  intro a is h
  unfold cdM_submit at h
  split at h
  · cases h; exact bM_submit_0
  · cases h; exact bM_submit_14
  · cases h; exact bM_submit_16
  · cases h; exact bM_submit_27
  · cases h; exact bM_submit_97
  · cases h; exact bM_submit_113
  · cases h; exact bM_submit_117
  · cases h; exact bM_submit_118
  · cases h; exact bM_submit_145
  · cases h; exact bM_submit_149
  · cases h; exact bM_submit_150
  · cases h; exact bM_submit_152
  · cases h; exact bM_submit_158
  · cases h; exact bM_submit_165
  · cases h; exact bM_submit_173
  · cases h; exact bM_submit_181
  · cases h; exact bM_submit_195
  · cases h
def qM_changes_0 : List zIns := [(.aload_n 0, 1, 0, 0, 0, 0, 0, z0), (.getfield 241, 3, 9, 30, 0, 0, 0, z0), (.ireturn, 1, 0, 0, 0, 0, 0, z0)]
def cdM_changes : zCd := fun a => match a with
  | 0 => some qM_changes_0
  | _ => none
set_option maxRecDepth 100000 in
theorem bM_changes_0 : zcode (mM_changes) 0 qM_changes_0 := zcode_of (by decide +kernel) (zoks_cons rfl (zoks_cons (And.intro rfl kF73) (zoks_cons (And.intro rfl (Or.inl ⟨rfl, rfl⟩)) trivial)))
theorem kM_changes : zcd (mM_changes) cdM_changes := by
  intro a is h
  unfold cdM_changes at h
  split at h
  · cases h; exact bM_changes_0
  · cases h
def qM_joins_0 : List zIns := [(.aload_n 0, 1, 0, 0, 0, 0, 0, z0), (.getfield 244, 3, 9, 31, 0, 0, 0, z0), (.ireturn, 1, 0, 0, 0, 0, 0, z0)]
def cdM_joins : zCd := fun a => match a with
  | 0 => some qM_joins_0
  | _ => none
set_option maxRecDepth 100000 in
theorem bM_joins_0 : zcode (mM_joins) 0 qM_joins_0 := zcode_of (by decide +kernel) (zoks_cons rfl (zoks_cons (And.intro rfl kF74) (zoks_cons (And.intro rfl (Or.inl ⟨rfl, rfl⟩)) trivial)))
theorem kM_joins : zcd (mM_joins) cdM_joins := by
  intro a is h
  unfold cdM_joins at h
  split at h
  · cases h; exact bM_joins_0
  · cases h
def qM_have_0 : List zIns := [(.aload_n 0, 1, 0, 0, 0, 0, 0, z0), (.iload_n 1, 1, 0, 0, 0, 0, 0, z0), (.iload_n 2, 1, 0, 0, 0, 0, 0, z0), (.invokevirtual 182, 3, 2, 9, 0, 0, 0, mM_both), (.ifCond .eq (17), 3, 23, 0, 0, 0, 0, z0), (.aload_n 0, 1, 0, 0, 0, 0, 0, z0), (.getfield 84, 3, 9, 33, 0, 0, 0, z0), (.bipush (12), 2, 12, 0, 0, 0, 0, z0), (.iload_n 1, 1, 0, 0, 0, 0, 0, z0), (.imul, 1, 0, 0, 0, 0, 0, z0), (.iload_n 2, 1, 0, 0, 0, 0, 0, z0), (.iadd, 1, 0, 0, 0, 0, 0, z0), (.iaload, 1, 0, 0, 0, 0, 0, z0), (.goto (4), 3, 24, 0, 0, 0, 0, z0)]
def qM_have_23 : List zIns := [(.iconst (-1), 1, 1, 0, 1, 0, 0, z0)]
def qM_have_24 : List zIns := [(.ireturn, 1, 0, 0, 0, 0, 0, z0)]
def cdM_have : zCd := fun a => match a with
  | 0 => some qM_have_0
  | 23 => some qM_have_23
  | 24 => some qM_have_24
  | _ => none
set_option maxRecDepth 100000 in
theorem bM_have_0 : zcode (mM_have) 0 qM_have_0 := zcode_of (by decide +kernel) (zoks_cons rfl (zoks_cons rfl (zoks_cons rfl (zoks_cons (And.intro rfl kV54) (zoks_cons (And.intro rfl (by decide)) (zoks_cons rfl (zoks_cons (And.intro rfl kF65) (zoks_cons (And.intro rfl (by decide)) (zoks_cons rfl (zoks_cons rfl (zoks_cons rfl (zoks_cons rfl (zoks_cons (And.intro rfl rfl) (zoks_cons (And.intro rfl (by decide)) trivial))))))))))))))
set_option maxRecDepth 100000 in
theorem bM_have_23 : zcode (mM_have) 23 qM_have_23 := zcode_of (by decide +kernel) (zoks_cons (And.intro rfl (by decide)) trivial)
set_option maxRecDepth 100000 in
theorem bM_have_24 : zcode (mM_have) 24 qM_have_24 := zcode_of (by decide +kernel) (zoks_cons (And.intro rfl (Or.inl ⟨rfl, rfl⟩)) trivial)
theorem kM_have : zcd (mM_have) cdM_have := by
  intro a is h
  unfold cdM_have at h
  split at h
  · cases h; exact bM_have_0
  · cases h; exact bM_have_23
  · cases h; exact bM_have_24
  · cases h
def qM_text_0 : List zIns := [(.aload_n 0, 1, 0, 0, 0, 0, 0, z0), (.iload_n 1, 1, 0, 0, 0, 0, 0, z0), (.iload_n 2, 1, 0, 0, 0, 0, 0, z0), (.invokevirtual 182, 3, 2, 9, 0, 0, 0, mM_both), (.ifCond .eq (17), 3, 23, 0, 0, 0, 0, z0), (.aload_n 0, 1, 0, 0, 0, 0, 0, z0), (.getfield 87, 3, 9, 34, 0, 0, 0, z0), (.bipush (12), 2, 12, 0, 0, 0, 0, z0), (.iload_n 1, 1, 0, 0, 0, 0, 0, z0), (.imul, 1, 0, 0, 0, 0, 0, z0), (.iload_n 2, 1, 0, 0, 0, 0, 0, z0), (.iadd, 1, 0, 0, 0, 0, 0, z0), (.iaload, 1, 0, 0, 0, 0, 0, z0), (.goto (4), 3, 24, 0, 0, 0, 0, z0)]
def qM_text_23 : List zIns := [(.iconst (0), 1, 0, 0, 0, 0, 0, z0)]
def qM_text_24 : List zIns := [(.ireturn, 1, 0, 0, 0, 0, 0, z0)]
def cdM_text : zCd := fun a => match a with
  | 0 => some qM_text_0
  | 23 => some qM_text_23
  | 24 => some qM_text_24
  | _ => none
set_option maxRecDepth 100000 in
theorem bM_text_0 : zcode (mM_text) 0 qM_text_0 := zcode_of (by decide +kernel) (zoks_cons rfl (zoks_cons rfl (zoks_cons rfl (zoks_cons (And.intro rfl kV54) (zoks_cons (And.intro rfl (by decide)) (zoks_cons rfl (zoks_cons (And.intro rfl kF62) (zoks_cons (And.intro rfl (by decide)) (zoks_cons rfl (zoks_cons rfl (zoks_cons rfl (zoks_cons rfl (zoks_cons (And.intro rfl rfl) (zoks_cons (And.intro rfl (by decide)) trivial))))))))))))))
set_option maxRecDepth 100000 in
theorem bM_text_23 : zcode (mM_text) 23 qM_text_23 := zcode_of (by decide +kernel) (zoks_cons (And.intro rfl (by decide)) trivial)
set_option maxRecDepth 100000 in
theorem bM_text_24 : zcode (mM_text) 24 qM_text_24 := zcode_of (by decide +kernel) (zoks_cons (And.intro rfl (Or.inl ⟨rfl, rfl⟩)) trivial)
theorem kM_text : zcd (mM_text) cdM_text := by
  intro a is h
  unfold cdM_text at h
  split at h
  · cases h; exact bM_text_0
  · cases h; exact bM_text_23
  · cases h; exact bM_text_24
  · cases h
def qM_opened_0 : List zIns := [(.aload_n 0, 1, 0, 0, 0, 0, 0, z0), (.iload_n 1, 1, 0, 0, 0, 0, 0, z0), (.iload_n 2, 1, 0, 0, 0, 0, 0, z0), (.invokevirtual 182, 3, 2, 9, 0, 0, 0, mM_both), (.ifCond .eq (12), 3, 18, 0, 0, 0, 0, z0), (.iload_n 3, 1, 0, 0, 0, 0, 0, z0), (.ifCond .lt (8), 3, 18, 0, 0, 0, 0, z0), (.iload_n 3, 1, 0, 0, 0, 0, 0, z0), (.iconst (5), 1, 5, 0, 0, 0, 0, z0), (.if_icmp .le (5), 3, 20, 0, 0, 0, 0, z0)]
def qM_opened_18 : List zIns := [(.iconst (-1), 1, 1, 0, 1, 0, 0, z0), (.ireturn, 1, 0, 0, 0, 0, 0, z0)]
def qM_opened_20 : List zIns := [(.bipush (12), 2, 12, 0, 0, 0, 0, z0), (.iload_n 1, 1, 0, 0, 0, 0, 0, z0), (.imul, 1, 0, 0, 0, 0, 0, z0), (.iload_n 2, 1, 0, 0, 0, 0, 0, z0), (.iadd, 1, 0, 0, 0, 0, 0, z0), (.istore 4, 2, 0, 0, 0, 0, 0, z0), (.iload_n 3, 1, 0, 0, 0, 0, 0, z0), (.ifCond .ne (11), 3, 40, 0, 0, 0, 0, z0), (.aload_n 0, 1, 0, 0, 0, 0, 0, z0), (.getfield 90, 3, 9, 35, 0, 0, 0, z0), (.iload 4, 2, 0, 0, 0, 0, 0, z0), (.iaload, 1, 0, 0, 0, 0, 0, z0), (.ireturn, 1, 0, 0, 0, 0, 0, z0)]
def qM_opened_40 : List zIns := [(.aload_n 0, 1, 0, 0, 0, 0, 0, z0), (.getfield 90, 3, 9, 35, 0, 0, 0, z0), (.iload 4, 2, 0, 0, 0, 0, 0, z0), (.iaload, 1, 0, 0, 0, 0, 0, z0), (.ifCond .ne (5), 3, 52, 0, 0, 0, 0, z0), (.iconst (-1), 1, 1, 0, 1, 0, 0, z0), (.ireturn, 1, 0, 0, 0, 0, 0, z0)]
def qM_opened_52 : List zIns := [(.iload_n 3, 1, 0, 0, 0, 0, 0, z0), (.iconst (1), 1, 1, 0, 0, 0, 0, z0), (.if_icmp .ne (13), 3, 67, 0, 0, 0, 0, z0), (.aload_n 0, 1, 0, 0, 0, 0, 0, z0), (.getfield 93, 3, 9, 36, 0, 0, 0, z0), (.iload 4, 2, 0, 0, 0, 0, 0, z0), (.iaload, 1, 0, 0, 0, 0, 0, z0), (.goto (59), 3, 123, 0, 0, 0, 0, z0)]
def qM_opened_67 : List zIns := [(.iload_n 3, 1, 0, 0, 0, 0, 0, z0), (.iconst (2), 1, 2, 0, 0, 0, 0, z0), (.if_icmp .ne (13), 3, 82, 0, 0, 0, 0, z0), (.aload_n 0, 1, 0, 0, 0, 0, 0, z0), (.getfield 96, 3, 9, 37, 0, 0, 0, z0), (.iload 4, 2, 0, 0, 0, 0, 0, z0), (.iaload, 1, 0, 0, 0, 0, 0, z0), (.goto (44), 3, 123, 0, 0, 0, 0, z0)]
def qM_opened_82 : List zIns := [(.iload_n 3, 1, 0, 0, 0, 0, 0, z0), (.iconst (3), 1, 3, 0, 0, 0, 0, z0), (.if_icmp .ne (13), 3, 97, 0, 0, 0, 0, z0), (.aload_n 0, 1, 0, 0, 0, 0, 0, z0), (.getfield 102, 3, 9, 39, 0, 0, 0, z0), (.iload 4, 2, 0, 0, 0, 0, 0, z0), (.iaload, 1, 0, 0, 0, 0, 0, z0), (.goto (29), 3, 123, 0, 0, 0, 0, z0)]
def qM_opened_97 : List zIns := [(.iload_n 3, 1, 0, 0, 0, 0, 0, z0), (.iconst (4), 1, 4, 0, 0, 0, 0, z0), (.if_icmp .ne (15), 3, 114, 0, 0, 0, 0, z0), (.aload_n 0, 1, 0, 0, 0, 0, 0, z0), (.getfield 105, 3, 9, 40, 0, 0, 0, z0), (.iload 4, 2, 0, 0, 0, 0, 0, z0), (.iaload, 1, 0, 0, 0, 0, 0, z0), (.iconst (1), 1, 1, 0, 0, 0, 0, z0), (.isub, 1, 0, 0, 0, 0, 0, z0), (.goto (12), 3, 123, 0, 0, 0, 0, z0)]
def qM_opened_114 : List zIns := [(.aload_n 0, 1, 0, 0, 0, 0, 0, z0), (.getfield 111, 3, 9, 42, 0, 0, 0, z0), (.iload 4, 2, 0, 0, 0, 0, 0, z0), (.iaload, 1, 0, 0, 0, 0, 0, z0), (.iconst (1), 1, 1, 0, 0, 0, 0, z0), (.isub, 1, 0, 0, 0, 0, 0, z0)]
def qM_opened_123 : List zIns := [(.ireturn, 1, 0, 0, 0, 0, 0, z0)]
def cdM_opened : zCd := fun a => match a with
  | 0 => some qM_opened_0
  | 18 => some qM_opened_18
  | 20 => some qM_opened_20
  | 40 => some qM_opened_40
  | 52 => some qM_opened_52
  | 67 => some qM_opened_67
  | 82 => some qM_opened_82
  | 97 => some qM_opened_97
  | 114 => some qM_opened_114
  | 123 => some qM_opened_123
  | _ => none
set_option maxRecDepth 100000 in
theorem bM_opened_0 : zcode (mM_opened) 0 qM_opened_0 := zcode_of (by decide +kernel) (zoks_cons rfl (zoks_cons rfl (zoks_cons rfl (zoks_cons (And.intro rfl kV54) (zoks_cons (And.intro rfl (by decide)) (zoks_cons rfl (zoks_cons (And.intro rfl (by decide)) (zoks_cons rfl (zoks_cons (And.intro rfl (by decide)) (zoks_cons (And.intro rfl (by decide)) trivial))))))))))
set_option maxRecDepth 100000 in
theorem bM_opened_18 : zcode (mM_opened) 18 qM_opened_18 := zcode_of (by decide +kernel) (zoks_cons (And.intro rfl (by decide)) (zoks_cons (And.intro rfl (Or.inl ⟨rfl, rfl⟩)) trivial))
set_option maxRecDepth 100000 in
theorem bM_opened_20 : zcode (mM_opened) 20 qM_opened_20 := zcode_of (by decide +kernel) (zoks_cons (And.intro rfl (by decide)) (zoks_cons rfl (zoks_cons rfl (zoks_cons rfl (zoks_cons rfl (zoks_cons rfl (zoks_cons rfl (zoks_cons (And.intro rfl (by decide)) (zoks_cons rfl (zoks_cons (And.intro rfl kF53) (zoks_cons rfl (zoks_cons (And.intro rfl rfl) (zoks_cons (And.intro rfl (Or.inl ⟨rfl, rfl⟩)) trivial)))))))))))))
set_option maxRecDepth 100000 in
theorem bM_opened_40 : zcode (mM_opened) 40 qM_opened_40 := zcode_of (by decide +kernel) (zoks_cons rfl (zoks_cons (And.intro rfl kF53) (zoks_cons rfl (zoks_cons (And.intro rfl rfl) (zoks_cons (And.intro rfl (by decide)) (zoks_cons (And.intro rfl (by decide)) (zoks_cons (And.intro rfl (Or.inl ⟨rfl, rfl⟩)) trivial)))))))
set_option maxRecDepth 100000 in
theorem bM_opened_52 : zcode (mM_opened) 52 qM_opened_52 := zcode_of (by decide +kernel) (zoks_cons rfl (zoks_cons (And.intro rfl (by decide)) (zoks_cons (And.intro rfl (by decide)) (zoks_cons rfl (zoks_cons (And.intro rfl kF63) (zoks_cons rfl (zoks_cons (And.intro rfl rfl) (zoks_cons (And.intro rfl (by decide)) trivial))))))))
set_option maxRecDepth 100000 in
theorem bM_opened_67 : zcode (mM_opened) 67 qM_opened_67 := zcode_of (by decide +kernel) (zoks_cons rfl (zoks_cons (And.intro rfl (by decide)) (zoks_cons (And.intro rfl (by decide)) (zoks_cons rfl (zoks_cons (And.intro rfl kF69) (zoks_cons rfl (zoks_cons (And.intro rfl rfl) (zoks_cons (And.intro rfl (by decide)) trivial))))))))
set_option maxRecDepth 100000 in
theorem bM_opened_82 : zcode (mM_opened) 82 qM_opened_82 := zcode_of (by decide +kernel) (zoks_cons rfl (zoks_cons (And.intro rfl (by decide)) (zoks_cons (And.intro rfl (by decide)) (zoks_cons rfl (zoks_cons (And.intro rfl kF66) (zoks_cons rfl (zoks_cons (And.intro rfl rfl) (zoks_cons (And.intro rfl (by decide)) trivial))))))))
set_option maxRecDepth 100000 in
theorem bM_opened_97 : zcode (mM_opened) 97 qM_opened_97 := zcode_of (by decide +kernel) (zoks_cons rfl (zoks_cons (And.intro rfl (by decide)) (zoks_cons (And.intro rfl (by decide)) (zoks_cons rfl (zoks_cons (And.intro rfl kF67) (zoks_cons rfl (zoks_cons (And.intro rfl rfl) (zoks_cons (And.intro rfl (by decide)) (zoks_cons rfl (zoks_cons (And.intro rfl (by decide)) trivial))))))))))
set_option maxRecDepth 100000 in
theorem bM_opened_114 : zcode (mM_opened) 114 qM_opened_114 := zcode_of (by decide +kernel) (zoks_cons rfl (zoks_cons (And.intro rfl kF68) (zoks_cons rfl (zoks_cons (And.intro rfl rfl) (zoks_cons (And.intro rfl (by decide)) (zoks_cons rfl trivial))))))
set_option maxRecDepth 100000 in
theorem bM_opened_123 : zcode (mM_opened) 123 qM_opened_123 := zcode_of (by decide +kernel) (zoks_cons (And.intro rfl (Or.inl ⟨rfl, rfl⟩)) trivial)
theorem kM_opened : zcd (mM_opened) cdM_opened := by
  intro a is h
  unfold cdM_opened at h
  split at h
  · cases h; exact bM_opened_0
  · cases h; exact bM_opened_18
  · cases h; exact bM_opened_20
  · cases h; exact bM_opened_40
  · cases h; exact bM_opened_52
  · cases h; exact bM_opened_67
  · cases h; exact bM_opened_82
  · cases h; exact bM_opened_97
  · cases h; exact bM_opened_114
  · cases h; exact bM_opened_123
  · cases h
def qM_joined_0 : List zIns := [(.aload_n 0, 1, 0, 0, 0, 0, 0, z0), (.iload_n 1, 1, 0, 0, 0, 0, 0, z0), (.invokevirtual 128, 3, 1, 9, 0, 0, 0, mM_isFile), (.ifCond .eq (16), 3, 21, 0, 0, 0, 0, z0), (.aload_n 0, 1, 0, 0, 0, 0, 0, z0), (.iload_n 2, 1, 0, 0, 0, 0, 0, z0), (.invokevirtual 128, 3, 1, 9, 0, 0, 0, mM_isFile), (.ifCond .eq (8), 3, 21, 0, 0, 0, 0, z0), (.iload_n 1, 1, 0, 0, 0, 0, 0, z0), (.iload_n 2, 1, 0, 0, 0, 0, 0, z0), (.if_icmp .ne (7), 3, 25, 0, 0, 0, 0, z0)]
def qM_joined_21 : List zIns := [(.iconst (-1), 1, 1, 0, 1, 0, 0, z0), (.goto (14), 3, 36, 0, 0, 0, 0, z0)]
def qM_joined_25 : List zIns := [(.aload_n 0, 1, 0, 0, 0, 0, 0, z0), (.getfield 81, 3, 9, 32, 0, 0, 0, z0), (.bipush (12), 2, 12, 0, 0, 0, 0, z0), (.iload_n 1, 1, 0, 0, 0, 0, 0, z0), (.imul, 1, 0, 0, 0, 0, 0, z0), (.iload_n 2, 1, 0, 0, 0, 0, 0, z0), (.iadd, 1, 0, 0, 0, 0, 0, z0), (.iaload, 1, 0, 0, 0, 0, 0, z0)]
def qM_joined_36 : List zIns := [(.ireturn, 1, 0, 0, 0, 0, 0, z0)]
def cdM_joined : zCd := fun a => match a with
  | 0 => some qM_joined_0
  | 21 => some qM_joined_21
  | 25 => some qM_joined_25
  | 36 => some qM_joined_36
  | _ => none
set_option maxRecDepth 100000 in
theorem bM_joined_0 : zcode (mM_joined) 0 qM_joined_0 := zcode_of (by decide +kernel) (zoks_cons rfl (zoks_cons rfl (zoks_cons (And.intro rfl kV44) (zoks_cons (And.intro rfl (by decide)) (zoks_cons rfl (zoks_cons rfl (zoks_cons (And.intro rfl kV44) (zoks_cons (And.intro rfl (by decide)) (zoks_cons rfl (zoks_cons rfl (zoks_cons (And.intro rfl (by decide)) trivial)))))))))))
set_option maxRecDepth 100000 in
theorem bM_joined_21 : zcode (mM_joined) 21 qM_joined_21 := zcode_of (by decide +kernel) (zoks_cons (And.intro rfl (by decide)) (zoks_cons (And.intro rfl (by decide)) trivial))
set_option maxRecDepth 100000 in
theorem bM_joined_25 : zcode (mM_joined) 25 qM_joined_25 := zcode_of (by decide +kernel) (zoks_cons rfl (zoks_cons (And.intro rfl kF64) (zoks_cons (And.intro rfl (by decide)) (zoks_cons rfl (zoks_cons rfl (zoks_cons rfl (zoks_cons rfl (zoks_cons (And.intro rfl rfl) trivial))))))))
set_option maxRecDepth 100000 in
theorem bM_joined_36 : zcode (mM_joined) 36 qM_joined_36 := zcode_of (by decide +kernel) (zoks_cons (And.intro rfl (Or.inl ⟨rfl, rfl⟩)) trivial)
theorem kM_joined : zcd (mM_joined) cdM_joined := by
  intro a is h
  unfold cdM_joined at h
  split at h
  · cases h; exact bM_joined_0
  · cases h; exact bM_joined_21
  · cases h; exact bM_joined_25
  · cases h; exact bM_joined_36
  · cases h
