/-! A run of instructions at once: what is to be shown of them (zs, zblk), and that it suffices. -/
abbrev zIns : Type := Instr × Nat × Nat × Nat × Nat × Nat × Nat × zM
abbrev zKt : Type := Nat → Nat → List (Option Value) → List Value → zH → Prop
def zcv (kd a : Nat) : Int32 := match kd with
  | 0 => nI a
  | _ => - nI a
def zgI (L : List (Option Value)) (i : Nat) (k : Int32 → Prop) : Prop := match L[i]? with
  | some (some (.int x)) => k x
  | _ => False
def zgA (L : List (Option Value)) (i : Nat) (k : Value → Prop) : Prop := match L[i]? with
  | some (some (.ref x)) => k (.ref x)
  | some (some .null) => k .null
  | _ => False
def zp1 (st : List Value) (k : Int32 → List Value → Prop) : Prop := match st with
  | .int x :: r => k x r
  | _ => False
def zpA (st : List Value) (k : Value → List Value → Prop) : Prop := match st with
  | .ref x :: r => k (.ref x) r
  | .null :: r => k .null r
  | _ => False
def zpV (st : List Value) (k : Value → List Value → Prop) : Prop := match st with
  | .int x :: r => k (.int x) r
  | .ref x :: r => k (.ref x) r
  | .null :: r => k .null r
  | _ => False
def zp2 (st : List Value) (k : Int32 → Int32 → List Value → Prop) : Prop := match st with
  | .int y :: .int x :: r => k x y r
  | _ => False
def zpR (st : List Value) (k : Nat → List Value → Prop) : Prop := match st with
  | .ref a :: r => k a r
  | _ => False
def zpIR (st : List Value) (k : Int32 → Nat → List Value → Prop) : Prop := match st with
  | .int i :: .ref a :: r => k i a r
  | _ => False
def zpIIR (st : List Value) (k : Int32 → Int32 → Nat → List Value → Prop) : Prop := match st with
  | .int x :: .int i :: .ref a :: r => k x i a r
  | _ => False
def zpRIR (st : List Value) (k : Nat → Int32 → Nat → List Value → Prop) : Prop := match st with
  | .ref x :: .int i :: .ref a :: r => k x i a r
  | _ => False
def zpVR (st : List Value) (k : Value → Nat → List Value → Prop) : Prop := match st with
  | .int x :: .ref a :: r => k (.int x) a r
  | .ref x :: .ref a :: r => k (.ref x) a r
  | .null :: .ref a :: r => k .null a r
  | _ => False
def zpCp (st : List Value) (k : Int32 → Int32 → Nat → Int32 → Nat → List Value → Prop) : Prop := match st with
  | .int n :: .int dp :: .ref a :: .int sp :: .ref a0 :: r => k n dp a sp a0 r
  | _ => False
theorem zgI_e {L : List (Option Value)} {i : Nat} {k : Int32 → Prop} (h : zgI L i k) : ∃ x, L[i]? = some (some (.int x)) ∧ k x := by
  unfold zgI at h
  split at h
  · exact ⟨_, by assumption, h⟩
  · exact h.elim
theorem zgA_e {L : List (Option Value)} {i : Nat} {k : Value → Prop} (h : zgA L i k) : (∃ x, L[i]? = some (some (.ref x)) ∧ k (.ref x)) ∨ (L[i]? = some (some .null) ∧ k .null) := by
  unfold zgA at h
  split at h
  · exact Or.inl ⟨_, by assumption, h⟩
  · exact Or.inr ⟨by assumption, h⟩
  · exact h.elim
theorem zp1_e {st : List Value} {k : Int32 → List Value → Prop} (h : zp1 st k) : ∃ x r, st = .int x :: r ∧ k x r := by
  unfold zp1 at h
  split at h
  · exact ⟨_, _, rfl, h⟩
  · exact h.elim
theorem zpA_e {st : List Value} {k : Value → List Value → Prop} (h : zpA st k) : (∃ x r, st = .ref x :: r ∧ k (.ref x) r) ∨ (∃ r, st = .null :: r ∧ k .null r) := by
  unfold zpA at h
  split at h
  · exact Or.inl ⟨_, _, rfl, h⟩
  · exact Or.inr ⟨_, rfl, h⟩
  · exact h.elim
theorem zpV_e {st : List Value} {k : Value → List Value → Prop} (h : zpV st k) : ∃ v r, st = v :: r ∧ v.category = 1 ∧ k v r := by
  unfold zpV at h
  split at h
  · exact ⟨_, _, rfl, rfl, h⟩
  · exact ⟨_, _, rfl, rfl, h⟩
  · exact ⟨_, _, rfl, rfl, h⟩
  · exact h.elim
theorem zp2_e {st : List Value} {k : Int32 → Int32 → List Value → Prop} (h : zp2 st k) : ∃ x y r, st = .int y :: .int x :: r ∧ k x y r := by
  unfold zp2 at h
  split at h
  · exact ⟨_, _, _, rfl, h⟩
  · exact h.elim
theorem zpR_e {st : List Value} {k : Nat → List Value → Prop} (h : zpR st k) : ∃ a r, st = .ref a :: r ∧ k a r := by
  unfold zpR at h
  split at h
  · exact ⟨_, _, rfl, h⟩
  · exact h.elim
theorem zpIR_e {st : List Value} {k : Int32 → Nat → List Value → Prop} (h : zpIR st k) : ∃ i a r, st = .int i :: .ref a :: r ∧ k i a r := by
  unfold zpIR at h
  split at h
  · exact ⟨_, _, _, rfl, h⟩
  · exact h.elim
theorem zpIIR_e {st : List Value} {k : Int32 → Int32 → Nat → List Value → Prop} (h : zpIIR st k) : ∃ x i a r, st = .int x :: .int i :: .ref a :: r ∧ k x i a r := by
  unfold zpIIR at h
  split at h
  · exact ⟨_, _, _, _, rfl, h⟩
  · exact h.elim
theorem zpRIR_e {st : List Value} {k : Nat → Int32 → Nat → List Value → Prop} (h : zpRIR st k) : ∃ x i a r, st = .ref x :: .int i :: .ref a :: r ∧ k x i a r := by
  unfold zpRIR at h
  split at h
  · exact ⟨_, _, _, _, rfl, h⟩
  · exact h.elim
theorem zpVR_e {st : List Value} {k : Value → Nat → List Value → Prop} (h : zpVR st k) : ∃ v a r, st = v :: .ref a :: r ∧ k v a r := by
  unfold zpVR at h
  split at h
  · exact ⟨_, _, _, rfl, h⟩
  · exact ⟨_, _, _, rfl, h⟩
  · exact ⟨_, _, _, rfl, h⟩
  · exact h.elim
theorem zpCp_e {st : List Value} {k : Int32 → Int32 → Nat → Int32 → Nat → List Value → Prop} (h : zpCp st k) : ∃ n dp a sp a0 r, st = .int n :: .int dp :: .ref a :: .int sp :: .ref a0 :: r ∧ k n dp a sp a0 r := by
  unfold zpCp at h
  split at h
  · exact ⟨_, _, _, _, _, _, rfl, h⟩
  · exact h.elim
abbrev zcat (st : List Value) : Nat := (st.map fun v => v.category).sum
/-- what a method may return: an int, a boolean, a char -/
def zrn (kd : Nat) (x : Int32) : Prop := match kd with
  | 0 => True
  | 1 => x = nI 0 ∨ x = nI 1
  | _ => narrow .char (.int x) = .int x
theorem zrn_b {x : Int32} (h : zrn 1 x) : narrow .boolean (.int x) = .int x := by
  rcases h with rfl | rfl <;> rfl
def zok (me : zM) (pc : Nat) (i : zIns) : Prop := match i with
  | (.iconst n, len, a, _, kd, _, _, _) => len = 1 ∧ Int32.ofInt n = zcv kd a
  | (.bipush n, len, a, _, kd, _, _, _) => len = 2 ∧ (Int8.ofInt n).toInt32 = zcv kd a
  | (.sipush n, len, a, _, kd, _, _, _) => len = 3 ∧ (Int16.ofInt n).toInt32 = zcv kd a
  | (.aconst_null, len, _, _, _, _, _, _) => len = 1
  | (.iload_n i, len, _, _, _, _, _, _) => len = 1
  | (.iload i, len, _, _, _, _, _, _) => len = 2
  | (.aload_n i, len, _, _, _, _, _, _) => len = 1
  | (.aload i, len, _, _, _, _, _, _) => len = 2
  | (.istore_n i, len, _, _, _, _, _, _) => len = 1
  | (.istore i, len, _, _, _, _, _, _) => len = 2
  | (.astore_n i, len, _, _, _, _, _, _) => len = 1
  | (.astore i, len, _, _, _, _, _, _) => len = 2
  | (.iinc i n, len, a, _, kd, _, _, _) => len = 3 ∧ Int32.ofInt n = zcv kd a
  | (.iadd, len, _, _, _, _, _, _) => len = 1
  | (.isub, len, _, _, _, _, _, _) => len = 1
  | (.imul, len, _, _, _, _, _, _) => len = 1
  | (.iand, len, _, _, _, _, _, _) => len = 1
  | (.ior, len, _, _, _, _, _, _) => len = 1
  | (.ishl, len, _, _, _, _, _, _) => len = 1
  | (.iushr, len, _, _, _, _, _, _) => len = 1
  | (.irem, len, _, _, _, _, _, _) => len = 1
  | (.i2c, len, _, _, _, _, _, _) => len = 1
  | (.dup, len, _, _, _, _, _, _) => len = 1
  | (.pop, len, _, _, _, _, _, _) => len = 1
  | (.ifCond .eq off, len, a, _, _, _, _, _) => len = 3 ∧ (pc : Int) + off = (a : Int)
  | (.if_icmp .eq off, len, a, _, _, _, _, _) => len = 3 ∧ (pc : Int) + off = (a : Int)
  | (.ifCond .ne off, len, a, _, _, _, _, _) => len = 3 ∧ (pc : Int) + off = (a : Int)
  | (.if_icmp .ne off, len, a, _, _, _, _, _) => len = 3 ∧ (pc : Int) + off = (a : Int)
  | (.ifCond .lt off, len, a, _, _, _, _, _) => len = 3 ∧ (pc : Int) + off = (a : Int)
  | (.if_icmp .lt off, len, a, _, _, _, _, _) => len = 3 ∧ (pc : Int) + off = (a : Int)
  | (.ifCond .ge off, len, a, _, _, _, _, _) => len = 3 ∧ (pc : Int) + off = (a : Int)
  | (.if_icmp .ge off, len, a, _, _, _, _, _) => len = 3 ∧ (pc : Int) + off = (a : Int)
  | (.ifCond .gt off, len, a, _, _, _, _, _) => len = 3 ∧ (pc : Int) + off = (a : Int)
  | (.if_icmp .gt off, len, a, _, _, _, _, _) => len = 3 ∧ (pc : Int) + off = (a : Int)
  | (.ifCond .le off, len, a, _, _, _, _, _) => len = 3 ∧ (pc : Int) + off = (a : Int)
  | (.if_icmp .le off, len, a, _, _, _, _, _) => len = 3 ∧ (pc : Int) + off = (a : Int)
  | (.goto off, len, a, _, _, _, _, _) => len = 3 ∧ (pc : Int) + off = (a : Int)
  | (.ifnonnull off, len, a, _, _, _, _, _) => len = 3 ∧ (pc : Int) + off = (a : Int)
  | (.ifnull off, len, a, _, _, _, _, _) => len = 3 ∧ (pc : Int) + off = (a : Int)
  | (.return_, len, _, _, _, _, _, _) => len = 1 ∧ me.2.2.2.1 = none
  | (.ireturn, len, _, _, kd, _, _, _) => len = 1 ∧ ((kd = 0 ∧ me.2.2.2.1 = some .int) ∨ (kd = 1 ∧ me.2.2.2.1 = some .boolean) ∨ (kd = 2 ∧ me.2.2.2.1 = some .char))
  | (.areturn, len, _, _, _, _, _, _) => len = 1 ∧ ∃ C : String, me.2.2.2.1 = some (.object C)
  | (.getfield idx, len, a, b, _, _, _, _) => len = 3 ∧ zFl me.1.cls idx a b
  | (.putfield idx, len, a, b, _, _, _, _) => len = 3 ∧ me.2.2.2.2 = none ∧ zFp me.1 idx a b
  | (.iaload, len, a, _, _, _, _, _) => len = 1 ∧ zTy[a]? = some .int
  | (.caload, len, a, _, _, _, _, _) => len = 1 ∧ zTy[a]? = some .char
  | (.baload, len, a, _, _, _, _, _) => len = 1 ∧ zTy[a]? = some .boolean
  | (.aaload, len, a, _, _, _, _, _) => len = 1 ∧ ∃ C : String, zTy[a]? = some (.object C)
  | (.iastore, len, a, _, _, _, _, _) => len = 1 ∧ zTy[a]? = some .int
  | (.castore, len, a, _, _, _, _, _) => len = 1 ∧ zTy[a]? = some .char
  | (.bastore, len, a, _, _, _, _, _) => len = 1 ∧ zTy[a]? = some .boolean
  | (.aastore, len, a, b, _, _, _, _) => len = 1 ∧ ∃ r : vw_C, zTy[a]? = some (.object r.1) ∧ zCl[b]? = some r
  | (.arraylength, len, a, _, _, _, _, _) => len = 1 ∧ ∃ ty : FieldType, zTy[a]? = some ty
  | (.new idx, len, a, b, _, _, _, _) => len = 3 ∧ zNl me.1.cls idx a b
  | (.newarray .int, len, a, _, _, _, _, _) => len = 2 ∧ zTy[a]? = some .int ∧ Cond.arrayClass .int ∈ zT
  | (.newarray .char, len, a, _, _, _, _, _) => len = 2 ∧ zTy[a]? = some .char ∧ Cond.arrayClass .char ∈ zT
  | (.newarray .boolean, len, a, _, _, _, _, _) => len = 2 ∧ zTy[a]? = some .boolean ∧ Cond.arrayClass .boolean ∈ zT
  | (.anewarray idx, len, a, _, _, _, _, _) => len = 3 ∧ zAl me.1.cls idx a
  | (.invokestatic idx, len, a, _, kd, _, _, y) => len = 3 ∧ match kd with
    | 0 => zSl me.1.cls idx y a
    | 1 => Cond.methodLink me.1.cls idx Lib.Math.max.name ∈ zT
    | 2 => Cond.methodLink me.1.cls idx Lib.Math.min.name ∈ zT
    | _ => Cond.methodLink me.1.cls idx arraycopyName ∈ zT ∧ zTy[a]? = some .int
  | (.invokespecial idx, len, a, _, kd, _, _, y) => len = 3 ∧ match kd with
    | 0 => zIl me.1.cls idx y a
    | _ => Cond.methodLink me.1.cls idx objectInit ∈ zT
  | (.invokevirtual idx, len, a, b, _, _, _, y) => len = 3 ∧ zVl me.1.cls idx y a b
  | _ => False
def zs (me : zM) (d B : Nat) (Q : Option Value → zH → Prop) (J : Nat → zKt) (i : zIns) (rc rs : Nat) (L : List (Option Value)) (st : List Value) (h : zH) (K : zKt) : Prop := match i with
  | (.iconst n, _, a, _, kd, _, _, _) => K rc rs L (.int (zcv kd a) :: st) h
  | (.bipush n, _, a, _, kd, _, _, _) => K rc rs L (.int (zcv kd a) :: st) h
  | (.sipush n, _, a, _, kd, _, _, _) => K rc rs L (.int (zcv kd a) :: st) h
  | (.aconst_null, _, _, _, _, _, _, _) => K rc rs L (.null :: st) h
  | (.iload_n i, _, _, _, _, _, _, _) => zgI L i.val fun x => K rc rs L (.int x :: st) h
  | (.iload i, _, _, _, _, _, _, _) => zgI L i fun x => K rc rs L (.int x :: st) h
  | (.aload_n i, _, _, _, _, _, _, _) => zgA L i.val fun x => K rc rs L (x :: st) h
  | (.aload i, _, _, _, _, _, _, _) => zgA L i fun x => K rc rs L (x :: st) h
  | (.istore_n i, _, _, _, _, _, _, _) => zp1 st fun x r => i.val < L.length ∧ K rc rs (L.set i.val (some (.int x))) r h
  | (.istore i, _, _, _, _, _, _, _) => zp1 st fun x r => i < L.length ∧ K rc rs (L.set i (some (.int x))) r h
  | (.astore_n i, _, _, _, _, _, _, _) => zpA st fun x r => i.val < L.length ∧ K rc rs (L.set i.val (some x)) r h
  | (.astore i, _, _, _, _, _, _, _) => zpA st fun x r => i < L.length ∧ K rc rs (L.set i (some x)) r h
  | (.iinc i n, _, a, _, kd, _, _, _) => zgI L i fun x => K rc rs (L.set i (some (.int (x + zcv kd a)))) st h
  | (.iadd, _, _, _, _, _, _, y) => zp2 st fun x y r => K rc rs L (.int (x + y) :: r) h
  | (.isub, _, _, _, _, _, _, y) => zp2 st fun x y r => K rc rs L (.int (x - y) :: r) h
  | (.imul, _, _, _, _, _, _, y) => zp2 st fun x y r => K rc rs L (.int (x * y) :: r) h
  | (.iand, _, _, _, _, _, _, y) => zp2 st fun x y r => K rc rs L (.int (x &&& y) :: r) h
  | (.ior, _, _, _, _, _, _, y) => zp2 st fun x y r => K rc rs L (.int (x ||| y) :: r) h
  | (.ishl, _, _, _, _, _, _, y) => zp2 st fun x y r => K rc rs L (.int (x <<< (y &&& 31)) :: r) h
  | (.iushr, _, _, _, _, _, _, y) => zp2 st fun x y r => K rc rs L (.int ((x.toUInt32 >>> (y.toUInt32 &&& Int32.toUInt32 31)).toInt32) :: r) h
  | (.irem, _, _, _, _, _, _, y) => zp2 st fun x y r => ¬ y = 0 ∧ K rc rs L (.int (x - x / y * y) :: r) h
  | (.i2c, _, _, _, _, _, _, _) => zp1 st fun x r => K rc rs L (.int (x.toUInt32 % 65536).toInt32 :: r) h
  | (.dup, _, _, _, _, _, _, _) => zpV st fun v r => K rc rs L (v :: v :: r) h
  | (.pop, _, _, _, _, _, _, _) => zpV st fun v r => K rc rs L r h
  | (.ifCond .eq off, _, a, _, _, _, _, _) => zp1 st fun x r => ((x = 0) → J a rc rs L r h) ∧ (¬ x = 0 → K rc rs L r h)
  | (.if_icmp .eq off, _, a, _, _, _, _, y) => zp2 st fun x y r => ((x = y) → J a rc rs L r h) ∧ (¬ x = y → K rc rs L r h)
  | (.ifCond .ne off, _, a, _, _, _, _, _) => zp1 st fun x r => ((¬ x = 0) → J a rc rs L r h) ∧ (x = 0 → K rc rs L r h)
  | (.if_icmp .ne off, _, a, _, _, _, _, y) => zp2 st fun x y r => ((¬ x = y) → J a rc rs L r h) ∧ (x = y → K rc rs L r h)
  | (.ifCond .lt off, _, a, _, _, _, _, _) => zp1 st fun x r => ((x < 0) → J a rc rs L r h) ∧ (¬ x < 0 → K rc rs L r h)
  | (.if_icmp .lt off, _, a, _, _, _, _, y) => zp2 st fun x y r => ((x < y) → J a rc rs L r h) ∧ (¬ x < y → K rc rs L r h)
  | (.ifCond .ge off, _, a, _, _, _, _, _) => zp1 st fun x r => ((0 ≤ x) → J a rc rs L r h) ∧ (¬ 0 ≤ x → K rc rs L r h)
  | (.if_icmp .ge off, _, a, _, _, _, _, y) => zp2 st fun x y r => ((y ≤ x) → J a rc rs L r h) ∧ (¬ y ≤ x → K rc rs L r h)
  | (.ifCond .gt off, _, a, _, _, _, _, _) => zp1 st fun x r => ((0 < x) → J a rc rs L r h) ∧ (¬ 0 < x → K rc rs L r h)
  | (.if_icmp .gt off, _, a, _, _, _, _, y) => zp2 st fun x y r => ((y < x) → J a rc rs L r h) ∧ (¬ y < x → K rc rs L r h)
  | (.ifCond .le off, _, a, _, _, _, _, _) => zp1 st fun x r => ((x ≤ 0) → J a rc rs L r h) ∧ (¬ x ≤ 0 → K rc rs L r h)
  | (.if_icmp .le off, _, a, _, _, _, _, y) => zp2 st fun x y r => ((x ≤ y) → J a rc rs L r h) ∧ (¬ x ≤ y → K rc rs L r h)
  | (.goto off, _, a, _, _, _, _, _) => J a rc rs L st h
  | (.ifnonnull off, _, a, _, _, _, _, _) => zpA st fun v r => (v ≠ .null → J a rc rs L r h) ∧ (v = .null → K rc rs L r h)
  | (.ifnull off, _, a, _, _, _, _, _) => zpA st fun v r => (v = .null → J a rc rs L r h) ∧ (v ≠ .null → K rc rs L r h)
  | (.return_, _, _, _, _, _, _, _) => st = [] ∧ Q none h
  | (.ireturn, _, _, _, kd, _, _, _) => zp1 st fun x r => r = [] ∧ zrn kd x ∧ Q (some (.int x)) h
  | (.areturn, _, _, _, _, _, _, _) => zpA st fun v r => r = [] ∧ Q (some v) h
  | (.getfield idx, _, a, b, _, _, _, _) => zpR st fun x r => ∃ (fs : List Value) (v : Value), h.2 x = some (zO a fs) ∧ fs[b]? = some v ∧ K rc rs L (v :: r) h
  | (.putfield idx, _, a, b, _, _, _, _) => zpVR st fun v x r => ∃ fs : List Value, h.2 x = some (zO a fs) ∧ b < fs.length ∧ zfit (zft a b) v ∧ K rc rs L r (zset h x (zO a (fs.set b v)))
  | (.iaload, _, a, _, kd, _, _, _) => zpIR st fun i x r => match kd with
    | 0 => ∃ (n : Nat) (f : Nat → Int32), h.2 x = some (zI a n f) ∧ vp_in i n ∧ K rc rs L (.int (f i.toNatClampNeg) :: r) h
    | _ => ∃ (n : Nat) (f : Nat → Int32), me.2.2.2.2 = some (x, n, f) ∧ vp_in i n ∧ K rc rs L (.int (f i.toNatClampNeg) :: r) h
  | (.caload, _, a, _, _, _, _, _) => zpIR st fun i x r => ∃ (n : Nat) (f : Nat → Int32), h.2 x = some (zI a n f) ∧ vp_in i n ∧ K rc rs L (.int (f i.toNatClampNeg) :: r) h
  | (.baload, _, a, _, _, _, _, _) => zpIR st fun i x r => ∃ (n : Nat) (f : Nat → Int32), h.2 x = some (zI a n f) ∧ vp_in i n ∧ K rc rs L (.int (f i.toNatClampNeg) :: r) h
  | (.aaload, _, a, _, _, _, _, _) => zpIR st fun i x r => ∃ (n : Nat) (f : Nat → Option Nat), h.2 x = some (zQ a n f) ∧ vp_in i n ∧ K rc rs L (va_rf (f i.toNatClampNeg) :: r) h
  | (.iastore, _, a, _, _, _, _, _) => zpIIR st fun v i x r => ∃ (n : Nat) (f : Nat → Int32), h.2 x = some (zI a n f) ∧ vp_in i n ∧ K rc rs L r (zset h x (zI a n (upd f i.toNatClampNeg v)))
  | (.castore, _, a, _, _, _, _, _) => zpIIR st fun v i x r => ∃ (n : Nat) (f : Nat → Int32), h.2 x = some (zI a n f) ∧ vp_in i n ∧ K rc rs L r (zset h x (zI a n (upd f i.toNatClampNeg (vp_nar .char v))))
  | (.bastore, _, a, _, _, _, _, _) => zpIIR st fun v i x r => ∃ (n : Nat) (f : Nat → Int32), h.2 x = some (zI a n f) ∧ vp_in i n ∧ K rc rs L r (zset h x (zI a n (upd f i.toNatClampNeg (vp_nar .boolean v))))
  | (.aastore, _, a, b, _, _, _, _) => zpRIR st fun v i x r => ∃ (n : Nat) (f : Nat → Option Nat) (vs : List Value), h.2 x = some (zQ a n f) ∧ h.2 v = some (zO b vs) ∧ vp_in i n ∧ K rc rs L r (zset h x (zQ a n (va_up f i.toNatClampNeg (some v))))
  | (.arraylength, _, a, _, kd, _, _, _) => zpR st fun x r => match kd with
    | 0 => ∃ (n : Nat) (f : Nat → Int32), h.2 x = some (zI a n f) ∧ K rc rs L (.int (nI n) :: r) h
    | 1 => ∃ (n : Nat) (f : Nat → Option Nat), h.2 x = some (zQ a n f) ∧ K rc rs L (.int (nI n) :: r) h
    | _ => ∃ (n : Nat) (f : Nat → Int32), me.2.2.2.2 = some (x, n, f) ∧ K rc rs L (.int (nI n) :: r) h
  | (.new idx, _, a, b, _, _, _, _) => 1 ≤ rc ∧ b ≤ rs ∧ K (rc - 1) (rs - b) L (.ref h.1 :: st) (znew h (zO a (zdf a b)))
  | (.newarray .int, _, a, _, _, _, _, _) => zp1 st fun n r => ¬ n < 0 ∧ n.toNatClampNeg ≤ 65536 ∧ 1 ≤ rc ∧ n.toNatClampNeg ≤ rs ∧ K (rc - 1) (rs - n.toNatClampNeg) L (.ref h.1 :: r) (znew h (zI a n.toNatClampNeg (fun _ => 0)))
  | (.newarray .char, _, a, _, _, _, _, _) => zp1 st fun n r => ¬ n < 0 ∧ n.toNatClampNeg ≤ 65536 ∧ 1 ≤ rc ∧ n.toNatClampNeg ≤ rs ∧ K (rc - 1) (rs - n.toNatClampNeg) L (.ref h.1 :: r) (znew h (zI a n.toNatClampNeg (fun _ => 0)))
  | (.newarray .boolean, _, a, _, _, _, _, _) => zp1 st fun n r => ¬ n < 0 ∧ n.toNatClampNeg ≤ 65536 ∧ 1 ≤ rc ∧ n.toNatClampNeg ≤ rs ∧ K (rc - 1) (rs - n.toNatClampNeg) L (.ref h.1 :: r) (znew h (zI a n.toNatClampNeg (fun _ => 0)))
  | (.anewarray idx, _, a, _, _, _, _, _) => zp1 st fun n r => ¬ n < 0 ∧ n.toNatClampNeg ≤ 65536 ∧ 1 ≤ rc ∧ n.toNatClampNeg ≤ rs ∧ K (rc - 1) (rs - n.toNatClampNeg) L (.ref h.1 :: r) (znew h (zQ a n.toNatClampNeg (fun _ => none)))
  | (.invokestatic idx, _, a, _, kd, mc, ms, y) => match kd with
    | 0 => a ≤ st.length ∧ zcat (st.drop a) ≤ 8 ∧ 1 ≤ d ∧ mc ≤ rc ∧ ms ≤ rs ∧ zC y (d - 1) mc ms B (st.take a).reverse h (fun r h' => K (rc - mc) (rs - ms) L (r.toList ++ st.drop a) h')
    | 1 => zp2 st fun x y r => 1 ≤ d ∧ zcat r ≤ 8 ∧ K rc rs L (.int (if x < y then y else x) :: r) h
    | 2 => zp2 st fun x y r => 1 ≤ d ∧ zcat r ≤ 8 ∧ K rc rs L (.int (if y < x then y else x) :: r) h
    | _ => zpCp st fun k dp x sp x0 r => 1 ≤ d ∧ zcat r ≤ 4 ∧ ∃ (n0 n : Nat) (f g : Nat → Int32), h.2 x0 = some (zI a n0 f) ∧ h.2 x = some (zI a n g) ∧ ¬ sp < 0 ∧ ¬ dp < 0 ∧ ¬ k < 0 ∧ sp.toNatClampNeg + k.toNatClampNeg ≤ n0 ∧ dp.toNatClampNeg + k.toNatClampNeg ≤ n ∧ x0 ≠ x ∧ K rc rs L r (zset h x (zI a n (va_cpy f g sp.toNatClampNeg dp.toNatClampNeg k.toNatClampNeg)))
  | (.invokespecial idx, _, a, _, kd, mc, ms, y) => match kd with
    | 0 => a ≤ st.length ∧ zpR (st.drop a) fun x r => zcat r ≤ 8 ∧ 1 ≤ d ∧ mc ≤ rc ∧ ms ≤ rs ∧ zC y (d - 1) mc ms B (.ref x :: (st.take a).reverse) h (fun v h' => K (rc - mc) (rs - ms) L (v.toList ++ r) h')
    | _ => zpR st fun x r => zcat r ≤ 8 ∧ 1 ≤ d ∧ K rc rs L r h
  | (.invokevirtual idx, _, a, b, _, mc, ms, y) => a ≤ st.length ∧ zpR (st.drop a) fun x r => (∃ fs : List Value, h.2 x = some (zO b fs)) ∧ zcat r ≤ 8 ∧ 1 ≤ d ∧ mc ≤ rc ∧ ms ≤ rs ∧ zC y (d - 1) mc ms B (.ref x :: (st.take a).reverse) h (fun v h' => K (rc - mc) (rs - ms) L (v.toList ++ r) h')
  | _ => False
set_option maxRecDepth 4000 in
theorem zs_0 (me : zM) (d rc rs B pc : Nat) (Q : Option Value → zH → Prop) (n : Int) (len a b kd mc ms : Nat) (y : zM) (L : List (Option Value)) (st : List Value) (h : zH) (J : Nat → zKt) (K : zKt) (hd : decode me.2.1 pc = .ok (.iconst n, len)) (ok : len = 1 ∧ Int32.ofInt n = zcv kd a) (hJ : ∀ a rc rs L st h, J a rc rs L st h → zw me d rc rs B a L st h Q) (hK : ∀ rc rs L st h, K rc rs L st h → zw me d rc rs B (pc + len) L st h Q) (hz : K rc rs L (.int (zcv kd a) :: st) h) : zw me d rc rs B pc L st h Q := by
  obtain ⟨rfl, h2⟩ := ok
  exact zr_iconst hd (by rw [h2]; exact hK _ _ _ _ _ hz)
set_option maxRecDepth 4000 in
theorem zs_1 (me : zM) (d rc rs B pc : Nat) (Q : Option Value → zH → Prop) (n : Int) (len a b kd mc ms : Nat) (y : zM) (L : List (Option Value)) (st : List Value) (h : zH) (J : Nat → zKt) (K : zKt) (hd : decode me.2.1 pc = .ok (.bipush n, len)) (ok : len = 2 ∧ (Int8.ofInt n).toInt32 = zcv kd a) (hJ : ∀ a rc rs L st h, J a rc rs L st h → zw me d rc rs B a L st h Q) (hK : ∀ rc rs L st h, K rc rs L st h → zw me d rc rs B (pc + len) L st h Q) (hz : K rc rs L (.int (zcv kd a) :: st) h) : zw me d rc rs B pc L st h Q := by
  obtain ⟨rfl, h2⟩ := ok
  exact zr_bipush hd (by rw [h2]; exact hK _ _ _ _ _ hz)
set_option maxRecDepth 4000 in
theorem zs_2 (me : zM) (d rc rs B pc : Nat) (Q : Option Value → zH → Prop) (n : Int) (len a b kd mc ms : Nat) (y : zM) (L : List (Option Value)) (st : List Value) (h : zH) (J : Nat → zKt) (K : zKt) (hd : decode me.2.1 pc = .ok (.sipush n, len)) (ok : len = 3 ∧ (Int16.ofInt n).toInt32 = zcv kd a) (hJ : ∀ a rc rs L st h, J a rc rs L st h → zw me d rc rs B a L st h Q) (hK : ∀ rc rs L st h, K rc rs L st h → zw me d rc rs B (pc + len) L st h Q) (hz : K rc rs L (.int (zcv kd a) :: st) h) : zw me d rc rs B pc L st h Q := by
  obtain ⟨rfl, h2⟩ := ok
  exact zr_sipush hd (by rw [h2]; exact hK _ _ _ _ _ hz)
set_option maxRecDepth 4000 in
theorem zs_3 (me : zM) (d rc rs B pc : Nat) (Q : Option Value → zH → Prop)  (len a b kd mc ms : Nat) (y : zM) (L : List (Option Value)) (st : List Value) (h : zH) (J : Nat → zKt) (K : zKt) (hd : decode me.2.1 pc = .ok (.aconst_null, len)) (ok : len = 1) (hJ : ∀ a rc rs L st h, J a rc rs L st h → zw me d rc rs B a L st h Q) (hK : ∀ rc rs L st h, K rc rs L st h → zw me d rc rs B (pc + len) L st h Q) (hz : K rc rs L (.null :: st) h) : zw me d rc rs B pc L st h Q := by
  subst ok
  exact zr_null hd (hK _ _ _ _ _ hz)
set_option maxRecDepth 4000 in
theorem zs_4 (me : zM) (d rc rs B pc : Nat) (Q : Option Value → zH → Prop) (i : Fin 4) (len a b kd mc ms : Nat) (y : zM) (L : List (Option Value)) (st : List Value) (h : zH) (J : Nat → zKt) (K : zKt) (hd : decode me.2.1 pc = .ok (.iload_n i, len)) (ok : len = 1) (hJ : ∀ a rc rs L st h, J a rc rs L st h → zw me d rc rs B a L st h Q) (hK : ∀ rc rs L st h, K rc rs L st h → zw me d rc rs B (pc + len) L st h Q) (hz : zgI L i.val fun x => K rc rs L (.int x :: st) h) : zw me d rc rs B pc L st h Q := by
  subst ok
  obtain ⟨x, h1, h2⟩ := zgI_e hz
  exact zr_iload_n hd h1 (hK _ _ _ _ _ h2)
set_option maxRecDepth 4000 in
theorem zs_5 (me : zM) (d rc rs B pc : Nat) (Q : Option Value → zH → Prop) (i : Nat) (len a b kd mc ms : Nat) (y : zM) (L : List (Option Value)) (st : List Value) (h : zH) (J : Nat → zKt) (K : zKt) (hd : decode me.2.1 pc = .ok (.iload i, len)) (ok : len = 2) (hJ : ∀ a rc rs L st h, J a rc rs L st h → zw me d rc rs B a L st h Q) (hK : ∀ rc rs L st h, K rc rs L st h → zw me d rc rs B (pc + len) L st h Q) (hz : zgI L i fun x => K rc rs L (.int x :: st) h) : zw me d rc rs B pc L st h Q := by
  subst ok
  obtain ⟨x, h1, h2⟩ := zgI_e hz
  exact zr_iload hd h1 (hK _ _ _ _ _ h2)
set_option maxRecDepth 4000 in
theorem zs_6 (me : zM) (d rc rs B pc : Nat) (Q : Option Value → zH → Prop) (i : Fin 4) (len a b kd mc ms : Nat) (y : zM) (L : List (Option Value)) (st : List Value) (h : zH) (J : Nat → zKt) (K : zKt) (hd : decode me.2.1 pc = .ok (.aload_n i, len)) (ok : len = 1) (hJ : ∀ a rc rs L st h, J a rc rs L st h → zw me d rc rs B a L st h Q) (hK : ∀ rc rs L st h, K rc rs L st h → zw me d rc rs B (pc + len) L st h Q) (hz : zgA L i.val fun x => K rc rs L (x :: st) h) : zw me d rc rs B pc L st h Q := by
  subst ok
  rcases zgA_e hz with ⟨x, h1, h2⟩ | ⟨h1, h2⟩
  · exact zr_aload_n hd h1 (hK _ _ _ _ _ h2)
  · exact zr_aload_nN hd h1 (hK _ _ _ _ _ h2)
set_option maxRecDepth 4000 in
theorem zs_7 (me : zM) (d rc rs B pc : Nat) (Q : Option Value → zH → Prop) (i : Nat) (len a b kd mc ms : Nat) (y : zM) (L : List (Option Value)) (st : List Value) (h : zH) (J : Nat → zKt) (K : zKt) (hd : decode me.2.1 pc = .ok (.aload i, len)) (ok : len = 2) (hJ : ∀ a rc rs L st h, J a rc rs L st h → zw me d rc rs B a L st h Q) (hK : ∀ rc rs L st h, K rc rs L st h → zw me d rc rs B (pc + len) L st h Q) (hz : zgA L i fun x => K rc rs L (x :: st) h) : zw me d rc rs B pc L st h Q := by
  subst ok
  rcases zgA_e hz with ⟨x, h1, h2⟩ | ⟨h1, h2⟩
  · exact zr_aload hd h1 (hK _ _ _ _ _ h2)
  · exact zr_aloadN hd h1 (hK _ _ _ _ _ h2)
set_option maxRecDepth 4000 in
theorem zs_8 (me : zM) (d rc rs B pc : Nat) (Q : Option Value → zH → Prop) (i : Fin 4) (len a b kd mc ms : Nat) (y : zM) (L : List (Option Value)) (st : List Value) (h : zH) (J : Nat → zKt) (K : zKt) (hd : decode me.2.1 pc = .ok (.istore_n i, len)) (ok : len = 1) (hJ : ∀ a rc rs L st h, J a rc rs L st h → zw me d rc rs B a L st h Q) (hK : ∀ rc rs L st h, K rc rs L st h → zw me d rc rs B (pc + len) L st h Q) (hz : zp1 st fun x r => i.val < L.length ∧ K rc rs (L.set i.val (some (.int x))) r h) : zw me d rc rs B pc L st h Q := by
  subst ok
  obtain ⟨x, r, rfl, h1, h2⟩ := zp1_e hz
  exact zr_istore_n hd h1 (hK _ _ _ _ _ h2)
set_option maxRecDepth 4000 in
theorem zs_9 (me : zM) (d rc rs B pc : Nat) (Q : Option Value → zH → Prop) (i : Nat) (len a b kd mc ms : Nat) (y : zM) (L : List (Option Value)) (st : List Value) (h : zH) (J : Nat → zKt) (K : zKt) (hd : decode me.2.1 pc = .ok (.istore i, len)) (ok : len = 2) (hJ : ∀ a rc rs L st h, J a rc rs L st h → zw me d rc rs B a L st h Q) (hK : ∀ rc rs L st h, K rc rs L st h → zw me d rc rs B (pc + len) L st h Q) (hz : zp1 st fun x r => i < L.length ∧ K rc rs (L.set i (some (.int x))) r h) : zw me d rc rs B pc L st h Q := by
  subst ok
  obtain ⟨x, r, rfl, h1, h2⟩ := zp1_e hz
  exact zr_istore hd h1 (hK _ _ _ _ _ h2)
set_option maxRecDepth 4000 in
theorem zs_10 (me : zM) (d rc rs B pc : Nat) (Q : Option Value → zH → Prop) (i : Fin 4) (len a b kd mc ms : Nat) (y : zM) (L : List (Option Value)) (st : List Value) (h : zH) (J : Nat → zKt) (K : zKt) (hd : decode me.2.1 pc = .ok (.astore_n i, len)) (ok : len = 1) (hJ : ∀ a rc rs L st h, J a rc rs L st h → zw me d rc rs B a L st h Q) (hK : ∀ rc rs L st h, K rc rs L st h → zw me d rc rs B (pc + len) L st h Q) (hz : zpA st fun x r => i.val < L.length ∧ K rc rs (L.set i.val (some x)) r h) : zw me d rc rs B pc L st h Q := by
  subst ok
  rcases zpA_e hz with ⟨x, r, rfl, h1, h2⟩ | ⟨r, rfl, h1, h2⟩
  · exact zr_astore_n hd h1 (hK _ _ _ _ _ h2)
  · exact zr_astore_nN hd h1 (hK _ _ _ _ _ h2)
set_option maxRecDepth 4000 in
theorem zs_11 (me : zM) (d rc rs B pc : Nat) (Q : Option Value → zH → Prop) (i : Nat) (len a b kd mc ms : Nat) (y : zM) (L : List (Option Value)) (st : List Value) (h : zH) (J : Nat → zKt) (K : zKt) (hd : decode me.2.1 pc = .ok (.astore i, len)) (ok : len = 2) (hJ : ∀ a rc rs L st h, J a rc rs L st h → zw me d rc rs B a L st h Q) (hK : ∀ rc rs L st h, K rc rs L st h → zw me d rc rs B (pc + len) L st h Q) (hz : zpA st fun x r => i < L.length ∧ K rc rs (L.set i (some x)) r h) : zw me d rc rs B pc L st h Q := by
  subst ok
  rcases zpA_e hz with ⟨x, r, rfl, h1, h2⟩ | ⟨r, rfl, h1, h2⟩
  · exact zr_astore hd h1 (hK _ _ _ _ _ h2)
  · exact zr_astoreN hd h1 (hK _ _ _ _ _ h2)
set_option maxRecDepth 4000 in
theorem zs_12 (me : zM) (d rc rs B pc : Nat) (Q : Option Value → zH → Prop) (i : Nat) (n : Int) (len a b kd mc ms : Nat) (y : zM) (L : List (Option Value)) (st : List Value) (h : zH) (J : Nat → zKt) (K : zKt) (hd : decode me.2.1 pc = .ok (.iinc i n, len)) (ok : len = 3 ∧ Int32.ofInt n = zcv kd a) (hJ : ∀ a rc rs L st h, J a rc rs L st h → zw me d rc rs B a L st h Q) (hK : ∀ rc rs L st h, K rc rs L st h → zw me d rc rs B (pc + len) L st h Q) (hz : zgI L i fun x => K rc rs (L.set i (some (.int (x + zcv kd a)))) st h) : zw me d rc rs B pc L st h Q := by
  obtain ⟨rfl, h3⟩ := ok
  obtain ⟨x, h1, h2⟩ := zgI_e hz
  exact zr_iinc hd h1 (by rw [h3]; exact hK _ _ _ _ _ h2)
set_option maxRecDepth 4000 in
theorem zs_13 (me : zM) (d rc rs B pc : Nat) (Q : Option Value → zH → Prop)  (len a b kd mc ms : Nat) (y : zM) (L : List (Option Value)) (st : List Value) (h : zH) (J : Nat → zKt) (K : zKt) (hd : decode me.2.1 pc = .ok (.iadd, len)) (ok : len = 1) (hJ : ∀ a rc rs L st h, J a rc rs L st h → zw me d rc rs B a L st h Q) (hK : ∀ rc rs L st h, K rc rs L st h → zw me d rc rs B (pc + len) L st h Q) (hz : zp2 st fun x y r => K rc rs L (.int (x + y) :: r) h) : zw me d rc rs B pc L st h Q := by
  subst ok
  obtain ⟨x, y, r, rfl, h2⟩ := zp2_e hz
  exact zr_iadd hd (hK _ _ _ _ _ h2)
set_option maxRecDepth 4000 in
theorem zs_14 (me : zM) (d rc rs B pc : Nat) (Q : Option Value → zH → Prop)  (len a b kd mc ms : Nat) (y : zM) (L : List (Option Value)) (st : List Value) (h : zH) (J : Nat → zKt) (K : zKt) (hd : decode me.2.1 pc = .ok (.isub, len)) (ok : len = 1) (hJ : ∀ a rc rs L st h, J a rc rs L st h → zw me d rc rs B a L st h Q) (hK : ∀ rc rs L st h, K rc rs L st h → zw me d rc rs B (pc + len) L st h Q) (hz : zp2 st fun x y r => K rc rs L (.int (x - y) :: r) h) : zw me d rc rs B pc L st h Q := by
  subst ok
  obtain ⟨x, y, r, rfl, h2⟩ := zp2_e hz
  exact zr_isub hd (hK _ _ _ _ _ h2)
set_option maxRecDepth 4000 in
theorem zs_15 (me : zM) (d rc rs B pc : Nat) (Q : Option Value → zH → Prop)  (len a b kd mc ms : Nat) (y : zM) (L : List (Option Value)) (st : List Value) (h : zH) (J : Nat → zKt) (K : zKt) (hd : decode me.2.1 pc = .ok (.imul, len)) (ok : len = 1) (hJ : ∀ a rc rs L st h, J a rc rs L st h → zw me d rc rs B a L st h Q) (hK : ∀ rc rs L st h, K rc rs L st h → zw me d rc rs B (pc + len) L st h Q) (hz : zp2 st fun x y r => K rc rs L (.int (x * y) :: r) h) : zw me d rc rs B pc L st h Q := by
  subst ok
  obtain ⟨x, y, r, rfl, h2⟩ := zp2_e hz
  exact zr_imul hd (hK _ _ _ _ _ h2)
set_option maxRecDepth 4000 in
theorem zs_16 (me : zM) (d rc rs B pc : Nat) (Q : Option Value → zH → Prop)  (len a b kd mc ms : Nat) (y : zM) (L : List (Option Value)) (st : List Value) (h : zH) (J : Nat → zKt) (K : zKt) (hd : decode me.2.1 pc = .ok (.iand, len)) (ok : len = 1) (hJ : ∀ a rc rs L st h, J a rc rs L st h → zw me d rc rs B a L st h Q) (hK : ∀ rc rs L st h, K rc rs L st h → zw me d rc rs B (pc + len) L st h Q) (hz : zp2 st fun x y r => K rc rs L (.int (x &&& y) :: r) h) : zw me d rc rs B pc L st h Q := by
  subst ok
  obtain ⟨x, y, r, rfl, h2⟩ := zp2_e hz
  exact zr_iand hd (hK _ _ _ _ _ h2)
set_option maxRecDepth 4000 in
theorem zs_17 (me : zM) (d rc rs B pc : Nat) (Q : Option Value → zH → Prop)  (len a b kd mc ms : Nat) (y : zM) (L : List (Option Value)) (st : List Value) (h : zH) (J : Nat → zKt) (K : zKt) (hd : decode me.2.1 pc = .ok (.ior, len)) (ok : len = 1) (hJ : ∀ a rc rs L st h, J a rc rs L st h → zw me d rc rs B a L st h Q) (hK : ∀ rc rs L st h, K rc rs L st h → zw me d rc rs B (pc + len) L st h Q) (hz : zp2 st fun x y r => K rc rs L (.int (x ||| y) :: r) h) : zw me d rc rs B pc L st h Q := by
  subst ok
  obtain ⟨x, y, r, rfl, h2⟩ := zp2_e hz
  exact zr_ior hd (hK _ _ _ _ _ h2)
set_option maxRecDepth 4000 in
theorem zs_18 (me : zM) (d rc rs B pc : Nat) (Q : Option Value → zH → Prop)  (len a b kd mc ms : Nat) (y : zM) (L : List (Option Value)) (st : List Value) (h : zH) (J : Nat → zKt) (K : zKt) (hd : decode me.2.1 pc = .ok (.ishl, len)) (ok : len = 1) (hJ : ∀ a rc rs L st h, J a rc rs L st h → zw me d rc rs B a L st h Q) (hK : ∀ rc rs L st h, K rc rs L st h → zw me d rc rs B (pc + len) L st h Q) (hz : zp2 st fun x y r => K rc rs L (.int (x <<< (y &&& 31)) :: r) h) : zw me d rc rs B pc L st h Q := by
  subst ok
  obtain ⟨x, y, r, rfl, h2⟩ := zp2_e hz
  exact zr_ishl hd (hK _ _ _ _ _ h2)
set_option maxRecDepth 4000 in
theorem zs_19 (me : zM) (d rc rs B pc : Nat) (Q : Option Value → zH → Prop)  (len a b kd mc ms : Nat) (y : zM) (L : List (Option Value)) (st : List Value) (h : zH) (J : Nat → zKt) (K : zKt) (hd : decode me.2.1 pc = .ok (.iushr, len)) (ok : len = 1) (hJ : ∀ a rc rs L st h, J a rc rs L st h → zw me d rc rs B a L st h Q) (hK : ∀ rc rs L st h, K rc rs L st h → zw me d rc rs B (pc + len) L st h Q) (hz : zp2 st fun x y r => K rc rs L (.int ((x.toUInt32 >>> (y.toUInt32 &&& Int32.toUInt32 31)).toInt32) :: r) h) : zw me d rc rs B pc L st h Q := by
  subst ok
  obtain ⟨x, y, r, rfl, h2⟩ := zp2_e hz
  exact zr_iushr hd (hK _ _ _ _ _ h2)
set_option maxRecDepth 4000 in
theorem zs_20 (me : zM) (d rc rs B pc : Nat) (Q : Option Value → zH → Prop)  (len a b kd mc ms : Nat) (y : zM) (L : List (Option Value)) (st : List Value) (h : zH) (J : Nat → zKt) (K : zKt) (hd : decode me.2.1 pc = .ok (.irem, len)) (ok : len = 1) (hJ : ∀ a rc rs L st h, J a rc rs L st h → zw me d rc rs B a L st h Q) (hK : ∀ rc rs L st h, K rc rs L st h → zw me d rc rs B (pc + len) L st h Q) (hz : zp2 st fun x y r => ¬ y = 0 ∧ K rc rs L (.int (x - x / y * y) :: r) h) : zw me d rc rs B pc L st h Q := by
  subst ok
  obtain ⟨x, y, r, rfl, h1, h2⟩ := zp2_e hz
  exact zr_irem hd h1 (hK _ _ _ _ _ h2)
set_option maxRecDepth 4000 in
theorem zs_21 (me : zM) (d rc rs B pc : Nat) (Q : Option Value → zH → Prop)  (len a b kd mc ms : Nat) (y : zM) (L : List (Option Value)) (st : List Value) (h : zH) (J : Nat → zKt) (K : zKt) (hd : decode me.2.1 pc = .ok (.i2c, len)) (ok : len = 1) (hJ : ∀ a rc rs L st h, J a rc rs L st h → zw me d rc rs B a L st h Q) (hK : ∀ rc rs L st h, K rc rs L st h → zw me d rc rs B (pc + len) L st h Q) (hz : zp1 st fun x r => K rc rs L (.int (x.toUInt32 % 65536).toInt32 :: r) h) : zw me d rc rs B pc L st h Q := by
  subst ok
  obtain ⟨x, r, rfl, h2⟩ := zp1_e hz
  exact zr_i2c hd (hK _ _ _ _ _ h2)
set_option maxRecDepth 4000 in
theorem zs_22 (me : zM) (d rc rs B pc : Nat) (Q : Option Value → zH → Prop)  (len a b kd mc ms : Nat) (y : zM) (L : List (Option Value)) (st : List Value) (h : zH) (J : Nat → zKt) (K : zKt) (hd : decode me.2.1 pc = .ok (.dup, len)) (ok : len = 1) (hJ : ∀ a rc rs L st h, J a rc rs L st h → zw me d rc rs B a L st h Q) (hK : ∀ rc rs L st h, K rc rs L st h → zw me d rc rs B (pc + len) L st h Q) (hz : zpV st fun v r => K rc rs L (v :: v :: r) h) : zw me d rc rs B pc L st h Q := by
  subst ok
  obtain ⟨v, r, rfl, h1, h2⟩ := zpV_e hz
  exact zr_dup hd h1 (hK _ _ _ _ _ h2)
set_option maxRecDepth 4000 in
theorem zs_23 (me : zM) (d rc rs B pc : Nat) (Q : Option Value → zH → Prop)  (len a b kd mc ms : Nat) (y : zM) (L : List (Option Value)) (st : List Value) (h : zH) (J : Nat → zKt) (K : zKt) (hd : decode me.2.1 pc = .ok (.pop, len)) (ok : len = 1) (hJ : ∀ a rc rs L st h, J a rc rs L st h → zw me d rc rs B a L st h Q) (hK : ∀ rc rs L st h, K rc rs L st h → zw me d rc rs B (pc + len) L st h Q) (hz : zpV st fun v r => K rc rs L r h) : zw me d rc rs B pc L st h Q := by
  subst ok
  obtain ⟨v, r, rfl, h1, h2⟩ := zpV_e hz
  exact zr_pop hd h1 (hK _ _ _ _ _ h2)
set_option maxRecDepth 4000 in
theorem zs_24 (me : zM) (d rc rs B pc : Nat) (Q : Option Value → zH → Prop) (off : Int) (len a b kd mc ms : Nat) (y : zM) (L : List (Option Value)) (st : List Value) (h : zH) (J : Nat → zKt) (K : zKt) (hd : decode me.2.1 pc = .ok (.ifCond .eq off, len)) (ok : len = 3 ∧ (pc : Int) + off = (a : Int)) (hJ : ∀ a rc rs L st h, J a rc rs L st h → zw me d rc rs B a L st h Q) (hK : ∀ rc rs L st h, K rc rs L st h → zw me d rc rs B (pc + len) L st h Q) (hz : zp1 st fun x r => ((x = 0) → J a rc rs L r h) ∧ (¬ x = 0 → K rc rs L r h)) : zw me d rc rs B pc L st h Q := by
  obtain ⟨rfl, h3⟩ := ok
  obtain ⟨x, r, rfl, h1, h2⟩ := zp1_e hz
  exact zr_if_eq hd h3 (fun q => hJ _ _ _ _ _ _ (h1 q)) (fun q => hK _ _ _ _ _ (h2 q))
set_option maxRecDepth 4000 in
theorem zs_25 (me : zM) (d rc rs B pc : Nat) (Q : Option Value → zH → Prop) (off : Int) (len a b kd mc ms : Nat) (y : zM) (L : List (Option Value)) (st : List Value) (h : zH) (J : Nat → zKt) (K : zKt) (hd : decode me.2.1 pc = .ok (.if_icmp .eq off, len)) (ok : len = 3 ∧ (pc : Int) + off = (a : Int)) (hJ : ∀ a rc rs L st h, J a rc rs L st h → zw me d rc rs B a L st h Q) (hK : ∀ rc rs L st h, K rc rs L st h → zw me d rc rs B (pc + len) L st h Q) (hz : zp2 st fun x y r => ((x = y) → J a rc rs L r h) ∧ (¬ x = y → K rc rs L r h)) : zw me d rc rs B pc L st h Q := by
  obtain ⟨rfl, h3⟩ := ok
  obtain ⟨x, y, r, rfl, h1, h2⟩ := zp2_e hz
  exact zr_icmp_eq hd h3 (fun q => hJ _ _ _ _ _ _ (h1 q)) (fun q => hK _ _ _ _ _ (h2 q))
set_option maxRecDepth 4000 in
theorem zs_26 (me : zM) (d rc rs B pc : Nat) (Q : Option Value → zH → Prop) (off : Int) (len a b kd mc ms : Nat) (y : zM) (L : List (Option Value)) (st : List Value) (h : zH) (J : Nat → zKt) (K : zKt) (hd : decode me.2.1 pc = .ok (.ifCond .ne off, len)) (ok : len = 3 ∧ (pc : Int) + off = (a : Int)) (hJ : ∀ a rc rs L st h, J a rc rs L st h → zw me d rc rs B a L st h Q) (hK : ∀ rc rs L st h, K rc rs L st h → zw me d rc rs B (pc + len) L st h Q) (hz : zp1 st fun x r => ((¬ x = 0) → J a rc rs L r h) ∧ (x = 0 → K rc rs L r h)) : zw me d rc rs B pc L st h Q := by
  obtain ⟨rfl, h3⟩ := ok
  obtain ⟨x, r, rfl, h1, h2⟩ := zp1_e hz
  exact zr_if_ne hd h3 (fun q => hJ _ _ _ _ _ _ (h1 q)) (fun q => hK _ _ _ _ _ (h2 q))
set_option maxRecDepth 4000 in
theorem zs_27 (me : zM) (d rc rs B pc : Nat) (Q : Option Value → zH → Prop) (off : Int) (len a b kd mc ms : Nat) (y : zM) (L : List (Option Value)) (st : List Value) (h : zH) (J : Nat → zKt) (K : zKt) (hd : decode me.2.1 pc = .ok (.if_icmp .ne off, len)) (ok : len = 3 ∧ (pc : Int) + off = (a : Int)) (hJ : ∀ a rc rs L st h, J a rc rs L st h → zw me d rc rs B a L st h Q) (hK : ∀ rc rs L st h, K rc rs L st h → zw me d rc rs B (pc + len) L st h Q) (hz : zp2 st fun x y r => ((¬ x = y) → J a rc rs L r h) ∧ (x = y → K rc rs L r h)) : zw me d rc rs B pc L st h Q := by
  obtain ⟨rfl, h3⟩ := ok
  obtain ⟨x, y, r, rfl, h1, h2⟩ := zp2_e hz
  exact zr_icmp_ne hd h3 (fun q => hJ _ _ _ _ _ _ (h1 q)) (fun q => hK _ _ _ _ _ (h2 q))
set_option maxRecDepth 4000 in
theorem zs_28 (me : zM) (d rc rs B pc : Nat) (Q : Option Value → zH → Prop) (off : Int) (len a b kd mc ms : Nat) (y : zM) (L : List (Option Value)) (st : List Value) (h : zH) (J : Nat → zKt) (K : zKt) (hd : decode me.2.1 pc = .ok (.ifCond .lt off, len)) (ok : len = 3 ∧ (pc : Int) + off = (a : Int)) (hJ : ∀ a rc rs L st h, J a rc rs L st h → zw me d rc rs B a L st h Q) (hK : ∀ rc rs L st h, K rc rs L st h → zw me d rc rs B (pc + len) L st h Q) (hz : zp1 st fun x r => ((x < 0) → J a rc rs L r h) ∧ (¬ x < 0 → K rc rs L r h)) : zw me d rc rs B pc L st h Q := by
  obtain ⟨rfl, h3⟩ := ok
  obtain ⟨x, r, rfl, h1, h2⟩ := zp1_e hz
  exact zr_if_lt hd h3 (fun q => hJ _ _ _ _ _ _ (h1 q)) (fun q => hK _ _ _ _ _ (h2 q))
set_option maxRecDepth 4000 in
theorem zs_29 (me : zM) (d rc rs B pc : Nat) (Q : Option Value → zH → Prop) (off : Int) (len a b kd mc ms : Nat) (y : zM) (L : List (Option Value)) (st : List Value) (h : zH) (J : Nat → zKt) (K : zKt) (hd : decode me.2.1 pc = .ok (.if_icmp .lt off, len)) (ok : len = 3 ∧ (pc : Int) + off = (a : Int)) (hJ : ∀ a rc rs L st h, J a rc rs L st h → zw me d rc rs B a L st h Q) (hK : ∀ rc rs L st h, K rc rs L st h → zw me d rc rs B (pc + len) L st h Q) (hz : zp2 st fun x y r => ((x < y) → J a rc rs L r h) ∧ (¬ x < y → K rc rs L r h)) : zw me d rc rs B pc L st h Q := by
  obtain ⟨rfl, h3⟩ := ok
  obtain ⟨x, y, r, rfl, h1, h2⟩ := zp2_e hz
  exact zr_icmp_lt hd h3 (fun q => hJ _ _ _ _ _ _ (h1 q)) (fun q => hK _ _ _ _ _ (h2 q))
set_option maxRecDepth 4000 in
theorem zs_30 (me : zM) (d rc rs B pc : Nat) (Q : Option Value → zH → Prop) (off : Int) (len a b kd mc ms : Nat) (y : zM) (L : List (Option Value)) (st : List Value) (h : zH) (J : Nat → zKt) (K : zKt) (hd : decode me.2.1 pc = .ok (.ifCond .ge off, len)) (ok : len = 3 ∧ (pc : Int) + off = (a : Int)) (hJ : ∀ a rc rs L st h, J a rc rs L st h → zw me d rc rs B a L st h Q) (hK : ∀ rc rs L st h, K rc rs L st h → zw me d rc rs B (pc + len) L st h Q) (hz : zp1 st fun x r => ((0 ≤ x) → J a rc rs L r h) ∧ (¬ 0 ≤ x → K rc rs L r h)) : zw me d rc rs B pc L st h Q := by
  obtain ⟨rfl, h3⟩ := ok
  obtain ⟨x, r, rfl, h1, h2⟩ := zp1_e hz
  exact zr_if_ge hd h3 (fun q => hJ _ _ _ _ _ _ (h1 q)) (fun q => hK _ _ _ _ _ (h2 q))
set_option maxRecDepth 4000 in
theorem zs_31 (me : zM) (d rc rs B pc : Nat) (Q : Option Value → zH → Prop) (off : Int) (len a b kd mc ms : Nat) (y : zM) (L : List (Option Value)) (st : List Value) (h : zH) (J : Nat → zKt) (K : zKt) (hd : decode me.2.1 pc = .ok (.if_icmp .ge off, len)) (ok : len = 3 ∧ (pc : Int) + off = (a : Int)) (hJ : ∀ a rc rs L st h, J a rc rs L st h → zw me d rc rs B a L st h Q) (hK : ∀ rc rs L st h, K rc rs L st h → zw me d rc rs B (pc + len) L st h Q) (hz : zp2 st fun x y r => ((y ≤ x) → J a rc rs L r h) ∧ (¬ y ≤ x → K rc rs L r h)) : zw me d rc rs B pc L st h Q := by
  obtain ⟨rfl, h3⟩ := ok
  obtain ⟨x, y, r, rfl, h1, h2⟩ := zp2_e hz
  exact zr_icmp_ge hd h3 (fun q => hJ _ _ _ _ _ _ (h1 q)) (fun q => hK _ _ _ _ _ (h2 q))
set_option maxRecDepth 4000 in
theorem zs_32 (me : zM) (d rc rs B pc : Nat) (Q : Option Value → zH → Prop) (off : Int) (len a b kd mc ms : Nat) (y : zM) (L : List (Option Value)) (st : List Value) (h : zH) (J : Nat → zKt) (K : zKt) (hd : decode me.2.1 pc = .ok (.ifCond .gt off, len)) (ok : len = 3 ∧ (pc : Int) + off = (a : Int)) (hJ : ∀ a rc rs L st h, J a rc rs L st h → zw me d rc rs B a L st h Q) (hK : ∀ rc rs L st h, K rc rs L st h → zw me d rc rs B (pc + len) L st h Q) (hz : zp1 st fun x r => ((0 < x) → J a rc rs L r h) ∧ (¬ 0 < x → K rc rs L r h)) : zw me d rc rs B pc L st h Q := by
  obtain ⟨rfl, h3⟩ := ok
  obtain ⟨x, r, rfl, h1, h2⟩ := zp1_e hz
  exact zr_if_gt hd h3 (fun q => hJ _ _ _ _ _ _ (h1 q)) (fun q => hK _ _ _ _ _ (h2 q))
set_option maxRecDepth 4000 in
theorem zs_33 (me : zM) (d rc rs B pc : Nat) (Q : Option Value → zH → Prop) (off : Int) (len a b kd mc ms : Nat) (y : zM) (L : List (Option Value)) (st : List Value) (h : zH) (J : Nat → zKt) (K : zKt) (hd : decode me.2.1 pc = .ok (.if_icmp .gt off, len)) (ok : len = 3 ∧ (pc : Int) + off = (a : Int)) (hJ : ∀ a rc rs L st h, J a rc rs L st h → zw me d rc rs B a L st h Q) (hK : ∀ rc rs L st h, K rc rs L st h → zw me d rc rs B (pc + len) L st h Q) (hz : zp2 st fun x y r => ((y < x) → J a rc rs L r h) ∧ (¬ y < x → K rc rs L r h)) : zw me d rc rs B pc L st h Q := by
  obtain ⟨rfl, h3⟩ := ok
  obtain ⟨x, y, r, rfl, h1, h2⟩ := zp2_e hz
  exact zr_icmp_gt hd h3 (fun q => hJ _ _ _ _ _ _ (h1 q)) (fun q => hK _ _ _ _ _ (h2 q))
set_option maxRecDepth 4000 in
theorem zs_34 (me : zM) (d rc rs B pc : Nat) (Q : Option Value → zH → Prop) (off : Int) (len a b kd mc ms : Nat) (y : zM) (L : List (Option Value)) (st : List Value) (h : zH) (J : Nat → zKt) (K : zKt) (hd : decode me.2.1 pc = .ok (.ifCond .le off, len)) (ok : len = 3 ∧ (pc : Int) + off = (a : Int)) (hJ : ∀ a rc rs L st h, J a rc rs L st h → zw me d rc rs B a L st h Q) (hK : ∀ rc rs L st h, K rc rs L st h → zw me d rc rs B (pc + len) L st h Q) (hz : zp1 st fun x r => ((x ≤ 0) → J a rc rs L r h) ∧ (¬ x ≤ 0 → K rc rs L r h)) : zw me d rc rs B pc L st h Q := by
  obtain ⟨rfl, h3⟩ := ok
  obtain ⟨x, r, rfl, h1, h2⟩ := zp1_e hz
  exact zr_if_le hd h3 (fun q => hJ _ _ _ _ _ _ (h1 q)) (fun q => hK _ _ _ _ _ (h2 q))
set_option maxRecDepth 4000 in
theorem zs_35 (me : zM) (d rc rs B pc : Nat) (Q : Option Value → zH → Prop) (off : Int) (len a b kd mc ms : Nat) (y : zM) (L : List (Option Value)) (st : List Value) (h : zH) (J : Nat → zKt) (K : zKt) (hd : decode me.2.1 pc = .ok (.if_icmp .le off, len)) (ok : len = 3 ∧ (pc : Int) + off = (a : Int)) (hJ : ∀ a rc rs L st h, J a rc rs L st h → zw me d rc rs B a L st h Q) (hK : ∀ rc rs L st h, K rc rs L st h → zw me d rc rs B (pc + len) L st h Q) (hz : zp2 st fun x y r => ((x ≤ y) → J a rc rs L r h) ∧ (¬ x ≤ y → K rc rs L r h)) : zw me d rc rs B pc L st h Q := by
  obtain ⟨rfl, h3⟩ := ok
  obtain ⟨x, y, r, rfl, h1, h2⟩ := zp2_e hz
  exact zr_icmp_le hd h3 (fun q => hJ _ _ _ _ _ _ (h1 q)) (fun q => hK _ _ _ _ _ (h2 q))
set_option maxRecDepth 4000 in
theorem zs_36 (me : zM) (d rc rs B pc : Nat) (Q : Option Value → zH → Prop) (off : Int) (len a b kd mc ms : Nat) (y : zM) (L : List (Option Value)) (st : List Value) (h : zH) (J : Nat → zKt) (K : zKt) (hd : decode me.2.1 pc = .ok (.goto off, len)) (ok : len = 3 ∧ (pc : Int) + off = (a : Int)) (hJ : ∀ a rc rs L st h, J a rc rs L st h → zw me d rc rs B a L st h Q) (hK : ∀ rc rs L st h, K rc rs L st h → zw me d rc rs B (pc + len) L st h Q) (hz : J a rc rs L st h) : zw me d rc rs B pc L st h Q := by
  obtain ⟨rfl, h3⟩ := ok
  exact zr_goto hd h3 (hJ _ _ _ _ _ _ hz)
set_option maxRecDepth 4000 in
theorem zs_37 (me : zM) (d rc rs B pc : Nat) (Q : Option Value → zH → Prop) (off : Int) (len a b kd mc ms : Nat) (y : zM) (L : List (Option Value)) (st : List Value) (h : zH) (J : Nat → zKt) (K : zKt) (hd : decode me.2.1 pc = .ok (.ifnonnull off, len)) (ok : len = 3 ∧ (pc : Int) + off = (a : Int)) (hJ : ∀ a rc rs L st h, J a rc rs L st h → zw me d rc rs B a L st h Q) (hK : ∀ rc rs L st h, K rc rs L st h → zw me d rc rs B (pc + len) L st h Q) (hz : zpA st fun v r => (v ≠ .null → J a rc rs L r h) ∧ (v = .null → K rc rs L r h)) : zw me d rc rs B pc L st h Q := by
  obtain ⟨rfl, h3⟩ := ok
  rcases zpA_e hz with ⟨x, r, rfl, h1, h2⟩ | ⟨r, rfl, h1, h2⟩
  · exact zr_ifnonnull hd h3 (hJ _ _ _ _ _ _ (h1 (fun q => by cases q)))
  · exact zr_ifnonnullN hd (hK _ _ _ _ _ (h2 rfl))
set_option maxRecDepth 4000 in
theorem zs_38 (me : zM) (d rc rs B pc : Nat) (Q : Option Value → zH → Prop) (off : Int) (len a b kd mc ms : Nat) (y : zM) (L : List (Option Value)) (st : List Value) (h : zH) (J : Nat → zKt) (K : zKt) (hd : decode me.2.1 pc = .ok (.ifnull off, len)) (ok : len = 3 ∧ (pc : Int) + off = (a : Int)) (hJ : ∀ a rc rs L st h, J a rc rs L st h → zw me d rc rs B a L st h Q) (hK : ∀ rc rs L st h, K rc rs L st h → zw me d rc rs B (pc + len) L st h Q) (hz : zpA st fun v r => (v = .null → J a rc rs L r h) ∧ (v ≠ .null → K rc rs L r h)) : zw me d rc rs B pc L st h Q := by
  obtain ⟨rfl, h3⟩ := ok
  rcases zpA_e hz with ⟨x, r, rfl, h1, h2⟩ | ⟨r, rfl, h1, h2⟩
  · exact zr_ifnull hd (hK _ _ _ _ _ (h2 (fun q => by cases q)))
  · exact zr_ifnullN hd h3 (hJ _ _ _ _ _ _ (h1 rfl))
set_option maxRecDepth 4000 in
theorem zs_39 (me : zM) (d rc rs B pc : Nat) (Q : Option Value → zH → Prop)  (len a b kd mc ms : Nat) (y : zM) (L : List (Option Value)) (st : List Value) (h : zH) (J : Nat → zKt) (K : zKt) (hd : decode me.2.1 pc = .ok (.return_, len)) (ok : len = 1 ∧ me.2.2.2.1 = none) (hJ : ∀ a rc rs L st h, J a rc rs L st h → zw me d rc rs B a L st h Q) (hK : ∀ rc rs L st h, K rc rs L st h → zw me d rc rs B (pc + len) L st h Q) (hz : st = [] ∧ Q none h) : zw me d rc rs B pc L st h Q := by
  obtain ⟨rfl, h3⟩ := ok
  obtain ⟨rfl, h2⟩ := hz
  exact zr_vret (st := []) hd h3 h2
set_option maxRecDepth 4000 in
theorem zs_40 (me : zM) (d rc rs B pc : Nat) (Q : Option Value → zH → Prop)  (len a b kd mc ms : Nat) (y : zM) (L : List (Option Value)) (st : List Value) (h : zH) (J : Nat → zKt) (K : zKt) (hd : decode me.2.1 pc = .ok (.ireturn, len)) (ok : len = 1 ∧ ((kd = 0 ∧ me.2.2.2.1 = some .int) ∨ (kd = 1 ∧ me.2.2.2.1 = some .boolean) ∨ (kd = 2 ∧ me.2.2.2.1 = some .char))) (hJ : ∀ a rc rs L st h, J a rc rs L st h → zw me d rc rs B a L st h Q) (hK : ∀ rc rs L st h, K rc rs L st h → zw me d rc rs B (pc + len) L st h Q) (hz : zp1 st fun x r => r = [] ∧ zrn kd x ∧ Q (some (.int x)) h) : zw me d rc rs B pc L st h Q := by
  obtain ⟨rfl, h3⟩ := ok
  obtain ⟨x, r, rfl, rfl, h1, h2⟩ := zp1_e hz
  rcases h3 with ⟨rfl, h3⟩ | ⟨rfl, h3⟩ | ⟨rfl, h3⟩
  · exact zr_iret (st := []) hd h3 rfl h2
  · exact zr_iret (st := []) hd h3 (zrn_b h1) h2
  · exact zr_iret (st := []) hd h3 h1 h2
set_option maxRecDepth 4000 in
theorem zs_41 (me : zM) (d rc rs B pc : Nat) (Q : Option Value → zH → Prop)  (len a b kd mc ms : Nat) (y : zM) (L : List (Option Value)) (st : List Value) (h : zH) (J : Nat → zKt) (K : zKt) (hd : decode me.2.1 pc = .ok (.areturn, len)) (ok : len = 1 ∧ ∃ C : String, me.2.2.2.1 = some (.object C)) (hJ : ∀ a rc rs L st h, J a rc rs L st h → zw me d rc rs B a L st h Q) (hK : ∀ rc rs L st h, K rc rs L st h → zw me d rc rs B (pc + len) L st h Q) (hz : zpA st fun v r => r = [] ∧ Q (some v) h) : zw me d rc rs B pc L st h Q := by
  obtain ⟨rfl, C, h3⟩ := ok
  rcases zpA_e hz with ⟨x, r, rfl, rfl, h2⟩ | ⟨r, rfl, rfl, h2⟩
  · exact zr_aret (st := []) hd h3 (Or.inr ⟨_, rfl⟩) h2
  · exact zr_aret (st := []) hd h3 (Or.inl rfl) h2
set_option maxRecDepth 4000 in
theorem zs_42 (me : zM) (d rc rs B pc : Nat) (Q : Option Value → zH → Prop) (idx : Nat) (len a b kd mc ms : Nat) (y : zM) (L : List (Option Value)) (st : List Value) (h : zH) (J : Nat → zKt) (K : zKt) (hd : decode me.2.1 pc = .ok (.getfield idx, len)) (ok : len = 3 ∧ zFl me.1.cls idx a b) (hJ : ∀ a rc rs L st h, J a rc rs L st h → zw me d rc rs B a L st h Q) (hK : ∀ rc rs L st h, K rc rs L st h → zw me d rc rs B (pc + len) L st h Q) (hz : zpR st fun x r => ∃ (fs : List Value) (v : Value), h.2 x = some (zO a fs) ∧ fs[b]? = some v ∧ K rc rs L (v :: r) h) : zw me d rc rs B pc L st h Q := by
  obtain ⟨rfl, h3⟩ := ok
  obtain ⟨x, r, rfl, fs, v, h1, h2, h4⟩ := zpR_e hz
  exact zr_getf hd h3 h1 h2 (hK _ _ _ _ _ h4)
set_option maxRecDepth 4000 in
theorem zs_43 (me : zM) (d rc rs B pc : Nat) (Q : Option Value → zH → Prop) (idx : Nat) (len a b kd mc ms : Nat) (y : zM) (L : List (Option Value)) (st : List Value) (h : zH) (J : Nat → zKt) (K : zKt) (hd : decode me.2.1 pc = .ok (.putfield idx, len)) (ok : len = 3 ∧ me.2.2.2.2 = none ∧ zFp me.1 idx a b) (hJ : ∀ a rc rs L st h, J a rc rs L st h → zw me d rc rs B a L st h Q) (hK : ∀ rc rs L st h, K rc rs L st h → zw me d rc rs B (pc + len) L st h Q) (hz : zpVR st fun v x r => ∃ fs : List Value, h.2 x = some (zO a fs) ∧ b < fs.length ∧ zfit (zft a b) v ∧ K rc rs L r (zset h x (zO a (fs.set b v)))) : zw me d rc rs B pc L st h Q := by
  obtain ⟨rfl, h0, h3⟩ := ok
  obtain ⟨v, x, r, rfl, fs, h1, h2, h4, h5⟩ := zpVR_e hz
  exact zr_putf hd h0 h3 h1 h2 h4 (hK _ _ _ _ _ h5)
set_option maxRecDepth 4000 in
theorem zs_44 (me : zM) (d rc rs B pc : Nat) (Q : Option Value → zH → Prop)  (len a b kd mc ms : Nat) (y : zM) (L : List (Option Value)) (st : List Value) (h : zH) (J : Nat → zKt) (K : zKt) (hd : decode me.2.1 pc = .ok (.iaload, len)) (ok : len = 1 ∧ zTy[a]? = some .int) (hJ : ∀ a rc rs L st h, J a rc rs L st h → zw me d rc rs B a L st h Q) (hK : ∀ rc rs L st h, K rc rs L st h → zw me d rc rs B (pc + len) L st h Q) (hz : zpIR st fun i x r => match kd with
    | 0 => ∃ (n : Nat) (f : Nat → Int32), h.2 x = some (zI a n f) ∧ vp_in i n ∧ K rc rs L (.int (f i.toNatClampNeg) :: r) h
    | _ => ∃ (n : Nat) (f : Nat → Int32), me.2.2.2.2 = some (x, n, f) ∧ vp_in i n ∧ K rc rs L (.int (f i.toNatClampNeg) :: r) h) : zw me d rc rs B pc L st h Q := by
  obtain ⟨rfl, h3⟩ := ok
  obtain ⟨i, x, r, rfl, h1⟩ := zpIR_e hz
  split at h1
  · obtain ⟨n, f, h1, h2, h4⟩ := h1
    exact zr_iald hd h1 h3 h2 (hK _ _ _ _ _ h4)
  · obtain ⟨n, f, h1, h2, h4⟩ := h1
    exact zr_scr hd h1 h2 (hK _ _ _ _ _ h4)
set_option maxRecDepth 4000 in
theorem zs_45 (me : zM) (d rc rs B pc : Nat) (Q : Option Value → zH → Prop)  (len a b kd mc ms : Nat) (y : zM) (L : List (Option Value)) (st : List Value) (h : zH) (J : Nat → zKt) (K : zKt) (hd : decode me.2.1 pc = .ok (.caload, len)) (ok : len = 1 ∧ zTy[a]? = some .char) (hJ : ∀ a rc rs L st h, J a rc rs L st h → zw me d rc rs B a L st h Q) (hK : ∀ rc rs L st h, K rc rs L st h → zw me d rc rs B (pc + len) L st h Q) (hz : zpIR st fun i x r => ∃ (n : Nat) (f : Nat → Int32), h.2 x = some (zI a n f) ∧ vp_in i n ∧ K rc rs L (.int (f i.toNatClampNeg) :: r) h) : zw me d rc rs B pc L st h Q := by
  obtain ⟨rfl, h3⟩ := ok
  obtain ⟨i, x, r, rfl, n, f, h1, h2, h4⟩ := zpIR_e hz
  exact zr_cald hd h1 h3 h2 (hK _ _ _ _ _ h4)
set_option maxRecDepth 4000 in
theorem zs_46 (me : zM) (d rc rs B pc : Nat) (Q : Option Value → zH → Prop)  (len a b kd mc ms : Nat) (y : zM) (L : List (Option Value)) (st : List Value) (h : zH) (J : Nat → zKt) (K : zKt) (hd : decode me.2.1 pc = .ok (.baload, len)) (ok : len = 1 ∧ zTy[a]? = some .boolean) (hJ : ∀ a rc rs L st h, J a rc rs L st h → zw me d rc rs B a L st h Q) (hK : ∀ rc rs L st h, K rc rs L st h → zw me d rc rs B (pc + len) L st h Q) (hz : zpIR st fun i x r => ∃ (n : Nat) (f : Nat → Int32), h.2 x = some (zI a n f) ∧ vp_in i n ∧ K rc rs L (.int (f i.toNatClampNeg) :: r) h) : zw me d rc rs B pc L st h Q := by
  obtain ⟨rfl, h3⟩ := ok
  obtain ⟨i, x, r, rfl, n, f, h1, h2, h4⟩ := zpIR_e hz
  exact zr_zald hd h1 h3 h2 (hK _ _ _ _ _ h4)
set_option maxRecDepth 4000 in
theorem zs_47 (me : zM) (d rc rs B pc : Nat) (Q : Option Value → zH → Prop)  (len a b kd mc ms : Nat) (y : zM) (L : List (Option Value)) (st : List Value) (h : zH) (J : Nat → zKt) (K : zKt) (hd : decode me.2.1 pc = .ok (.aaload, len)) (ok : len = 1 ∧ ∃ C : String, zTy[a]? = some (.object C)) (hJ : ∀ a rc rs L st h, J a rc rs L st h → zw me d rc rs B a L st h Q) (hK : ∀ rc rs L st h, K rc rs L st h → zw me d rc rs B (pc + len) L st h Q) (hz : zpIR st fun i x r => ∃ (n : Nat) (f : Nat → Option Nat), h.2 x = some (zQ a n f) ∧ vp_in i n ∧ K rc rs L (va_rf (f i.toNatClampNeg) :: r) h) : zw me d rc rs B pc L st h Q := by
  obtain ⟨rfl, C, h3⟩ := ok
  obtain ⟨i, x, r, rfl, n, f, h1, h2, h4⟩ := zpIR_e hz
  exact zr_aald hd h1 h3 h2 (hK _ _ _ _ _ h4)
set_option maxRecDepth 4000 in
theorem zs_48 (me : zM) (d rc rs B pc : Nat) (Q : Option Value → zH → Prop)  (len a b kd mc ms : Nat) (y : zM) (L : List (Option Value)) (st : List Value) (h : zH) (J : Nat → zKt) (K : zKt) (hd : decode me.2.1 pc = .ok (.iastore, len)) (ok : len = 1 ∧ zTy[a]? = some .int) (hJ : ∀ a rc rs L st h, J a rc rs L st h → zw me d rc rs B a L st h Q) (hK : ∀ rc rs L st h, K rc rs L st h → zw me d rc rs B (pc + len) L st h Q) (hz : zpIIR st fun v i x r => ∃ (n : Nat) (f : Nat → Int32), h.2 x = some (zI a n f) ∧ vp_in i n ∧ K rc rs L r (zset h x (zI a n (upd f i.toNatClampNeg v)))) : zw me d rc rs B pc L st h Q := by
  obtain ⟨rfl, h3⟩ := ok
  obtain ⟨v, i, x, r, rfl, n, f, h1, h2, h4⟩ := zpIIR_e hz
  exact zr_iast hd h1 h3 h2 (hK _ _ _ _ _ h4)
set_option maxRecDepth 4000 in
theorem zs_49 (me : zM) (d rc rs B pc : Nat) (Q : Option Value → zH → Prop)  (len a b kd mc ms : Nat) (y : zM) (L : List (Option Value)) (st : List Value) (h : zH) (J : Nat → zKt) (K : zKt) (hd : decode me.2.1 pc = .ok (.castore, len)) (ok : len = 1 ∧ zTy[a]? = some .char) (hJ : ∀ a rc rs L st h, J a rc rs L st h → zw me d rc rs B a L st h Q) (hK : ∀ rc rs L st h, K rc rs L st h → zw me d rc rs B (pc + len) L st h Q) (hz : zpIIR st fun v i x r => ∃ (n : Nat) (f : Nat → Int32), h.2 x = some (zI a n f) ∧ vp_in i n ∧ K rc rs L r (zset h x (zI a n (upd f i.toNatClampNeg (vp_nar .char v))))) : zw me d rc rs B pc L st h Q := by
  obtain ⟨rfl, h3⟩ := ok
  obtain ⟨v, i, x, r, rfl, n, f, h1, h2, h4⟩ := zpIIR_e hz
  exact zr_cast hd h1 h3 h2 (hK _ _ _ _ _ h4)
set_option maxRecDepth 4000 in
theorem zs_50 (me : zM) (d rc rs B pc : Nat) (Q : Option Value → zH → Prop)  (len a b kd mc ms : Nat) (y : zM) (L : List (Option Value)) (st : List Value) (h : zH) (J : Nat → zKt) (K : zKt) (hd : decode me.2.1 pc = .ok (.bastore, len)) (ok : len = 1 ∧ zTy[a]? = some .boolean) (hJ : ∀ a rc rs L st h, J a rc rs L st h → zw me d rc rs B a L st h Q) (hK : ∀ rc rs L st h, K rc rs L st h → zw me d rc rs B (pc + len) L st h Q) (hz : zpIIR st fun v i x r => ∃ (n : Nat) (f : Nat → Int32), h.2 x = some (zI a n f) ∧ vp_in i n ∧ K rc rs L r (zset h x (zI a n (upd f i.toNatClampNeg (vp_nar .boolean v))))) : zw me d rc rs B pc L st h Q := by
  obtain ⟨rfl, h3⟩ := ok
  obtain ⟨v, i, x, r, rfl, n, f, h1, h2, h4⟩ := zpIIR_e hz
  exact zr_zast hd h1 h3 h2 (hK _ _ _ _ _ h4)
set_option maxRecDepth 4000 in
theorem zs_51 (me : zM) (d rc rs B pc : Nat) (Q : Option Value → zH → Prop)  (len a b kd mc ms : Nat) (y : zM) (L : List (Option Value)) (st : List Value) (h : zH) (J : Nat → zKt) (K : zKt) (hd : decode me.2.1 pc = .ok (.aastore, len)) (ok : len = 1 ∧ ∃ r : vw_C, zTy[a]? = some (.object r.1) ∧ zCl[b]? = some r) (hJ : ∀ a rc rs L st h, J a rc rs L st h → zw me d rc rs B a L st h Q) (hK : ∀ rc rs L st h, K rc rs L st h → zw me d rc rs B (pc + len) L st h Q) (hz : zpRIR st fun v i x r => ∃ (n : Nat) (f : Nat → Option Nat) (vs : List Value), h.2 x = some (zQ a n f) ∧ h.2 v = some (zO b vs) ∧ vp_in i n ∧ K rc rs L r (zset h x (zQ a n (va_up f i.toNatClampNeg (some v))))) : zw me d rc rs B pc L st h Q := by
  obtain ⟨rfl, q, h3, h5⟩ := ok
  obtain ⟨v, i, x, r, rfl, n, f, vs, h1, h2, h4, h6⟩ := zpRIR_e hz
  exact zr_aast hd h1 h3 h2 h5 h4 (hK _ _ _ _ _ h6)
set_option maxRecDepth 4000 in
theorem zs_52 (me : zM) (d rc rs B pc : Nat) (Q : Option Value → zH → Prop)  (len a b kd mc ms : Nat) (y : zM) (L : List (Option Value)) (st : List Value) (h : zH) (J : Nat → zKt) (K : zKt) (hd : decode me.2.1 pc = .ok (.arraylength, len)) (ok : len = 1 ∧ ∃ ty : FieldType, zTy[a]? = some ty) (hJ : ∀ a rc rs L st h, J a rc rs L st h → zw me d rc rs B a L st h Q) (hK : ∀ rc rs L st h, K rc rs L st h → zw me d rc rs B (pc + len) L st h Q) (hz : zpR st fun x r => match kd with
    | 0 => ∃ (n : Nat) (f : Nat → Int32), h.2 x = some (zI a n f) ∧ K rc rs L (.int (nI n) :: r) h
    | 1 => ∃ (n : Nat) (f : Nat → Option Nat), h.2 x = some (zQ a n f) ∧ K rc rs L (.int (nI n) :: r) h
    | _ => ∃ (n : Nat) (f : Nat → Int32), me.2.2.2.2 = some (x, n, f) ∧ K rc rs L (.int (nI n) :: r) h) : zw me d rc rs B pc L st h Q := by
  obtain ⟨rfl, ty, h3⟩ := ok
  obtain ⟨x, r, rfl, h1⟩ := zpR_e hz
  split at h1
  · obtain ⟨n, f, h1, h2⟩ := h1
    exact zr_alenI hd h1 h3 (hK _ _ _ _ _ h2)
  · obtain ⟨n, f, h1, h2⟩ := h1
    exact zr_alenQ hd h1 h3 (hK _ _ _ _ _ h2)
  · obtain ⟨n, f, h1, h2⟩ := h1
    exact zr_scrlen hd h1 (hK _ _ _ _ _ h2)
set_option maxRecDepth 4000 in
theorem zs_53 (me : zM) (d rc rs B pc : Nat) (Q : Option Value → zH → Prop) (idx : Nat) (len a b kd mc ms : Nat) (y : zM) (L : List (Option Value)) (st : List Value) (h : zH) (J : Nat → zKt) (K : zKt) (hd : decode me.2.1 pc = .ok (.new idx, len)) (ok : len = 3 ∧ zNl me.1.cls idx a b) (hJ : ∀ a rc rs L st h, J a rc rs L st h → zw me d rc rs B a L st h Q) (hK : ∀ rc rs L st h, K rc rs L st h → zw me d rc rs B (pc + len) L st h Q) (hz : 1 ≤ rc ∧ b ≤ rs ∧ K (rc - 1) (rs - b) L (.ref h.1 :: st) (znew h (zO a (zdf a b)))) : zw me d rc rs B pc L st h Q := by
  obtain ⟨rfl, h3⟩ := ok
  obtain ⟨h1, h2, h4⟩ := hz
  exact zr_new hd h3 h1 h2 (hK _ _ _ _ _ h4)
set_option maxRecDepth 4000 in
theorem zs_54 (me : zM) (d rc rs B pc : Nat) (Q : Option Value → zH → Prop)  (len a b kd mc ms : Nat) (y : zM) (L : List (Option Value)) (st : List Value) (h : zH) (J : Nat → zKt) (K : zKt) (hd : decode me.2.1 pc = .ok (.newarray .int, len)) (ok : len = 2 ∧ zTy[a]? = some .int ∧ Cond.arrayClass .int ∈ zT) (hJ : ∀ a rc rs L st h, J a rc rs L st h → zw me d rc rs B a L st h Q) (hK : ∀ rc rs L st h, K rc rs L st h → zw me d rc rs B (pc + len) L st h Q) (hz : zp1 st fun n r => ¬ n < 0 ∧ n.toNatClampNeg ≤ 65536 ∧ 1 ≤ rc ∧ n.toNatClampNeg ≤ rs ∧ K (rc - 1) (rs - n.toNatClampNeg) L (.ref h.1 :: r) (znew h (zI a n.toNatClampNeg (fun _ => 0)))) : zw me d rc rs B pc L st h Q := by
  obtain ⟨rfl, h3, h5⟩ := ok
  obtain ⟨n, r, rfl, h1, h2, h4, h6, h7⟩ := zp1_e hz
  exact zr_newI hd h3 h5 h1 rfl h2 h4 h6 (hK _ _ _ _ _ h7)
set_option maxRecDepth 4000 in
theorem zs_55 (me : zM) (d rc rs B pc : Nat) (Q : Option Value → zH → Prop)  (len a b kd mc ms : Nat) (y : zM) (L : List (Option Value)) (st : List Value) (h : zH) (J : Nat → zKt) (K : zKt) (hd : decode me.2.1 pc = .ok (.newarray .char, len)) (ok : len = 2 ∧ zTy[a]? = some .char ∧ Cond.arrayClass .char ∈ zT) (hJ : ∀ a rc rs L st h, J a rc rs L st h → zw me d rc rs B a L st h Q) (hK : ∀ rc rs L st h, K rc rs L st h → zw me d rc rs B (pc + len) L st h Q) (hz : zp1 st fun n r => ¬ n < 0 ∧ n.toNatClampNeg ≤ 65536 ∧ 1 ≤ rc ∧ n.toNatClampNeg ≤ rs ∧ K (rc - 1) (rs - n.toNatClampNeg) L (.ref h.1 :: r) (znew h (zI a n.toNatClampNeg (fun _ => 0)))) : zw me d rc rs B pc L st h Q := by
  obtain ⟨rfl, h3, h5⟩ := ok
  obtain ⟨n, r, rfl, h1, h2, h4, h6, h7⟩ := zp1_e hz
  exact zr_newC hd h3 h5 h1 rfl h2 h4 h6 (hK _ _ _ _ _ h7)
set_option maxRecDepth 4000 in
theorem zs_56 (me : zM) (d rc rs B pc : Nat) (Q : Option Value → zH → Prop)  (len a b kd mc ms : Nat) (y : zM) (L : List (Option Value)) (st : List Value) (h : zH) (J : Nat → zKt) (K : zKt) (hd : decode me.2.1 pc = .ok (.newarray .boolean, len)) (ok : len = 2 ∧ zTy[a]? = some .boolean ∧ Cond.arrayClass .boolean ∈ zT) (hJ : ∀ a rc rs L st h, J a rc rs L st h → zw me d rc rs B a L st h Q) (hK : ∀ rc rs L st h, K rc rs L st h → zw me d rc rs B (pc + len) L st h Q) (hz : zp1 st fun n r => ¬ n < 0 ∧ n.toNatClampNeg ≤ 65536 ∧ 1 ≤ rc ∧ n.toNatClampNeg ≤ rs ∧ K (rc - 1) (rs - n.toNatClampNeg) L (.ref h.1 :: r) (znew h (zI a n.toNatClampNeg (fun _ => 0)))) : zw me d rc rs B pc L st h Q := by
  obtain ⟨rfl, h3, h5⟩ := ok
  obtain ⟨n, r, rfl, h1, h2, h4, h6, h7⟩ := zp1_e hz
  exact zr_newZ hd h3 h5 h1 rfl h2 h4 h6 (hK _ _ _ _ _ h7)
set_option maxRecDepth 4000 in
theorem zs_57 (me : zM) (d rc rs B pc : Nat) (Q : Option Value → zH → Prop) (idx : Nat) (len a b kd mc ms : Nat) (y : zM) (L : List (Option Value)) (st : List Value) (h : zH) (J : Nat → zKt) (K : zKt) (hd : decode me.2.1 pc = .ok (.anewarray idx, len)) (ok : len = 3 ∧ zAl me.1.cls idx a) (hJ : ∀ a rc rs L st h, J a rc rs L st h → zw me d rc rs B a L st h Q) (hK : ∀ rc rs L st h, K rc rs L st h → zw me d rc rs B (pc + len) L st h Q) (hz : zp1 st fun n r => ¬ n < 0 ∧ n.toNatClampNeg ≤ 65536 ∧ 1 ≤ rc ∧ n.toNatClampNeg ≤ rs ∧ K (rc - 1) (rs - n.toNatClampNeg) L (.ref h.1 :: r) (znew h (zQ a n.toNatClampNeg (fun _ => none)))) : zw me d rc rs B pc L st h Q := by
  obtain ⟨rfl, h3⟩ := ok
  obtain ⟨n, r, rfl, h1, h2, h4, h6, h7⟩ := zp1_e hz
  exact zr_newA hd h3 h1 rfl h2 h4 h6 (hK _ _ _ _ _ h7)
set_option maxRecDepth 4000 in
theorem zs_58 (me : zM) (d rc rs B pc : Nat) (Q : Option Value → zH → Prop) (idx : Nat) (len a b kd mc ms : Nat) (y : zM) (L : List (Option Value)) (st : List Value) (h : zH) (J : Nat → zKt) (K : zKt) (hd : decode me.2.1 pc = .ok (.invokestatic idx, len)) (ok : zok me pc (.invokestatic idx, len, a, b, kd, mc, ms, y)) (hJ : ∀ a rc rs L st h, J a rc rs L st h → zw me d rc rs B a L st h Q) (hK : ∀ rc rs L st h, K rc rs L st h → zw me d rc rs B (pc + len) L st h Q) (hz : zs me d B Q J (.invokestatic idx, len, a, b, kd, mc, ms, y) rc rs L st h K) : zw me d rc rs B pc L st h Q := by
  rcases kd with _ | _ | _ | kd <;> obtain ⟨rfl, h3⟩ := ok
  · obtain ⟨h1, h2, h4, h5, h6, h7⟩ := hz
    obtain ⟨d, rfl⟩ : ∃ d', d = d' + 1 := ⟨d - 1, by omega⟩
    have e : st = ((st.take a).reverse).reverse ++ st.drop a := by rw [List.reverse_reverse, List.take_append_drop]
    have key := zr_callS (st := st.drop a) (L := L) (Q := Q) hd h3 (As := (st.take a).reverse) (by rw [List.length_reverse, List.length_take]; omega) h2 h5 h6 (zC.mono (fun r h' q => hK _ _ _ _ _ q) h7)
    rw [← e] at key
    exact key
  · obtain ⟨x, y', r, rfl, h1, h2, h4⟩ := zp2_e hz
    obtain ⟨d, rfl⟩ : ∃ d', d = d' + 1 := ⟨d - 1, by omega⟩
    exact zr_max hd h3 h2 (hK _ _ _ _ _ h4)
  · obtain ⟨x, y', r, rfl, h1, h2, h4⟩ := zp2_e hz
    obtain ⟨d, rfl⟩ : ∃ d', d = d' + 1 := ⟨d - 1, by omega⟩
    exact zr_min hd h3 h2 (hK _ _ _ _ _ h4)
  · obtain ⟨k, dp, x, sp, x0, r, rfl, h1, h2, n0, n, f, g, g1, g2, g3, g4, g5, g6, g7, g8, g9⟩ := zpCp_e hz
    obtain ⟨d, rfl⟩ : ∃ d', d = d' + 1 := ⟨d - 1, by omega⟩
    exact zr_copy hd h3.1 h2 g1 g2 h3.2 h3.2 g3 g4 g5 g6 g7 g8 (hK _ _ _ _ _ g9)
set_option maxRecDepth 4000 in
theorem zs_59 (me : zM) (d rc rs B pc : Nat) (Q : Option Value → zH → Prop) (idx : Nat) (len a b kd mc ms : Nat) (y : zM) (L : List (Option Value)) (st : List Value) (h : zH) (J : Nat → zKt) (K : zKt) (hd : decode me.2.1 pc = .ok (.invokespecial idx, len)) (ok : zok me pc (.invokespecial idx, len, a, b, kd, mc, ms, y)) (hJ : ∀ a rc rs L st h, J a rc rs L st h → zw me d rc rs B a L st h Q) (hK : ∀ rc rs L st h, K rc rs L st h → zw me d rc rs B (pc + len) L st h Q) (hz : zs me d B Q J (.invokespecial idx, len, a, b, kd, mc, ms, y) rc rs L st h K) : zw me d rc rs B pc L st h Q := by
  rcases kd with _ | kd <;> obtain ⟨rfl, h3⟩ := ok
  · obtain ⟨h1, hz⟩ := hz
    obtain ⟨x, r, hr, h2, h4, h5, h6, h7⟩ := zpR_e hz
    obtain ⟨d, rfl⟩ : ∃ d', d = d' + 1 := ⟨d - 1, by omega⟩
    have e : st = ((st.take a).reverse).reverse ++ .ref x :: r := by rw [List.reverse_reverse, ← hr, List.take_append_drop]
    have key := zr_callI (st := r) (L := L) (Q := Q) hd h3 (As := (st.take a).reverse) (by rw [List.length_reverse, List.length_take]; omega) h2 h5 h6 (zC.mono (fun r h' q => hK _ _ _ _ _ q) h7)
    rw [← e] at key
    exact key
  · obtain ⟨x, r, rfl, h1, h2, h4⟩ := zpR_e hz
    obtain ⟨d, rfl⟩ : ∃ d', d = d' + 1 := ⟨d - 1, by omega⟩
    exact zr_objInit hd h3 h1 (hK _ _ _ _ _ h4)
set_option maxRecDepth 4000 in
theorem zs_60 (me : zM) (d rc rs B pc : Nat) (Q : Option Value → zH → Prop) (idx : Nat) (len a b kd mc ms : Nat) (y : zM) (L : List (Option Value)) (st : List Value) (h : zH) (J : Nat → zKt) (K : zKt) (hd : decode me.2.1 pc = .ok (.invokevirtual idx, len)) (ok : len = 3 ∧ zVl me.1.cls idx y a b) (hJ : ∀ a rc rs L st h, J a rc rs L st h → zw me d rc rs B a L st h Q) (hK : ∀ rc rs L st h, K rc rs L st h → zw me d rc rs B (pc + len) L st h Q) (hz : a ≤ st.length ∧ zpR (st.drop a) fun x r => (∃ fs : List Value, h.2 x = some (zO b fs)) ∧ zcat r ≤ 8 ∧ 1 ≤ d ∧ mc ≤ rc ∧ ms ≤ rs ∧ zC y (d - 1) mc ms B (.ref x :: (st.take a).reverse) h (fun v h' => K (rc - mc) (rs - ms) L (v.toList ++ r) h')) : zw me d rc rs B pc L st h Q := by
  obtain ⟨rfl, h3⟩ := ok
  obtain ⟨h1, hz⟩ := hz
  obtain ⟨x, r, hr, ⟨fs, hfs⟩, h2, h4, h5, h6, h7⟩ := zpR_e hz
  obtain ⟨d, rfl⟩ : ∃ d', d = d' + 1 := ⟨d - 1, by omega⟩
  have e : st = ((st.take a).reverse).reverse ++ .ref x :: r := by rw [List.reverse_reverse, ← hr, List.take_append_drop]
  have key := zr_callV (st := r) (L := L) (Q := Q) hd h3 hfs (As := (st.take a).reverse) (by rw [List.length_reverse, List.length_take]; omega) h2 h5 h6 (zC.mono (fun r h' q => hK _ _ _ _ _ q) h7)
  rw [← e] at key
  exact key
theorem zs_sound {me : zM} {d rc rs B pc : Nat} {Q : Option Value → zH → Prop} {i : zIns} {L : List (Option Value)} {st : List Value} {h : zH} {J : Nat → zKt} {K : zKt} (hd : decode me.2.1 pc = .ok (i.1, i.2.1)) (ok : zok me pc i) (hJ : ∀ a rc rs L st h, J a rc rs L st h → zw me d rc rs B a L st h Q) (hK : ∀ rc rs L st h, K rc rs L st h → zw me d rc rs B (pc + i.2.1) L st h Q) (hz : zs me d B Q J i rc rs L st h K) : zw me d rc rs B pc L st h Q := by
  obtain ⟨ins, len, a, b, kd, mc, ms, y⟩ := i
  cases ins with
  | iconst n => exact zs_0 me d rc rs B pc Q n len a b kd mc ms y L st h J K hd ok hJ hK hz
  | bipush n => exact zs_1 me d rc rs B pc Q n len a b kd mc ms y L st h J K hd ok hJ hK hz
  | sipush n => exact zs_2 me d rc rs B pc Q n len a b kd mc ms y L st h J K hd ok hJ hK hz
  | aconst_null => exact zs_3 me d rc rs B pc Q  len a b kd mc ms y L st h J K hd ok hJ hK hz
  | iload_n i => exact zs_4 me d rc rs B pc Q i len a b kd mc ms y L st h J K hd ok hJ hK hz
  | iload i => exact zs_5 me d rc rs B pc Q i len a b kd mc ms y L st h J K hd ok hJ hK hz
  | aload_n i => exact zs_6 me d rc rs B pc Q i len a b kd mc ms y L st h J K hd ok hJ hK hz
  | aload i => exact zs_7 me d rc rs B pc Q i len a b kd mc ms y L st h J K hd ok hJ hK hz
  | istore_n i => exact zs_8 me d rc rs B pc Q i len a b kd mc ms y L st h J K hd ok hJ hK hz
  | istore i => exact zs_9 me d rc rs B pc Q i len a b kd mc ms y L st h J K hd ok hJ hK hz
  | astore_n i => exact zs_10 me d rc rs B pc Q i len a b kd mc ms y L st h J K hd ok hJ hK hz
  | astore i => exact zs_11 me d rc rs B pc Q i len a b kd mc ms y L st h J K hd ok hJ hK hz
  | iinc i n => exact zs_12 me d rc rs B pc Q i n len a b kd mc ms y L st h J K hd ok hJ hK hz
  | iadd => exact zs_13 me d rc rs B pc Q  len a b kd mc ms y L st h J K hd ok hJ hK hz
  | isub => exact zs_14 me d rc rs B pc Q  len a b kd mc ms y L st h J K hd ok hJ hK hz
  | imul => exact zs_15 me d rc rs B pc Q  len a b kd mc ms y L st h J K hd ok hJ hK hz
  | iand => exact zs_16 me d rc rs B pc Q  len a b kd mc ms y L st h J K hd ok hJ hK hz
  | ior => exact zs_17 me d rc rs B pc Q  len a b kd mc ms y L st h J K hd ok hJ hK hz
  | ishl => exact zs_18 me d rc rs B pc Q  len a b kd mc ms y L st h J K hd ok hJ hK hz
  | iushr => exact zs_19 me d rc rs B pc Q  len a b kd mc ms y L st h J K hd ok hJ hK hz
  | irem => exact zs_20 me d rc rs B pc Q  len a b kd mc ms y L st h J K hd ok hJ hK hz
  | i2c => exact zs_21 me d rc rs B pc Q  len a b kd mc ms y L st h J K hd ok hJ hK hz
  | dup => exact zs_22 me d rc rs B pc Q  len a b kd mc ms y L st h J K hd ok hJ hK hz
  | pop => exact zs_23 me d rc rs B pc Q  len a b kd mc ms y L st h J K hd ok hJ hK hz
  | ifCond cond off => cases cond with
    | eq => exact zs_24 me d rc rs B pc Q off len a b kd mc ms y L st h J K hd ok hJ hK hz
    | ne => exact zs_26 me d rc rs B pc Q off len a b kd mc ms y L st h J K hd ok hJ hK hz
    | lt => exact zs_28 me d rc rs B pc Q off len a b kd mc ms y L st h J K hd ok hJ hK hz
    | ge => exact zs_30 me d rc rs B pc Q off len a b kd mc ms y L st h J K hd ok hJ hK hz
    | gt => exact zs_32 me d rc rs B pc Q off len a b kd mc ms y L st h J K hd ok hJ hK hz
    | le => exact zs_34 me d rc rs B pc Q off len a b kd mc ms y L st h J K hd ok hJ hK hz
  | if_icmp cond off => cases cond with
    | eq => exact zs_25 me d rc rs B pc Q off len a b kd mc ms y L st h J K hd ok hJ hK hz
    | ne => exact zs_27 me d rc rs B pc Q off len a b kd mc ms y L st h J K hd ok hJ hK hz
    | lt => exact zs_29 me d rc rs B pc Q off len a b kd mc ms y L st h J K hd ok hJ hK hz
    | ge => exact zs_31 me d rc rs B pc Q off len a b kd mc ms y L st h J K hd ok hJ hK hz
    | gt => exact zs_33 me d rc rs B pc Q off len a b kd mc ms y L st h J K hd ok hJ hK hz
    | le => exact zs_35 me d rc rs B pc Q off len a b kd mc ms y L st h J K hd ok hJ hK hz
  | goto off => exact zs_36 me d rc rs B pc Q off len a b kd mc ms y L st h J K hd ok hJ hK hz
  | ifnonnull off => exact zs_37 me d rc rs B pc Q off len a b kd mc ms y L st h J K hd ok hJ hK hz
  | ifnull off => exact zs_38 me d rc rs B pc Q off len a b kd mc ms y L st h J K hd ok hJ hK hz
  | return_ => exact zs_39 me d rc rs B pc Q  len a b kd mc ms y L st h J K hd ok hJ hK hz
  | ireturn => exact zs_40 me d rc rs B pc Q  len a b kd mc ms y L st h J K hd ok hJ hK hz
  | areturn => exact zs_41 me d rc rs B pc Q  len a b kd mc ms y L st h J K hd ok hJ hK hz
  | getfield idx => exact zs_42 me d rc rs B pc Q idx len a b kd mc ms y L st h J K hd ok hJ hK hz
  | putfield idx => exact zs_43 me d rc rs B pc Q idx len a b kd mc ms y L st h J K hd ok hJ hK hz
  | iaload => exact zs_44 me d rc rs B pc Q  len a b kd mc ms y L st h J K hd ok hJ hK hz
  | caload => exact zs_45 me d rc rs B pc Q  len a b kd mc ms y L st h J K hd ok hJ hK hz
  | baload => exact zs_46 me d rc rs B pc Q  len a b kd mc ms y L st h J K hd ok hJ hK hz
  | aaload => exact zs_47 me d rc rs B pc Q  len a b kd mc ms y L st h J K hd ok hJ hK hz
  | iastore => exact zs_48 me d rc rs B pc Q  len a b kd mc ms y L st h J K hd ok hJ hK hz
  | castore => exact zs_49 me d rc rs B pc Q  len a b kd mc ms y L st h J K hd ok hJ hK hz
  | bastore => exact zs_50 me d rc rs B pc Q  len a b kd mc ms y L st h J K hd ok hJ hK hz
  | aastore => exact zs_51 me d rc rs B pc Q  len a b kd mc ms y L st h J K hd ok hJ hK hz
  | arraylength => exact zs_52 me d rc rs B pc Q  len a b kd mc ms y L st h J K hd ok hJ hK hz
  | new idx => exact zs_53 me d rc rs B pc Q idx len a b kd mc ms y L st h J K hd ok hJ hK hz
  | newarray at_ => cases at_ with
    | int => exact zs_54 me d rc rs B pc Q  len a b kd mc ms y L st h J K hd ok hJ hK hz
    | char => exact zs_55 me d rc rs B pc Q  len a b kd mc ms y L st h J K hd ok hJ hK hz
    | boolean => exact zs_56 me d rc rs B pc Q  len a b kd mc ms y L st h J K hd ok hJ hK hz
    | _ => exact False.elim hz
  | anewarray idx => exact zs_57 me d rc rs B pc Q idx len a b kd mc ms y L st h J K hd ok hJ hK hz
  | invokestatic idx => exact zs_58 me d rc rs B pc Q idx len a b kd mc ms y L st h J K hd ok hJ hK hz
  | invokespecial idx => exact zs_59 me d rc rs B pc Q idx len a b kd mc ms y L st h J K hd ok hJ hK hz
  | invokevirtual idx => exact zs_60 me d rc rs B pc Q idx len a b kd mc ms y L st h J K hd ok hJ hK hz
  | _ => exact False.elim hz
/-- the code at pc is this run of instructions -/
def zcode (me : zM) : Nat → List zIns → Prop
  | _, [] => True
  | pc, i :: r => (decode me.2.1 pc = .ok (i.1, i.2.1) ∧ zok me pc i) ∧ zcode me (pc + i.2.1) r
def zblk (me : zM) (d B : Nat) (Q : Option Value → zH → Prop) (J : Nat → zKt) : Nat → List zIns → zKt
  | pc, [] => J pc
  | pc, i :: r => fun rc rs L st h => zs me d B Q J i rc rs L st h (zblk me d B Q J (pc + i.2.1) r)
theorem zblk_sound {me : zM} {d B : Nat} {Q : Option Value → zH → Prop} {J : Nat → zKt} (hJ : ∀ a rc rs L st h, J a rc rs L st h → zw me d rc rs B a L st h Q) : ∀ (is : List zIns) (pc rc rs : Nat) (L : List (Option Value)) (st : List Value) (h : zH), zcode me pc is → zblk me d B Q J pc is rc rs L st h → zw me d rc rs B pc L st h Q
  | [], _, _, _, _, _, _, _, hz => hJ _ _ _ _ _ _ hz
  | i :: r, pc, rc, rs, L, st, h, hc, hz => zs_sound hc.1.1 hc.1.2 hJ (fun rc rs L st h q => zblk_sound hJ r _ rc rs L st h hc.2 q) hz
/-- a method's runs of instructions, by where they begin -/
abbrev zCd : Type := Nat → Option (List zIns)
def zcd (me : zM) (cd : zCd) : Prop := ∀ a is, cd a = some is → zcode me a is
/-- at most n jumps on; at the places in S, and at those that cd does not know, it stops -/
def zrun (me : zM) (d B : Nat) (Q : Option Value → zH → Prop) (cd : zCd) (S : List Nat) : Nat → Nat → zKt
  | 0, a => fun rc rs L st h => zw me d rc rs B a L st h Q
  | n + 1, a => if a ∈ S then (fun rc rs L st h => zw me d rc rs B a L st h Q) else match cd a with
    | none => fun rc rs L st h => zw me d rc rs B a L st h Q
    | some is => zblk me d B Q (zrun me d B Q cd S n) a is
theorem zrun_sound {me : zM} {d B : Nat} {Q : Option Value → zH → Prop} {cd : zCd} {S : List Nat} (hcd : zcd me cd) : ∀ (n a rc rs : Nat) (L : List (Option Value)) (st : List Value) (h : zH), zrun me d B Q cd S n a rc rs L st h → zw me d rc rs B a L st h Q
  | 0, _, _, _, _, _, _, hz => hz
  | n + 1, a, rc, rs, L, st, h, hz => by
    simp only [zrun] at hz
    by_cases ha : a ∈ S
    · rw [if_pos ha] at hz
      exact hz
    · rw [if_neg ha] at hz
      cases he : cd a with
      | none =>
        rw [he] at hz
        exact hz
      | some is =>
        rw [he] at hz
        exact zblk_sound (fun a rc rs L st h q => zrun_sound hcd n a rc rs L st h q) is a rc rs L st h (hcd a is he) hz
/-- the run from a on, whether it is in S or not -/
theorem zw.run {me : zM} {d rc rs B a : Nat} {Q : Option Value → zH → Prop} {L : List (Option Value)} {st : List Value} {h : zH} {cd : zCd} (hcd : zcd me cd) (S : List Nat) (n : Nat) {is : List zIns} (he : cd a = some is) (hz : zblk me d B Q (zrun me d B Q cd S n) a is rc rs L st h) : zw me d rc rs B a L st h Q :=
  zblk_sound (fun a rc rs L st h q => zrun_sound hcd n a rc rs L st h q) is a rc rs L st h (hcd a is he) hz
