/-! What a run of instructions asks, an equation each. -/
/-- every value on the stack is known by its kind -/
def zrdy : List Value → Bool
  | [] => true
  | .int _ :: r => zrdy r
  | .ref _ :: r => zrdy r
  | .null :: r => zrdy r
  | _ => false
theorem ze_iconst {me : zM} {d B : Nat} {Q : Option Value → zH → Prop} {J : Nat → zKt} {rc rs : Nat} {L : List (Option Value)} {st : List Value} {h : zH} {K : zKt} {len a b kd mc ms : Nat} {y : zM} (n : Int) : zs me d B Q J (.iconst n, len, a, b, kd, mc, ms, y) rc rs L st h K = (K rc rs L (.int (zcv kd a) :: st) h) := Eq.trans rfl rfl
theorem ze_bipush {me : zM} {d B : Nat} {Q : Option Value → zH → Prop} {J : Nat → zKt} {rc rs : Nat} {L : List (Option Value)} {st : List Value} {h : zH} {K : zKt} {len a b kd mc ms : Nat} {y : zM} (n : Int) : zs me d B Q J (.bipush n, len, a, b, kd, mc, ms, y) rc rs L st h K = (K rc rs L (.int (zcv kd a) :: st) h) := Eq.trans rfl rfl
theorem ze_sipush {me : zM} {d B : Nat} {Q : Option Value → zH → Prop} {J : Nat → zKt} {rc rs : Nat} {L : List (Option Value)} {st : List Value} {h : zH} {K : zKt} {len a b kd mc ms : Nat} {y : zM} (n : Int) : zs me d B Q J (.sipush n, len, a, b, kd, mc, ms, y) rc rs L st h K = (K rc rs L (.int (zcv kd a) :: st) h) := Eq.trans rfl rfl
theorem ze_aconst_null {me : zM} {d B : Nat} {Q : Option Value → zH → Prop} {J : Nat → zKt} {rc rs : Nat} {L : List (Option Value)} {st : List Value} {h : zH} {K : zKt} {len a b kd mc ms : Nat} {y : zM}  : zs me d B Q J (.aconst_null, len, a, b, kd, mc, ms, y) rc rs L st h K = (K rc rs L (.null :: st) h) := Eq.trans rfl rfl
theorem ze_iload_n0 {me : zM} {d B : Nat} {Q : Option Value → zH → Prop} {J : Nat → zKt} {rc rs : Nat} {L : List (Option Value)} {st : List Value} {h : zH} {K : zKt} {len a b kd mc ms : Nat} {y : zM}  : zs me d B Q J (.iload_n 0, len, a, b, kd, mc, ms, y) rc rs L st h K = (zgI L 0 fun x => K rc rs L (.int x :: st) h) := Eq.trans rfl rfl
theorem ze_iload_n1 {me : zM} {d B : Nat} {Q : Option Value → zH → Prop} {J : Nat → zKt} {rc rs : Nat} {L : List (Option Value)} {st : List Value} {h : zH} {K : zKt} {len a b kd mc ms : Nat} {y : zM}  : zs me d B Q J (.iload_n 1, len, a, b, kd, mc, ms, y) rc rs L st h K = (zgI L 1 fun x => K rc rs L (.int x :: st) h) := Eq.trans rfl rfl
theorem ze_iload_n2 {me : zM} {d B : Nat} {Q : Option Value → zH → Prop} {J : Nat → zKt} {rc rs : Nat} {L : List (Option Value)} {st : List Value} {h : zH} {K : zKt} {len a b kd mc ms : Nat} {y : zM}  : zs me d B Q J (.iload_n 2, len, a, b, kd, mc, ms, y) rc rs L st h K = (zgI L 2 fun x => K rc rs L (.int x :: st) h) := Eq.trans rfl rfl
theorem ze_iload_n3 {me : zM} {d B : Nat} {Q : Option Value → zH → Prop} {J : Nat → zKt} {rc rs : Nat} {L : List (Option Value)} {st : List Value} {h : zH} {K : zKt} {len a b kd mc ms : Nat} {y : zM}  : zs me d B Q J (.iload_n 3, len, a, b, kd, mc, ms, y) rc rs L st h K = (zgI L 3 fun x => K rc rs L (.int x :: st) h) := Eq.trans rfl rfl
theorem ze_iload {me : zM} {d B : Nat} {Q : Option Value → zH → Prop} {J : Nat → zKt} {rc rs : Nat} {L : List (Option Value)} {st : List Value} {h : zH} {K : zKt} {len a b kd mc ms : Nat} {y : zM} (i : Nat) : zs me d B Q J (.iload i, len, a, b, kd, mc, ms, y) rc rs L st h K = (zgI L i fun x => K rc rs L (.int x :: st) h) := Eq.trans rfl rfl
theorem ze_aload_n0 {me : zM} {d B : Nat} {Q : Option Value → zH → Prop} {J : Nat → zKt} {rc rs : Nat} {L : List (Option Value)} {st : List Value} {h : zH} {K : zKt} {len a b kd mc ms : Nat} {y : zM}  : zs me d B Q J (.aload_n 0, len, a, b, kd, mc, ms, y) rc rs L st h K = (zgA L 0 fun x => K rc rs L (x :: st) h) := Eq.trans rfl rfl
theorem ze_aload_n1 {me : zM} {d B : Nat} {Q : Option Value → zH → Prop} {J : Nat → zKt} {rc rs : Nat} {L : List (Option Value)} {st : List Value} {h : zH} {K : zKt} {len a b kd mc ms : Nat} {y : zM}  : zs me d B Q J (.aload_n 1, len, a, b, kd, mc, ms, y) rc rs L st h K = (zgA L 1 fun x => K rc rs L (x :: st) h) := Eq.trans rfl rfl
theorem ze_aload_n2 {me : zM} {d B : Nat} {Q : Option Value → zH → Prop} {J : Nat → zKt} {rc rs : Nat} {L : List (Option Value)} {st : List Value} {h : zH} {K : zKt} {len a b kd mc ms : Nat} {y : zM}  : zs me d B Q J (.aload_n 2, len, a, b, kd, mc, ms, y) rc rs L st h K = (zgA L 2 fun x => K rc rs L (x :: st) h) := Eq.trans rfl rfl
theorem ze_aload_n3 {me : zM} {d B : Nat} {Q : Option Value → zH → Prop} {J : Nat → zKt} {rc rs : Nat} {L : List (Option Value)} {st : List Value} {h : zH} {K : zKt} {len a b kd mc ms : Nat} {y : zM}  : zs me d B Q J (.aload_n 3, len, a, b, kd, mc, ms, y) rc rs L st h K = (zgA L 3 fun x => K rc rs L (x :: st) h) := Eq.trans rfl rfl
theorem ze_aload {me : zM} {d B : Nat} {Q : Option Value → zH → Prop} {J : Nat → zKt} {rc rs : Nat} {L : List (Option Value)} {st : List Value} {h : zH} {K : zKt} {len a b kd mc ms : Nat} {y : zM} (i : Nat) : zs me d B Q J (.aload i, len, a, b, kd, mc, ms, y) rc rs L st h K = (zgA L i fun x => K rc rs L (x :: st) h) := Eq.trans rfl rfl
theorem ze_istore_n0 {me : zM} {d B : Nat} {Q : Option Value → zH → Prop} {J : Nat → zKt} {rc rs : Nat} {L : List (Option Value)} {st : List Value} {h : zH} {K : zKt} {len a b kd mc ms : Nat} {y : zM}  : zs me d B Q J (.istore_n 0, len, a, b, kd, mc, ms, y) rc rs L st h K = (zp1 st fun x r => 0 < L.length ∧ K rc rs (L.set 0 (some (.int x))) r h) := Eq.trans rfl rfl
theorem ze_istore_n1 {me : zM} {d B : Nat} {Q : Option Value → zH → Prop} {J : Nat → zKt} {rc rs : Nat} {L : List (Option Value)} {st : List Value} {h : zH} {K : zKt} {len a b kd mc ms : Nat} {y : zM}  : zs me d B Q J (.istore_n 1, len, a, b, kd, mc, ms, y) rc rs L st h K = (zp1 st fun x r => 1 < L.length ∧ K rc rs (L.set 1 (some (.int x))) r h) := Eq.trans rfl rfl
theorem ze_istore_n2 {me : zM} {d B : Nat} {Q : Option Value → zH → Prop} {J : Nat → zKt} {rc rs : Nat} {L : List (Option Value)} {st : List Value} {h : zH} {K : zKt} {len a b kd mc ms : Nat} {y : zM}  : zs me d B Q J (.istore_n 2, len, a, b, kd, mc, ms, y) rc rs L st h K = (zp1 st fun x r => 2 < L.length ∧ K rc rs (L.set 2 (some (.int x))) r h) := Eq.trans rfl rfl
theorem ze_istore_n3 {me : zM} {d B : Nat} {Q : Option Value → zH → Prop} {J : Nat → zKt} {rc rs : Nat} {L : List (Option Value)} {st : List Value} {h : zH} {K : zKt} {len a b kd mc ms : Nat} {y : zM}  : zs me d B Q J (.istore_n 3, len, a, b, kd, mc, ms, y) rc rs L st h K = (zp1 st fun x r => 3 < L.length ∧ K rc rs (L.set 3 (some (.int x))) r h) := Eq.trans rfl rfl
theorem ze_istore {me : zM} {d B : Nat} {Q : Option Value → zH → Prop} {J : Nat → zKt} {rc rs : Nat} {L : List (Option Value)} {st : List Value} {h : zH} {K : zKt} {len a b kd mc ms : Nat} {y : zM} (i : Nat) : zs me d B Q J (.istore i, len, a, b, kd, mc, ms, y) rc rs L st h K = (zp1 st fun x r => i < L.length ∧ K rc rs (L.set i (some (.int x))) r h) := Eq.trans rfl rfl
theorem ze_astore_n0 {me : zM} {d B : Nat} {Q : Option Value → zH → Prop} {J : Nat → zKt} {rc rs : Nat} {L : List (Option Value)} {st : List Value} {h : zH} {K : zKt} {len a b kd mc ms : Nat} {y : zM}  : zs me d B Q J (.astore_n 0, len, a, b, kd, mc, ms, y) rc rs L st h K = (zpA st fun x r => 0 < L.length ∧ K rc rs (L.set 0 (some x)) r h) := Eq.trans rfl rfl
theorem ze_astore_n1 {me : zM} {d B : Nat} {Q : Option Value → zH → Prop} {J : Nat → zKt} {rc rs : Nat} {L : List (Option Value)} {st : List Value} {h : zH} {K : zKt} {len a b kd mc ms : Nat} {y : zM}  : zs me d B Q J (.astore_n 1, len, a, b, kd, mc, ms, y) rc rs L st h K = (zpA st fun x r => 1 < L.length ∧ K rc rs (L.set 1 (some x)) r h) := Eq.trans rfl rfl
theorem ze_astore_n2 {me : zM} {d B : Nat} {Q : Option Value → zH → Prop} {J : Nat → zKt} {rc rs : Nat} {L : List (Option Value)} {st : List Value} {h : zH} {K : zKt} {len a b kd mc ms : Nat} {y : zM}  : zs me d B Q J (.astore_n 2, len, a, b, kd, mc, ms, y) rc rs L st h K = (zpA st fun x r => 2 < L.length ∧ K rc rs (L.set 2 (some x)) r h) := Eq.trans rfl rfl
theorem ze_astore_n3 {me : zM} {d B : Nat} {Q : Option Value → zH → Prop} {J : Nat → zKt} {rc rs : Nat} {L : List (Option Value)} {st : List Value} {h : zH} {K : zKt} {len a b kd mc ms : Nat} {y : zM}  : zs me d B Q J (.astore_n 3, len, a, b, kd, mc, ms, y) rc rs L st h K = (zpA st fun x r => 3 < L.length ∧ K rc rs (L.set 3 (some x)) r h) := Eq.trans rfl rfl
theorem ze_astore {me : zM} {d B : Nat} {Q : Option Value → zH → Prop} {J : Nat → zKt} {rc rs : Nat} {L : List (Option Value)} {st : List Value} {h : zH} {K : zKt} {len a b kd mc ms : Nat} {y : zM} (i : Nat) : zs me d B Q J (.astore i, len, a, b, kd, mc, ms, y) rc rs L st h K = (zpA st fun x r => i < L.length ∧ K rc rs (L.set i (some x)) r h) := Eq.trans rfl rfl
theorem ze_iinc {me : zM} {d B : Nat} {Q : Option Value → zH → Prop} {J : Nat → zKt} {rc rs : Nat} {L : List (Option Value)} {st : List Value} {h : zH} {K : zKt} {len a b kd mc ms : Nat} {y : zM} (i : Nat) (n : Int) : zs me d B Q J (.iinc i n, len, a, b, kd, mc, ms, y) rc rs L st h K = (zgI L i fun x => K rc rs (L.set i (some (.int (x + zcv kd a)))) st h) := Eq.trans rfl rfl
theorem ze_iadd {me : zM} {d B : Nat} {Q : Option Value → zH → Prop} {J : Nat → zKt} {rc rs : Nat} {L : List (Option Value)} {st : List Value} {h : zH} {K : zKt} {len a b kd mc ms : Nat} {y : zM}  : zs me d B Q J (.iadd, len, a, b, kd, mc, ms, y) rc rs L st h K = (zp2 st fun x y r => K rc rs L (.int (x + y) :: r) h) := Eq.trans rfl rfl
theorem ze_isub {me : zM} {d B : Nat} {Q : Option Value → zH → Prop} {J : Nat → zKt} {rc rs : Nat} {L : List (Option Value)} {st : List Value} {h : zH} {K : zKt} {len a b kd mc ms : Nat} {y : zM}  : zs me d B Q J (.isub, len, a, b, kd, mc, ms, y) rc rs L st h K = (zp2 st fun x y r => K rc rs L (.int (x - y) :: r) h) := Eq.trans rfl rfl
theorem ze_imul {me : zM} {d B : Nat} {Q : Option Value → zH → Prop} {J : Nat → zKt} {rc rs : Nat} {L : List (Option Value)} {st : List Value} {h : zH} {K : zKt} {len a b kd mc ms : Nat} {y : zM}  : zs me d B Q J (.imul, len, a, b, kd, mc, ms, y) rc rs L st h K = (zp2 st fun x y r => K rc rs L (.int (x * y) :: r) h) := Eq.trans rfl rfl
theorem ze_iand {me : zM} {d B : Nat} {Q : Option Value → zH → Prop} {J : Nat → zKt} {rc rs : Nat} {L : List (Option Value)} {st : List Value} {h : zH} {K : zKt} {len a b kd mc ms : Nat} {y : zM}  : zs me d B Q J (.iand, len, a, b, kd, mc, ms, y) rc rs L st h K = (zp2 st fun x y r => K rc rs L (.int (x &&& y) :: r) h) := Eq.trans rfl rfl
theorem ze_ior {me : zM} {d B : Nat} {Q : Option Value → zH → Prop} {J : Nat → zKt} {rc rs : Nat} {L : List (Option Value)} {st : List Value} {h : zH} {K : zKt} {len a b kd mc ms : Nat} {y : zM}  : zs me d B Q J (.ior, len, a, b, kd, mc, ms, y) rc rs L st h K = (zp2 st fun x y r => K rc rs L (.int (x ||| y) :: r) h) := Eq.trans rfl rfl
theorem ze_ishl {me : zM} {d B : Nat} {Q : Option Value → zH → Prop} {J : Nat → zKt} {rc rs : Nat} {L : List (Option Value)} {st : List Value} {h : zH} {K : zKt} {len a b kd mc ms : Nat} {y : zM}  : zs me d B Q J (.ishl, len, a, b, kd, mc, ms, y) rc rs L st h K = (zp2 st fun x y r => K rc rs L (.int (x <<< (y &&& 31)) :: r) h) := Eq.trans rfl rfl
theorem ze_iushr {me : zM} {d B : Nat} {Q : Option Value → zH → Prop} {J : Nat → zKt} {rc rs : Nat} {L : List (Option Value)} {st : List Value} {h : zH} {K : zKt} {len a b kd mc ms : Nat} {y : zM}  : zs me d B Q J (.iushr, len, a, b, kd, mc, ms, y) rc rs L st h K = (zp2 st fun x y r => K rc rs L (.int ((x.toUInt32 >>> (y.toUInt32 &&& Int32.toUInt32 31)).toInt32) :: r) h) := Eq.trans rfl rfl
theorem ze_irem {me : zM} {d B : Nat} {Q : Option Value → zH → Prop} {J : Nat → zKt} {rc rs : Nat} {L : List (Option Value)} {st : List Value} {h : zH} {K : zKt} {len a b kd mc ms : Nat} {y : zM}  : zs me d B Q J (.irem, len, a, b, kd, mc, ms, y) rc rs L st h K = (zp2 st fun x y r => ¬ y = 0 ∧ K rc rs L (.int (x - x / y * y) :: r) h) := Eq.trans rfl rfl
theorem ze_i2c {me : zM} {d B : Nat} {Q : Option Value → zH → Prop} {J : Nat → zKt} {rc rs : Nat} {L : List (Option Value)} {st : List Value} {h : zH} {K : zKt} {len a b kd mc ms : Nat} {y : zM}  : zs me d B Q J (.i2c, len, a, b, kd, mc, ms, y) rc rs L st h K = (zp1 st fun x r => K rc rs L (.int (x.toUInt32 % 65536).toInt32 :: r) h) := Eq.trans rfl rfl
theorem ze_dup {me : zM} {d B : Nat} {Q : Option Value → zH → Prop} {J : Nat → zKt} {rc rs : Nat} {L : List (Option Value)} {st : List Value} {h : zH} {K : zKt} {len a b kd mc ms : Nat} {y : zM}  : zs me d B Q J (.dup, len, a, b, kd, mc, ms, y) rc rs L st h K = (zpV st fun v r => K rc rs L (v :: v :: r) h) := Eq.trans rfl rfl
theorem ze_pop {me : zM} {d B : Nat} {Q : Option Value → zH → Prop} {J : Nat → zKt} {rc rs : Nat} {L : List (Option Value)} {st : List Value} {h : zH} {K : zKt} {len a b kd mc ms : Nat} {y : zM}  : zs me d B Q J (.pop, len, a, b, kd, mc, ms, y) rc rs L st h K = (zpV st fun v r => K rc rs L r h) := Eq.trans rfl rfl
theorem ze_ifCond_eq {me : zM} {d B : Nat} {Q : Option Value → zH → Prop} {J : Nat → zKt} {rc rs : Nat} {L : List (Option Value)} {st : List Value} {h : zH} {K : zKt} {len a b kd mc ms : Nat} {y : zM} (off : Int) : zs me d B Q J (.ifCond .eq off, len, a, b, kd, mc, ms, y) rc rs L st h K = (zp1 st fun x r => ((x = 0) → J a rc rs L r h) ∧ (¬ x = 0 → K rc rs L r h)) := Eq.trans rfl rfl
theorem ze_if_icmp_eq {me : zM} {d B : Nat} {Q : Option Value → zH → Prop} {J : Nat → zKt} {rc rs : Nat} {L : List (Option Value)} {st : List Value} {h : zH} {K : zKt} {len a b kd mc ms : Nat} {y : zM} (off : Int) : zs me d B Q J (.if_icmp .eq off, len, a, b, kd, mc, ms, y) rc rs L st h K = (zp2 st fun x y r => ((x = y) → J a rc rs L r h) ∧ (¬ x = y → K rc rs L r h)) := Eq.trans rfl rfl
theorem ze_ifCond_ne {me : zM} {d B : Nat} {Q : Option Value → zH → Prop} {J : Nat → zKt} {rc rs : Nat} {L : List (Option Value)} {st : List Value} {h : zH} {K : zKt} {len a b kd mc ms : Nat} {y : zM} (off : Int) : zs me d B Q J (.ifCond .ne off, len, a, b, kd, mc, ms, y) rc rs L st h K = (zp1 st fun x r => ((¬ x = 0) → J a rc rs L r h) ∧ (x = 0 → K rc rs L r h)) := Eq.trans rfl rfl
theorem ze_if_icmp_ne {me : zM} {d B : Nat} {Q : Option Value → zH → Prop} {J : Nat → zKt} {rc rs : Nat} {L : List (Option Value)} {st : List Value} {h : zH} {K : zKt} {len a b kd mc ms : Nat} {y : zM} (off : Int) : zs me d B Q J (.if_icmp .ne off, len, a, b, kd, mc, ms, y) rc rs L st h K = (zp2 st fun x y r => ((¬ x = y) → J a rc rs L r h) ∧ (x = y → K rc rs L r h)) := Eq.trans rfl rfl
theorem ze_ifCond_lt {me : zM} {d B : Nat} {Q : Option Value → zH → Prop} {J : Nat → zKt} {rc rs : Nat} {L : List (Option Value)} {st : List Value} {h : zH} {K : zKt} {len a b kd mc ms : Nat} {y : zM} (off : Int) : zs me d B Q J (.ifCond .lt off, len, a, b, kd, mc, ms, y) rc rs L st h K = (zp1 st fun x r => ((x < 0) → J a rc rs L r h) ∧ (¬ x < 0 → K rc rs L r h)) := Eq.trans rfl rfl
theorem ze_if_icmp_lt {me : zM} {d B : Nat} {Q : Option Value → zH → Prop} {J : Nat → zKt} {rc rs : Nat} {L : List (Option Value)} {st : List Value} {h : zH} {K : zKt} {len a b kd mc ms : Nat} {y : zM} (off : Int) : zs me d B Q J (.if_icmp .lt off, len, a, b, kd, mc, ms, y) rc rs L st h K = (zp2 st fun x y r => ((x < y) → J a rc rs L r h) ∧ (¬ x < y → K rc rs L r h)) := Eq.trans rfl rfl
theorem ze_ifCond_ge {me : zM} {d B : Nat} {Q : Option Value → zH → Prop} {J : Nat → zKt} {rc rs : Nat} {L : List (Option Value)} {st : List Value} {h : zH} {K : zKt} {len a b kd mc ms : Nat} {y : zM} (off : Int) : zs me d B Q J (.ifCond .ge off, len, a, b, kd, mc, ms, y) rc rs L st h K = (zp1 st fun x r => ((0 ≤ x) → J a rc rs L r h) ∧ (¬ 0 ≤ x → K rc rs L r h)) := Eq.trans rfl rfl
theorem ze_if_icmp_ge {me : zM} {d B : Nat} {Q : Option Value → zH → Prop} {J : Nat → zKt} {rc rs : Nat} {L : List (Option Value)} {st : List Value} {h : zH} {K : zKt} {len a b kd mc ms : Nat} {y : zM} (off : Int) : zs me d B Q J (.if_icmp .ge off, len, a, b, kd, mc, ms, y) rc rs L st h K = (zp2 st fun x y r => ((y ≤ x) → J a rc rs L r h) ∧ (¬ y ≤ x → K rc rs L r h)) := Eq.trans rfl rfl
theorem ze_ifCond_gt {me : zM} {d B : Nat} {Q : Option Value → zH → Prop} {J : Nat → zKt} {rc rs : Nat} {L : List (Option Value)} {st : List Value} {h : zH} {K : zKt} {len a b kd mc ms : Nat} {y : zM} (off : Int) : zs me d B Q J (.ifCond .gt off, len, a, b, kd, mc, ms, y) rc rs L st h K = (zp1 st fun x r => ((0 < x) → J a rc rs L r h) ∧ (¬ 0 < x → K rc rs L r h)) := Eq.trans rfl rfl
theorem ze_if_icmp_gt {me : zM} {d B : Nat} {Q : Option Value → zH → Prop} {J : Nat → zKt} {rc rs : Nat} {L : List (Option Value)} {st : List Value} {h : zH} {K : zKt} {len a b kd mc ms : Nat} {y : zM} (off : Int) : zs me d B Q J (.if_icmp .gt off, len, a, b, kd, mc, ms, y) rc rs L st h K = (zp2 st fun x y r => ((y < x) → J a rc rs L r h) ∧ (¬ y < x → K rc rs L r h)) := Eq.trans rfl rfl
theorem ze_ifCond_le {me : zM} {d B : Nat} {Q : Option Value → zH → Prop} {J : Nat → zKt} {rc rs : Nat} {L : List (Option Value)} {st : List Value} {h : zH} {K : zKt} {len a b kd mc ms : Nat} {y : zM} (off : Int) : zs me d B Q J (.ifCond .le off, len, a, b, kd, mc, ms, y) rc rs L st h K = (zp1 st fun x r => ((x ≤ 0) → J a rc rs L r h) ∧ (¬ x ≤ 0 → K rc rs L r h)) := Eq.trans rfl rfl
theorem ze_if_icmp_le {me : zM} {d B : Nat} {Q : Option Value → zH → Prop} {J : Nat → zKt} {rc rs : Nat} {L : List (Option Value)} {st : List Value} {h : zH} {K : zKt} {len a b kd mc ms : Nat} {y : zM} (off : Int) : zs me d B Q J (.if_icmp .le off, len, a, b, kd, mc, ms, y) rc rs L st h K = (zp2 st fun x y r => ((x ≤ y) → J a rc rs L r h) ∧ (¬ x ≤ y → K rc rs L r h)) := Eq.trans rfl rfl
theorem ze_goto {me : zM} {d B : Nat} {Q : Option Value → zH → Prop} {J : Nat → zKt} {rc rs : Nat} {L : List (Option Value)} {st : List Value} {h : zH} {K : zKt} {len a b kd mc ms : Nat} {y : zM} (off : Int) : zs me d B Q J (.goto off, len, a, b, kd, mc, ms, y) rc rs L st h K = (J a rc rs L st h) := Eq.trans rfl rfl
theorem ze_ifnonnull {me : zM} {d B : Nat} {Q : Option Value → zH → Prop} {J : Nat → zKt} {rc rs : Nat} {L : List (Option Value)} {st : List Value} {h : zH} {K : zKt} {len a b kd mc ms : Nat} {y : zM} (off : Int) : zs me d B Q J (.ifnonnull off, len, a, b, kd, mc, ms, y) rc rs L st h K = (zpA st fun v r => (v ≠ .null → J a rc rs L r h) ∧ (v = .null → K rc rs L r h)) := Eq.trans rfl rfl
theorem ze_ifnull {me : zM} {d B : Nat} {Q : Option Value → zH → Prop} {J : Nat → zKt} {rc rs : Nat} {L : List (Option Value)} {st : List Value} {h : zH} {K : zKt} {len a b kd mc ms : Nat} {y : zM} (off : Int) : zs me d B Q J (.ifnull off, len, a, b, kd, mc, ms, y) rc rs L st h K = (zpA st fun v r => (v = .null → J a rc rs L r h) ∧ (v ≠ .null → K rc rs L r h)) := Eq.trans rfl rfl
theorem ze_return_ {me : zM} {d B : Nat} {Q : Option Value → zH → Prop} {J : Nat → zKt} {rc rs : Nat} {L : List (Option Value)} {st : List Value} {h : zH} {K : zKt} {len a b kd mc ms : Nat} {y : zM}  : zs me d B Q J (.return_, len, a, b, kd, mc, ms, y) rc rs L st h K = (st = [] ∧ Q none h) := Eq.trans rfl rfl
theorem ze_ireturn {me : zM} {d B : Nat} {Q : Option Value → zH → Prop} {J : Nat → zKt} {rc rs : Nat} {L : List (Option Value)} {st : List Value} {h : zH} {K : zKt} {len a b kd mc ms : Nat} {y : zM}  : zs me d B Q J (.ireturn, len, a, b, kd, mc, ms, y) rc rs L st h K = (zp1 st fun x r => r = [] ∧ zrn kd x ∧ Q (some (.int x)) h) := Eq.trans rfl rfl
theorem ze_areturn {me : zM} {d B : Nat} {Q : Option Value → zH → Prop} {J : Nat → zKt} {rc rs : Nat} {L : List (Option Value)} {st : List Value} {h : zH} {K : zKt} {len a b kd mc ms : Nat} {y : zM}  : zs me d B Q J (.areturn, len, a, b, kd, mc, ms, y) rc rs L st h K = (zpA st fun v r => r = [] ∧ Q (some v) h) := Eq.trans rfl rfl
theorem ze_getfield {me : zM} {d B : Nat} {Q : Option Value → zH → Prop} {J : Nat → zKt} {rc rs : Nat} {L : List (Option Value)} {st : List Value} {h : zH} {K : zKt} {len a b kd mc ms : Nat} {y : zM} (idx : Nat) : zs me d B Q J (.getfield idx, len, a, b, kd, mc, ms, y) rc rs L st h K = (zpR st fun x r => ∃ (fs : List Value) (v : Value), h.2 x = some (zO a fs) ∧ fs[b]? = some v ∧ K rc rs L (v :: r) h) := Eq.trans rfl rfl
theorem ze_putfield {me : zM} {d B : Nat} {Q : Option Value → zH → Prop} {J : Nat → zKt} {rc rs : Nat} {L : List (Option Value)} {st : List Value} {h : zH} {K : zKt} {len a b kd mc ms : Nat} {y : zM} (idx : Nat) : zs me d B Q J (.putfield idx, len, a, b, kd, mc, ms, y) rc rs L st h K = (zpVR st fun v x r => ∃ fs : List Value, h.2 x = some (zO a fs) ∧ b < fs.length ∧ zfit (zft a b) v ∧ K rc rs L r (zset h x (zO a (fs.set b v)))) := Eq.trans rfl rfl
theorem ze_iaload0 {me : zM} {d B : Nat} {Q : Option Value → zH → Prop} {J : Nat → zKt} {rc rs : Nat} {L : List (Option Value)} {st : List Value} {h : zH} {K : zKt} {len a b mc ms : Nat} {y : zM}  : zs me d B Q J (.iaload, len, a, b, 0, mc, ms, y) rc rs L st h K = (zpIR st fun i x r => ∃ (n : Nat) (f : Nat → Int32), h.2 x = some (zI a n f) ∧ vp_in i n ∧ K rc rs L (.int (f i.toNatClampNeg) :: r) h) := Eq.trans rfl rfl
theorem ze_iaload1 {me : zM} {d B : Nat} {Q : Option Value → zH → Prop} {J : Nat → zKt} {rc rs : Nat} {L : List (Option Value)} {st : List Value} {h : zH} {K : zKt} {len a b mc ms : Nat} {y : zM}  : zs me d B Q J (.iaload, len, a, b, 1, mc, ms, y) rc rs L st h K = (zpIR st fun i x r => ∃ (n : Nat) (f : Nat → Int32), me.2.2.2.2 = some (x, n, f) ∧ vp_in i n ∧ K rc rs L (.int (f i.toNatClampNeg) :: r) h) := Eq.trans rfl rfl
theorem ze_caload {me : zM} {d B : Nat} {Q : Option Value → zH → Prop} {J : Nat → zKt} {rc rs : Nat} {L : List (Option Value)} {st : List Value} {h : zH} {K : zKt} {len a b kd mc ms : Nat} {y : zM}  : zs me d B Q J (.caload, len, a, b, kd, mc, ms, y) rc rs L st h K = (zpIR st fun i x r => ∃ (n : Nat) (f : Nat → Int32), h.2 x = some (zI a n f) ∧ vp_in i n ∧ K rc rs L (.int (f i.toNatClampNeg) :: r) h) := Eq.trans rfl rfl
theorem ze_baload {me : zM} {d B : Nat} {Q : Option Value → zH → Prop} {J : Nat → zKt} {rc rs : Nat} {L : List (Option Value)} {st : List Value} {h : zH} {K : zKt} {len a b kd mc ms : Nat} {y : zM}  : zs me d B Q J (.baload, len, a, b, kd, mc, ms, y) rc rs L st h K = (zpIR st fun i x r => ∃ (n : Nat) (f : Nat → Int32), h.2 x = some (zI a n f) ∧ vp_in i n ∧ K rc rs L (.int (f i.toNatClampNeg) :: r) h) := Eq.trans rfl rfl
theorem ze_aaload {me : zM} {d B : Nat} {Q : Option Value → zH → Prop} {J : Nat → zKt} {rc rs : Nat} {L : List (Option Value)} {st : List Value} {h : zH} {K : zKt} {len a b kd mc ms : Nat} {y : zM}  : zs me d B Q J (.aaload, len, a, b, kd, mc, ms, y) rc rs L st h K = (zpIR st fun i x r => ∃ (n : Nat) (f : Nat → Option Nat), h.2 x = some (zQ a n f) ∧ vp_in i n ∧ K rc rs L (va_rf (f i.toNatClampNeg) :: r) h) := Eq.trans rfl rfl
theorem ze_iastore {me : zM} {d B : Nat} {Q : Option Value → zH → Prop} {J : Nat → zKt} {rc rs : Nat} {L : List (Option Value)} {st : List Value} {h : zH} {K : zKt} {len a b kd mc ms : Nat} {y : zM}  : zs me d B Q J (.iastore, len, a, b, kd, mc, ms, y) rc rs L st h K = (zpIIR st fun v i x r => ∃ (n : Nat) (f : Nat → Int32), h.2 x = some (zI a n f) ∧ vp_in i n ∧ K rc rs L r (zset h x (zI a n (upd f i.toNatClampNeg v)))) := Eq.trans rfl rfl
theorem ze_castore {me : zM} {d B : Nat} {Q : Option Value → zH → Prop} {J : Nat → zKt} {rc rs : Nat} {L : List (Option Value)} {st : List Value} {h : zH} {K : zKt} {len a b kd mc ms : Nat} {y : zM}  : zs me d B Q J (.castore, len, a, b, kd, mc, ms, y) rc rs L st h K = (zpIIR st fun v i x r => ∃ (n : Nat) (f : Nat → Int32), h.2 x = some (zI a n f) ∧ vp_in i n ∧ K rc rs L r (zset h x (zI a n (upd f i.toNatClampNeg (vp_nar .char v))))) := Eq.trans rfl rfl
theorem ze_bastore {me : zM} {d B : Nat} {Q : Option Value → zH → Prop} {J : Nat → zKt} {rc rs : Nat} {L : List (Option Value)} {st : List Value} {h : zH} {K : zKt} {len a b kd mc ms : Nat} {y : zM}  : zs me d B Q J (.bastore, len, a, b, kd, mc, ms, y) rc rs L st h K = (zpIIR st fun v i x r => ∃ (n : Nat) (f : Nat → Int32), h.2 x = some (zI a n f) ∧ vp_in i n ∧ K rc rs L r (zset h x (zI a n (upd f i.toNatClampNeg (vp_nar .boolean v))))) := Eq.trans rfl rfl
theorem ze_aastore {me : zM} {d B : Nat} {Q : Option Value → zH → Prop} {J : Nat → zKt} {rc rs : Nat} {L : List (Option Value)} {st : List Value} {h : zH} {K : zKt} {len a b kd mc ms : Nat} {y : zM}  : zs me d B Q J (.aastore, len, a, b, kd, mc, ms, y) rc rs L st h K = (zpRIR st fun v i x r => ∃ (n : Nat) (f : Nat → Option Nat) (vs : List Value), h.2 x = some (zQ a n f) ∧ h.2 v = some (zO b vs) ∧ vp_in i n ∧ K rc rs L r (zset h x (zQ a n (va_up f i.toNatClampNeg (some v))))) := Eq.trans rfl rfl
theorem ze_arraylength0 {me : zM} {d B : Nat} {Q : Option Value → zH → Prop} {J : Nat → zKt} {rc rs : Nat} {L : List (Option Value)} {st : List Value} {h : zH} {K : zKt} {len a b mc ms : Nat} {y : zM}  : zs me d B Q J (.arraylength, len, a, b, 0, mc, ms, y) rc rs L st h K = (zpR st fun x r => ∃ (n : Nat) (f : Nat → Int32), h.2 x = some (zI a n f) ∧ K rc rs L (.int (nI n) :: r) h) := Eq.trans rfl rfl
theorem ze_arraylength1 {me : zM} {d B : Nat} {Q : Option Value → zH → Prop} {J : Nat → zKt} {rc rs : Nat} {L : List (Option Value)} {st : List Value} {h : zH} {K : zKt} {len a b mc ms : Nat} {y : zM}  : zs me d B Q J (.arraylength, len, a, b, 1, mc, ms, y) rc rs L st h K = (zpR st fun x r => ∃ (n : Nat) (f : Nat → Option Nat), h.2 x = some (zQ a n f) ∧ K rc rs L (.int (nI n) :: r) h) := Eq.trans rfl rfl
theorem ze_arraylength2 {me : zM} {d B : Nat} {Q : Option Value → zH → Prop} {J : Nat → zKt} {rc rs : Nat} {L : List (Option Value)} {st : List Value} {h : zH} {K : zKt} {len a b mc ms : Nat} {y : zM}  : zs me d B Q J (.arraylength, len, a, b, 2, mc, ms, y) rc rs L st h K = (zpR st fun x r => ∃ (n : Nat) (f : Nat → Int32), me.2.2.2.2 = some (x, n, f) ∧ K rc rs L (.int (nI n) :: r) h) := Eq.trans rfl rfl
theorem ze_new {me : zM} {d B : Nat} {Q : Option Value → zH → Prop} {J : Nat → zKt} {rc rs : Nat} {L : List (Option Value)} {st : List Value} {h : zH} {K : zKt} {len a b kd mc ms : Nat} {y : zM} (idx : Nat) : zs me d B Q J (.new idx, len, a, b, kd, mc, ms, y) rc rs L st h K = (1 ≤ rc ∧ b ≤ rs ∧ K (rc - 1) (rs - b) L (.ref h.1 :: st) (znew h (zO a (zdf a b)))) := Eq.trans rfl rfl
theorem ze_newarray_int {me : zM} {d B : Nat} {Q : Option Value → zH → Prop} {J : Nat → zKt} {rc rs : Nat} {L : List (Option Value)} {st : List Value} {h : zH} {K : zKt} {len a b kd mc ms : Nat} {y : zM}  : zs me d B Q J (.newarray .int, len, a, b, kd, mc, ms, y) rc rs L st h K = (zp1 st fun n r => ¬ n < 0 ∧ n.toNatClampNeg ≤ 65536 ∧ 1 ≤ rc ∧ n.toNatClampNeg ≤ rs ∧ K (rc - 1) (rs - n.toNatClampNeg) L (.ref h.1 :: r) (znew h (zI a n.toNatClampNeg (fun _ => 0)))) := Eq.trans rfl rfl
theorem ze_newarray_char {me : zM} {d B : Nat} {Q : Option Value → zH → Prop} {J : Nat → zKt} {rc rs : Nat} {L : List (Option Value)} {st : List Value} {h : zH} {K : zKt} {len a b kd mc ms : Nat} {y : zM}  : zs me d B Q J (.newarray .char, len, a, b, kd, mc, ms, y) rc rs L st h K = (zp1 st fun n r => ¬ n < 0 ∧ n.toNatClampNeg ≤ 65536 ∧ 1 ≤ rc ∧ n.toNatClampNeg ≤ rs ∧ K (rc - 1) (rs - n.toNatClampNeg) L (.ref h.1 :: r) (znew h (zI a n.toNatClampNeg (fun _ => 0)))) := Eq.trans rfl rfl
theorem ze_newarray_boolean {me : zM} {d B : Nat} {Q : Option Value → zH → Prop} {J : Nat → zKt} {rc rs : Nat} {L : List (Option Value)} {st : List Value} {h : zH} {K : zKt} {len a b kd mc ms : Nat} {y : zM}  : zs me d B Q J (.newarray .boolean, len, a, b, kd, mc, ms, y) rc rs L st h K = (zp1 st fun n r => ¬ n < 0 ∧ n.toNatClampNeg ≤ 65536 ∧ 1 ≤ rc ∧ n.toNatClampNeg ≤ rs ∧ K (rc - 1) (rs - n.toNatClampNeg) L (.ref h.1 :: r) (znew h (zI a n.toNatClampNeg (fun _ => 0)))) := Eq.trans rfl rfl
theorem ze_anewarray {me : zM} {d B : Nat} {Q : Option Value → zH → Prop} {J : Nat → zKt} {rc rs : Nat} {L : List (Option Value)} {st : List Value} {h : zH} {K : zKt} {len a b kd mc ms : Nat} {y : zM} (idx : Nat) : zs me d B Q J (.anewarray idx, len, a, b, kd, mc, ms, y) rc rs L st h K = (zp1 st fun n r => ¬ n < 0 ∧ n.toNatClampNeg ≤ 65536 ∧ 1 ≤ rc ∧ n.toNatClampNeg ≤ rs ∧ K (rc - 1) (rs - n.toNatClampNeg) L (.ref h.1 :: r) (znew h (zQ a n.toNatClampNeg (fun _ => none)))) := Eq.trans rfl rfl
theorem ze_invokestatic0 {me : zM} {d B : Nat} {Q : Option Value → zH → Prop} {J : Nat → zKt} {rc rs : Nat} {L : List (Option Value)} {st : List Value} {h : zH} {K : zKt} {len a b mc ms : Nat} {y : zM} (idx : Nat) : zs me d B Q J (.invokestatic idx, len, a, b, 0, mc, ms, y) rc rs L st h K = (a ≤ st.length ∧ zcat (st.drop a) ≤ 8 ∧ 1 ≤ d ∧ mc ≤ rc ∧ ms ≤ rs ∧ zC y (d - 1) mc ms B (st.take a).reverse h (fun r h' => K (rc - mc) (rs - ms) L (r.toList ++ st.drop a) h')) := Eq.trans rfl rfl
theorem ze_invokestatic1 {me : zM} {d B : Nat} {Q : Option Value → zH → Prop} {J : Nat → zKt} {rc rs : Nat} {L : List (Option Value)} {st : List Value} {h : zH} {K : zKt} {len a b mc ms : Nat} {y : zM} (idx : Nat) : zs me d B Q J (.invokestatic idx, len, a, b, 1, mc, ms, y) rc rs L st h K = (zp2 st fun x y r => 1 ≤ d ∧ zcat r ≤ 8 ∧ K rc rs L (.int (if x < y then y else x) :: r) h) := Eq.trans rfl rfl
theorem ze_invokestatic2 {me : zM} {d B : Nat} {Q : Option Value → zH → Prop} {J : Nat → zKt} {rc rs : Nat} {L : List (Option Value)} {st : List Value} {h : zH} {K : zKt} {len a b mc ms : Nat} {y : zM} (idx : Nat) : zs me d B Q J (.invokestatic idx, len, a, b, 2, mc, ms, y) rc rs L st h K = (zp2 st fun x y r => 1 ≤ d ∧ zcat r ≤ 8 ∧ K rc rs L (.int (if y < x then y else x) :: r) h) := Eq.trans rfl rfl
theorem ze_invokestatic3 {me : zM} {d B : Nat} {Q : Option Value → zH → Prop} {J : Nat → zKt} {rc rs : Nat} {L : List (Option Value)} {st : List Value} {h : zH} {K : zKt} {len a b mc ms : Nat} {y : zM} (idx : Nat) : zs me d B Q J (.invokestatic idx, len, a, b, 3, mc, ms, y) rc rs L st h K = (zpCp st fun k dp x sp x0 r => 1 ≤ d ∧ zcat r ≤ 4 ∧ ∃ (n0 n : Nat) (f g : Nat → Int32), h.2 x0 = some (zI a n0 f) ∧ h.2 x = some (zI a n g) ∧ ¬ sp < 0 ∧ ¬ dp < 0 ∧ ¬ k < 0 ∧ sp.toNatClampNeg + k.toNatClampNeg ≤ n0 ∧ dp.toNatClampNeg + k.toNatClampNeg ≤ n ∧ x0 ≠ x ∧ K rc rs L r (zset h x (zI a n (va_cpy f g sp.toNatClampNeg dp.toNatClampNeg k.toNatClampNeg)))) := Eq.trans rfl rfl
theorem ze_invokespecial0 {me : zM} {d B : Nat} {Q : Option Value → zH → Prop} {J : Nat → zKt} {rc rs : Nat} {L : List (Option Value)} {st : List Value} {h : zH} {K : zKt} {len a b mc ms : Nat} {y : zM} (idx : Nat) : zs me d B Q J (.invokespecial idx, len, a, b, 0, mc, ms, y) rc rs L st h K = (a ≤ st.length ∧ zpR (st.drop a) fun x r => zcat r ≤ 8 ∧ 1 ≤ d ∧ mc ≤ rc ∧ ms ≤ rs ∧ zC y (d - 1) mc ms B (.ref x :: (st.take a).reverse) h (fun v h' => K (rc - mc) (rs - ms) L (v.toList ++ r) h')) := Eq.trans rfl rfl
theorem ze_invokespecial1 {me : zM} {d B : Nat} {Q : Option Value → zH → Prop} {J : Nat → zKt} {rc rs : Nat} {L : List (Option Value)} {st : List Value} {h : zH} {K : zKt} {len a b mc ms : Nat} {y : zM} (idx : Nat) : zs me d B Q J (.invokespecial idx, len, a, b, 1, mc, ms, y) rc rs L st h K = (zpR st fun x r => zcat r ≤ 8 ∧ 1 ≤ d ∧ K rc rs L r h) := Eq.trans rfl rfl
theorem ze_invokevirtual {me : zM} {d B : Nat} {Q : Option Value → zH → Prop} {J : Nat → zKt} {rc rs : Nat} {L : List (Option Value)} {st : List Value} {h : zH} {K : zKt} {len a b kd mc ms : Nat} {y : zM} (idx : Nat) : zs me d B Q J (.invokevirtual idx, len, a, b, kd, mc, ms, y) rc rs L st h K = (a ≤ st.length ∧ zpR (st.drop a) fun x r => (∃ fs : List Value, h.2 x = some (zO b fs)) ∧ zcat r ≤ 8 ∧ 1 ≤ d ∧ mc ≤ rc ∧ ms ≤ rs ∧ zC y (d - 1) mc ms B (.ref x :: (st.take a).reverse) h (fun v h' => K (rc - mc) (rs - ms) L (v.toList ++ r) h')) := Eq.trans rfl rfl
theorem zgI_0 {L : List (Option Value)} {x : Int32} {k : Int32 → Prop} : zgI (some (.int x) :: L) 0 k = k x := Eq.trans rfl rfl
theorem zgI_s {L : List (Option Value)} {v : Option Value} {i : Nat} {k : Int32 → Prop} : zgI (v :: L) (i + 1) k = zgI L i k := Eq.trans rfl rfl
theorem zgA_0 {L : List (Option Value)} {x : Nat} {k : Value → Prop} : zgA (some (.ref x) :: L) 0 k = k (.ref x) := Eq.trans rfl rfl
theorem zgA_0n {L : List (Option Value)} {k : Value → Prop} : zgA (some .null :: L) 0 k = k .null := Eq.trans rfl rfl
theorem zgA_s {L : List (Option Value)} {v : Option Value} {i : Nat} {k : Value → Prop} : zgA (v :: L) (i + 1) k = zgA L i k := Eq.trans rfl rfl
theorem zp1_i {x : Int32} {r : List Value} {k : Int32 → List Value → Prop} : zp1 (.int x :: r) k = k x r := Eq.trans rfl rfl
theorem zpA_r {x : Nat} {r : List Value} {k : Value → List Value → Prop} : zpA (.ref x :: r) k = k (.ref x) r := Eq.trans rfl rfl
theorem zpA_n {r : List Value} {k : Value → List Value → Prop} : zpA (.null :: r) k = k .null r := Eq.trans rfl rfl
theorem zpV_i {x : Int32} {r : List Value} {k : Value → List Value → Prop} : zpV (.int x :: r) k = k (.int x) r := Eq.trans rfl rfl
theorem zpV_r {x : Nat} {r : List Value} {k : Value → List Value → Prop} : zpV (.ref x :: r) k = k (.ref x) r := Eq.trans rfl rfl
theorem zpV_n {r : List Value} {k : Value → List Value → Prop} : zpV (.null :: r) k = k .null r := Eq.trans rfl rfl
theorem zp2_i {x y : Int32} {r : List Value} {k : Int32 → Int32 → List Value → Prop} : zp2 (.int y :: .int x :: r) k = k x y r := Eq.trans rfl rfl
theorem zpR_r {a : Nat} {r : List Value} {k : Nat → List Value → Prop} : zpR (.ref a :: r) k = k a r := Eq.trans rfl rfl
theorem zpIR_i {i : Int32} {a : Nat} {r : List Value} {k : Int32 → Nat → List Value → Prop} : zpIR (.int i :: .ref a :: r) k = k i a r := Eq.trans rfl rfl
theorem zpIIR_i {x i : Int32} {a : Nat} {r : List Value} {k : Int32 → Int32 → Nat → List Value → Prop} : zpIIR (.int x :: .int i :: .ref a :: r) k = k x i a r := Eq.trans rfl rfl
theorem zpRIR_i {x : Nat} {i : Int32} {a : Nat} {r : List Value} {k : Nat → Int32 → Nat → List Value → Prop} : zpRIR (.ref x :: .int i :: .ref a :: r) k = k x i a r := Eq.trans rfl rfl
theorem zpVR_i {x : Int32} {a : Nat} {r : List Value} {k : Value → Nat → List Value → Prop} : zpVR (.int x :: .ref a :: r) k = k (.int x) a r := Eq.trans rfl rfl
theorem zpVR_r {x : Nat} {a : Nat} {r : List Value} {k : Value → Nat → List Value → Prop} : zpVR (.ref x :: .ref a :: r) k = k (.ref x) a r := Eq.trans rfl rfl
theorem zpVR_n {a : Nat} {r : List Value} {k : Value → Nat → List Value → Prop} : zpVR (.null :: .ref a :: r) k = k .null a r := Eq.trans rfl rfl
theorem zpCp_i {n dp sp : Int32} {a a0 : Nat} {r : List Value} {k : Int32 → Int32 → Nat → Int32 → Nat → List Value → Prop} : zpCp (.int n :: .int dp :: .ref a :: .int sp :: .ref a0 :: r) k = k n dp a sp a0 r := Eq.trans rfl rfl
theorem va_rf_s {a : Nat} : va_rf (some a) = .ref a := Eq.trans rfl rfl
theorem va_rf_n  : va_rf none = .null := Eq.trans rfl rfl
theorem zcv_0 {a : Nat} : zcv 0 a = nI a := Eq.trans rfl rfl
theorem zcv_1 {a : Nat} : zcv 1 a = - nI a := Eq.trans rfl rfl
theorem zrn_0 {x : Int32} : zrn 0 x = True := Eq.trans rfl rfl
theorem zrn_1 {x : Int32} : zrn 1 x = (x = nI 0 ∨ x = nI 1) := Eq.trans rfl rfl
theorem zrn_2 {x : Int32} : zrn 2 x = (narrow .char (.int x) = .int x) := Eq.trans rfl rfl
theorem zcat_0  : zcat [] = 0 := Eq.trans rfl rfl
theorem zcat_i {x : Int32} {r : List Value} : zcat (.int x :: r) = 1 + zcat r := by simp [zcat, Value.category]
theorem zcat_r {x : Nat} {r : List Value} : zcat (.ref x :: r) = 1 + zcat r := by simp [zcat, Value.category]
theorem zcat_n {r : List Value} : zcat (.null :: r) = 1 + zcat r := by simp [zcat, Value.category]
theorem zblk_n {me : zM} {d B : Nat} {Q : Option Value → zH → Prop} {J : Nat → zKt} {pc rc rs : Nat} {L : List (Option Value)} {st : List Value} {h : zH} : zblk me d B Q J pc [] rc rs L st h = J pc rc rs L st h := Eq.trans rfl rfl
theorem zblk_c0 {me : zM} {d B : Nat} {Q : Option Value → zH → Prop} {J : Nat → zKt} {pc rc rs : Nat} {L : List (Option Value)} {st : List Value} {h : zH} {i : zIns} {r : List zIns} : zblk me d B Q J pc (i :: r) rc rs L st h = zs me d B Q J i rc rs L st h (zblk me d B Q J (pc + i.2.1) r) := Eq.trans rfl rfl
theorem zblk_ce {me : zM} {d B : Nat} {Q : Option Value → zH → Prop} {J : Nat → zKt} {pc rc rs : Nat} {L : List (Option Value)} {h : zH} {i : zIns} {r : List zIns}  : zblk me d B Q J pc (i :: r) rc rs L [] h = zs me d B Q J i rc rs L [] h (zblk me d B Q J (pc + i.2.1) r) := Eq.trans rfl rfl
theorem zblk_ci {me : zM} {d B : Nat} {Q : Option Value → zH → Prop} {J : Nat → zKt} {pc rc rs : Nat} {L : List (Option Value)} {st : List Value} {h : zH} {i : zIns} {r : List zIns} {x : Int32} : zblk me d B Q J pc (i :: r) rc rs L (.int x :: st) h = zs me d B Q J i rc rs L (.int x :: st) h (zblk me d B Q J (pc + i.2.1) r) := Eq.trans rfl rfl
theorem zblk_cr {me : zM} {d B : Nat} {Q : Option Value → zH → Prop} {J : Nat → zKt} {pc rc rs : Nat} {L : List (Option Value)} {st : List Value} {h : zH} {i : zIns} {r : List zIns} {x : Nat} : zblk me d B Q J pc (i :: r) rc rs L (.ref x :: st) h = zs me d B Q J i rc rs L (.ref x :: st) h (zblk me d B Q J (pc + i.2.1) r) := Eq.trans rfl rfl
theorem zblk_cn {me : zM} {d B : Nat} {Q : Option Value → zH → Prop} {J : Nat → zKt} {pc rc rs : Nat} {L : List (Option Value)} {st : List Value} {h : zH} {i : zIns} {r : List zIns}  : zblk me d B Q J pc (i :: r) rc rs L (.null :: st) h = zs me d B Q J i rc rs L (.null :: st) h (zblk me d B Q J (pc + i.2.1) r) := Eq.trans rfl rfl
theorem zfit_i (x : Int32) : zfit .int (.int x) := ⟨rfl, rfl⟩
theorem zfit_r (C : String) (x : Nat) : zfit (.object C) (.ref x) := ⟨rfl, rfl⟩
theorem zfit_ra (t : FieldType) (x : Nat) : zfit (.array t) (.ref x) := ⟨rfl, rfl⟩
theorem zfit_n (C : String) : zfit (.object C) .null := ⟨rfl, rfl⟩
theorem zfit_b0 : zfit .boolean (.int (nI 0)) := ⟨rfl, rfl⟩
theorem zfit_b1 : zfit .boolean (.int (nI 1)) := ⟨rfl, rfl⟩
theorem zrun_0 {me : zM} {d B : Nat} {Q : Option Value → zH → Prop} {cd : zCd} {S : List Nat} {a rc rs : Nat} {L : List (Option Value)} {st : List Value} {h : zH} : zrun me d B Q cd S 0 a rc rs L st h = zw me d rc rs B a L st h Q := Eq.trans rfl rfl
theorem zrun_in {me : zM} {d B : Nat} {Q : Option Value → zH → Prop} {cd : zCd} {S : List Nat} {n a rc rs : Nat} {L : List (Option Value)} {st : List Value} {h : zH} (ha : S.contains a = true) : zrun me d B Q cd S (n + 1) a rc rs L st h = zw me d rc rs B a L st h Q := by
  simp only [zrun]
  rw [if_pos (by simpa using ha)]
theorem zrun_go {me : zM} {d B : Nat} {Q : Option Value → zH → Prop} {cd : zCd} {S : List Nat} {n a rc rs : Nat} {L : List (Option Value)} {st : List Value} {h : zH} (is : List zIns) (ha : S.contains a = false) (hc : cd a = some is) : zrun me d B Q cd S (n + 1) a rc rs L st h = zblk me d B Q (zrun me d B Q cd S n) a is rc rs L st h := by
  simp only [zrun]
  rw [if_neg (by simpa using ha), hc]
theorem zset_1 (h : zH) (a : Nat) (e : zE) : (zset h a e).1 = h.1 := Eq.trans rfl rfl
theorem znew_1 (h : zH) (e : zE) : (znew h e).1 = h.1 + 1 := Eq.trans rfl rfl
theorem zset_s (h : zH) (a : Nat) (e : zE) : (zset h a e).2 a = some e := va_up_self _ _ _
theorem zset_o {h : zH} {a b : Nat} {e : zE} (hb : b ≠ a) : (zset h a e).2 b = h.2 b := va_up_ne _ _ hb
theorem znew_s (h : zH) (e : zE) : (znew h e).2 h.1 = some e := va_up_self _ _ _
theorem znew_o {h : zH} {b : Nat} {e : zE} (hb : b ≠ h.1) : (znew h e).2 b = h.2 b := va_up_ne _ _ hb
theorem zset_set (h : zH) (a : Nat) (e e' : zE) : zset (zset h a e) a e' = zset h a e' := by
  unfold zset
  rw [bx_uu]
theorem ft_0_0 : zft 0 0 = .array (.char) := Eq.trans rfl rfl
theorem ft_0_1 : zft 0 1 = .int := Eq.trans rfl rfl
theorem df_0 : zdf 0 2 = [.null, .int (nI 0)] := Eq.trans rfl rfl
theorem ft_1_0 : zft 1 0 = .object "DepotServer$Row" := Eq.trans rfl rfl
theorem ft_1_1 : zft 1 1 = .object "DepotServer$Row" := Eq.trans rfl rfl
theorem ft_1_2 : zft 1 2 = .boolean := Eq.trans rfl rfl
theorem df_1 : zdf 1 3 = [.null, .null, .int (nI 0)] := Eq.trans rfl rfl
theorem ft_2_0 : zft 2 0 = .array (.object "DepotServer$Row") := Eq.trans rfl rfl
theorem ft_2_1 : zft 2 1 = .array (.object "DepotServer$Line") := Eq.trans rfl rfl
theorem ft_2_2 : zft 2 2 = .int := Eq.trans rfl rfl
theorem ft_2_3 : zft 2 3 = .int := Eq.trans rfl rfl
theorem df_2 : zdf 2 4 = [.null, .null, .int (nI 0), .int (nI 0)] := Eq.trans rfl rfl
theorem ft_3_0 : zft 3 0 = .array (.object "DepotServer$Row") := Eq.trans rfl rfl
theorem ft_3_1 : zft 3 1 = .array (.boolean) := Eq.trans rfl rfl
theorem ft_3_2 : zft 3 2 = .array (.int) := Eq.trans rfl rfl
theorem ft_3_3 : zft 3 3 = .array (.int) := Eq.trans rfl rfl
theorem df_3 : zdf 3 4 = [.null, .null, .null, .null] := Eq.trans rfl rfl
theorem ft_4_0 : zft 4 0 = .int := Eq.trans rfl rfl
theorem ft_4_1 : zft 4 1 = .int := Eq.trans rfl rfl
theorem ft_4_2 : zft 4 2 = .int := Eq.trans rfl rfl
theorem ft_4_3 : zft 4 3 = .boolean := Eq.trans rfl rfl
theorem ft_4_4 : zft 4 4 = .boolean := Eq.trans rfl rfl
theorem ft_4_5 : zft 4 5 = .object "DepotServer$Revision" := Eq.trans rfl rfl
theorem df_4 : zdf 4 6 = [.int (nI 0), .int (nI 0), .int (nI 0), .int (nI 0), .int (nI 0), .null] := Eq.trans rfl rfl
theorem ft_5_0 : zft 5 0 = .int := Eq.trans rfl rfl
theorem ft_5_1 : zft 5 1 = .int := Eq.trans rfl rfl
theorem ft_5_2 : zft 5 2 = .int := Eq.trans rfl rfl
theorem ft_5_3 : zft 5 3 = .int := Eq.trans rfl rfl
theorem ft_5_4 : zft 5 4 = .int := Eq.trans rfl rfl
theorem ft_5_5 : zft 5 5 = .boolean := Eq.trans rfl rfl
theorem ft_5_6 : zft 5 6 = .int := Eq.trans rfl rfl
theorem ft_5_7 : zft 5 7 = .int := Eq.trans rfl rfl
theorem ft_5_8 : zft 5 8 = .int := Eq.trans rfl rfl
theorem ft_5_9 : zft 5 9 = .int := Eq.trans rfl rfl
theorem ft_5_10 : zft 5 10 = .int := Eq.trans rfl rfl
theorem ft_5_11 : zft 5 11 = .boolean := Eq.trans rfl rfl
theorem df_5 : zdf 5 12 = [.int (nI 0), .int (nI 0), .int (nI 0), .int (nI 0), .int (nI 0), .int (nI 0), .int (nI 0), .int (nI 0), .int (nI 0), .int (nI 0), .int (nI 0), .int (nI 0)] := Eq.trans rfl rfl
theorem ft_6_0 : zft 6 0 = .array (.int) := Eq.trans rfl rfl
theorem ft_6_1 : zft 6 1 = .array (.object "DepotServer$Revision") := Eq.trans rfl rfl
theorem ft_6_2 : zft 6 2 = .int := Eq.trans rfl rfl
theorem ft_6_3 : zft 6 3 = .int := Eq.trans rfl rfl
theorem ft_6_4 : zft 6 4 = .int := Eq.trans rfl rfl
theorem ft_6_5 : zft 6 5 = .array (.object "DepotServer$Work") := Eq.trans rfl rfl
theorem ft_6_6 : zft 6 6 = .array (.int) := Eq.trans rfl rfl
theorem df_6 : zdf 6 7 = [.null, .null, .int (nI 0), .int (nI 0), .int (nI 0), .null, .null] := Eq.trans rfl rfl
theorem ft_7_0 : zft 7 0 = .int := Eq.trans rfl rfl
theorem ft_7_1 : zft 7 1 = .int := Eq.trans rfl rfl
theorem ft_7_2 : zft 7 2 = .array (.object "DepotServer$State") := Eq.trans rfl rfl
theorem df_7 : zdf 7 3 = [.int (nI 0), .int (nI 0), .null] := Eq.trans rfl rfl
theorem ft_8_0 : zft 8 0 = .object "DepotServer$Row" := Eq.trans rfl rfl
theorem ft_8_1 : zft 8 1 = .object "DepotServer$Catalog" := Eq.trans rfl rfl
theorem ft_8_2 : zft 8 2 = .object "DepotServer$Places" := Eq.trans rfl rfl
theorem ft_8_3 : zft 8 3 = .object "DepotServer$State" := Eq.trans rfl rfl
theorem ft_8_4 : zft 8 4 = .object "DepotServer$Journal" := Eq.trans rfl rfl
theorem df_8 : zdf 8 5 = [.null, .null, .null, .null, .null] := Eq.trans rfl rfl
theorem ft_9_0 : zft 9 0 = .int := Eq.trans rfl rfl
theorem ft_9_1 : zft 9 1 = .array (.char) := Eq.trans rfl rfl
theorem ft_9_2 : zft 9 2 = .int := Eq.trans rfl rfl
theorem ft_9_3 : zft 9 3 = .array (.char) := Eq.trans rfl rfl
theorem ft_9_4 : zft 9 4 = .array (.int) := Eq.trans rfl rfl
theorem ft_9_5 : zft 9 5 = .int := Eq.trans rfl rfl
theorem ft_9_6 : zft 9 6 = .array (.char) := Eq.trans rfl rfl
theorem ft_9_7 : zft 9 7 = .array (.char) := Eq.trans rfl rfl
theorem ft_9_8 : zft 9 8 = .array (.int) := Eq.trans rfl rfl
theorem ft_9_9 : zft 9 9 = .array (.int) := Eq.trans rfl rfl
theorem ft_9_10 : zft 9 10 = .boolean := Eq.trans rfl rfl
theorem ft_9_11 : zft 9 11 = .array (.char) := Eq.trans rfl rfl
theorem ft_9_12 : zft 9 12 = .array (.int) := Eq.trans rfl rfl
theorem ft_9_13 : zft 9 13 = .array (.boolean) := Eq.trans rfl rfl
theorem ft_9_14 : zft 9 14 = .array (.int) := Eq.trans rfl rfl
theorem ft_9_15 : zft 9 15 = .array (.int) := Eq.trans rfl rfl
theorem ft_9_16 : zft 9 16 = .int := Eq.trans rfl rfl
theorem ft_9_17 : zft 9 17 = .int := Eq.trans rfl rfl
theorem ft_9_18 : zft 9 18 = .array (.int) := Eq.trans rfl rfl
theorem ft_9_19 : zft 9 19 = .array (.int) := Eq.trans rfl rfl
theorem ft_9_20 : zft 9 20 = .array (.int) := Eq.trans rfl rfl
theorem ft_9_21 : zft 9 21 = .array (.int) := Eq.trans rfl rfl
theorem ft_9_22 : zft 9 22 = .array (.int) := Eq.trans rfl rfl
theorem ft_9_23 : zft 9 23 = .array (.int) := Eq.trans rfl rfl
theorem ft_9_24 : zft 9 24 = .int := Eq.trans rfl rfl
theorem ft_9_25 : zft 9 25 = .array (.int) := Eq.trans rfl rfl
theorem ft_9_26 : zft 9 26 = .array (.int) := Eq.trans rfl rfl
theorem ft_9_27 : zft 9 27 = .array (.int) := Eq.trans rfl rfl
theorem ft_9_28 : zft 9 28 = .array (.boolean) := Eq.trans rfl rfl
theorem ft_9_29 : zft 9 29 = .array (.boolean) := Eq.trans rfl rfl
theorem ft_9_30 : zft 9 30 = .int := Eq.trans rfl rfl
theorem ft_9_31 : zft 9 31 = .int := Eq.trans rfl rfl
theorem ft_9_32 : zft 9 32 = .array (.int) := Eq.trans rfl rfl
theorem ft_9_33 : zft 9 33 = .array (.int) := Eq.trans rfl rfl
theorem ft_9_34 : zft 9 34 = .array (.int) := Eq.trans rfl rfl
theorem ft_9_35 : zft 9 35 = .array (.int) := Eq.trans rfl rfl
theorem ft_9_36 : zft 9 36 = .array (.int) := Eq.trans rfl rfl
theorem ft_9_37 : zft 9 37 = .array (.int) := Eq.trans rfl rfl
theorem ft_9_38 : zft 9 38 = .array (.boolean) := Eq.trans rfl rfl
theorem ft_9_39 : zft 9 39 = .array (.int) := Eq.trans rfl rfl
theorem ft_9_40 : zft 9 40 = .array (.int) := Eq.trans rfl rfl
theorem ft_9_41 : zft 9 41 = .array (.int) := Eq.trans rfl rfl
theorem ft_9_42 : zft 9 42 = .array (.int) := Eq.trans rfl rfl
theorem ft_9_43 : zft 9 43 = .array (.int) := Eq.trans rfl rfl
theorem ft_9_44 : zft 9 44 = .array (.boolean) := Eq.trans rfl rfl
theorem df_9 : zdf 9 45 = [.int (nI 0), .null, .int (nI 0), .null, .null, .int (nI 0), .null, .null, .null, .null, .int (nI 0), .null, .null, .null, .null, .null, .int (nI 0), .int (nI 0), .null, .null, .null, .null, .null, .null, .int (nI 0), .null, .null, .null, .null, .null, .int (nI 0), .int (nI 0), .null, .null, .null, .null, .null, .null, .null, .null, .null, .null, .null, .null, .null] := Eq.trans rfl rfl
theorem zi_D_init (av : List Value) : zin mD_init av = av.map some ++ List.replicate (1 - av.length) none := Eq.trans rfl rfl
theorem zi_D_write (av : List Value) : zin mD_write av = av.map some ++ List.replicate (2 - av.length) none := Eq.trans rfl rfl
theorem zi_D_file (av : List Value) : zin mD_file av = av.map some ++ List.replicate (2 - av.length) none := Eq.trans rfl rfl
theorem zi_D_line (av : List Value) : zin mD_line av = av.map some ++ List.replicate (2 - av.length) none := Eq.trans rfl rfl
theorem zi_D_view (av : List Value) : zin mD_view av = av.map some ++ List.replicate (4 - av.length) none := Eq.trans rfl rfl
theorem zi_D_mapped (av : List Value) : zin mD_mapped av = av.map some ++ List.replicate (3 - av.length) none := Eq.trans rfl rfl
theorem zi_D_place (av : List Value) : zin mD_place av = av.map some ++ List.replicate (5 - av.length) none := Eq.trans rfl rfl
theorem zi_D_where (av : List Value) : zin mD_where av = av.map some ++ List.replicate (3 - av.length) none := Eq.trans rfl rfl
theorem zi_D_add (av : List Value) : zin mD_add av = av.map some ++ List.replicate (6 - av.length) none := Eq.trans rfl rfl
theorem zi_D_edit (av : List Value) : zin mD_edit av = av.map some ++ List.replicate (4 - av.length) none := Eq.trans rfl rfl
theorem zi_D_remove (av : List Value) : zin mD_remove av = av.map some ++ List.replicate (4 - av.length) none := Eq.trans rfl rfl
theorem zi_D_store (av : List Value) : zin mD_store av = av.map some ++ List.replicate (5 - av.length) none := Eq.trans rfl rfl
theorem zi_D_reopen (av : List Value) : zin mD_reopen av = av.map some ++ List.replicate (4 - av.length) none := Eq.trans rfl rfl
theorem zi_D_revert (av : List Value) : zin mD_revert av = av.map some ++ List.replicate (4 - av.length) none := Eq.trans rfl rfl
theorem zi_D_sync (av : List Value) : zin mD_sync av = av.map some ++ List.replicate (6 - av.length) none := Eq.trans rfl rfl
theorem zi_D_join (av : List Value) : zin mD_join av = av.map some ++ List.replicate (8 - av.length) none := Eq.trans rfl rfl
theorem zi_D_resolve (av : List Value) : zin mD_resolve av = av.map some ++ List.replicate (7 - av.length) none := Eq.trans rfl rfl
theorem zi_D_submit (av : List Value) : zin mD_submit av = av.map some ++ List.replicate (6 - av.length) none := Eq.trans rfl rfl
theorem zi_D_crash (av : List Value) : zin mD_crash av = av.map some ++ List.replicate (2 - av.length) none := Eq.trans rfl rfl
theorem zi_D_journal (av : List Value) : zin mD_journal av = av.map some ++ List.replicate (1 - av.length) none := Eq.trans rfl rfl
theorem zi_D_changes (av : List Value) : zin mD_changes av = av.map some ++ List.replicate (1 - av.length) none := Eq.trans rfl rfl
theorem zi_D_joins (av : List Value) : zin mD_joins av = av.map some ++ List.replicate (1 - av.length) none := Eq.trans rfl rfl
theorem zi_D_head (av : List Value) : zin mD_head av = av.map some ++ List.replicate (2 - av.length) none := Eq.trans rfl rfl
theorem zi_D_revision (av : List Value) : zin mD_revision av = av.map some ++ List.replicate (5 - av.length) none := Eq.trans rfl rfl
theorem zi_D_have (av : List Value) : zin mD_have av = av.map some ++ List.replicate (3 - av.length) none := Eq.trans rfl rfl
theorem zi_D_text (av : List Value) : zin mD_text av = av.map some ++ List.replicate (3 - av.length) none := Eq.trans rfl rfl
theorem zi_D_opened (av : List Value) : zin mD_opened av = av.map some ++ List.replicate (4 - av.length) none := Eq.trans rfl rfl
theorem zi_D_joined (av : List Value) : zin mD_joined av = av.map some ++ List.replicate (3 - av.length) none := Eq.trans rfl rfl
theorem zi_D_isClient (av : List Value) : zin mD_isClient av = av.map some ++ List.replicate (1 - av.length) none := Eq.trans rfl rfl
theorem zi_D_isList (av : List Value) : zin mD_isList av = av.map some ++ List.replicate (1 - av.length) none := Eq.trans rfl rfl
theorem zi_D_isFile (av : List Value) : zin mD_isFile av = av.map some ++ List.replicate (2 - av.length) none := Eq.trans rfl rfl
theorem zi_D_isMapped (av : List Value) : zin mD_isMapped av = av.map some ++ List.replicate (3 - av.length) none := Eq.trans rfl rfl
theorem zi_D_isOpenAt (av : List Value) : zin mD_isOpenAt av = av.map some ++ List.replicate (3 - av.length) none := Eq.trans rfl rfl
theorem zi_D_isGone (av : List Value) : zin mD_isGone av = av.map some ++ List.replicate (2 - av.length) none := Eq.trans rfl rfl
theorem zi_D_isHindered (av : List Value) : zin mD_isHindered av = av.map some ++ List.replicate (6 - av.length) none := Eq.trans rfl rfl
theorem zi_D_contentOf (av : List Value) : zin mD_contentOf av = av.map some ++ List.replicate (4 - av.length) none := Eq.trans rfl rfl
theorem zi_D_fileAt (av : List Value) : zin mD_fileAt av = av.map some ++ List.replicate (3 - av.length) none := Eq.trans rfl rfl
theorem zi_D_refusalToJoin (av : List Value) : zin mD_refusalToJoin av = av.map some ++ List.replicate (7 - av.length) none := Eq.trans rfl rfl
theorem zi_D_refusalToSubmit (av : List Value) : zin mD_refusalToSubmit av = av.map some ++ List.replicate (8 - av.length) none := Eq.trans rfl rfl
theorem zi_D_isOutdated (av : List Value) : zin mD_isOutdated av = av.map some ++ List.replicate (3 - av.length) none := Eq.trans rfl rfl
theorem zi_D_openHeldFor (av : List Value) : zin mD_openHeldFor av = av.map some ++ List.replicate (6 - av.length) none := Eq.trans rfl rfl
theorem zi_D_wanted (av : List Value) : zin mD_wanted av = av.map some ++ List.replicate (4 - av.length) none := Eq.trans rfl rfl
theorem zi_D_bring (av : List Value) : zin mD_bring av = av.map some ++ List.replicate (4 - av.length) none := Eq.trans rfl rfl
theorem zi_D_theirContent (av : List Value) : zin mD_theirContent av = av.map some ++ List.replicate (3 - av.length) none := Eq.trans rfl rfl
theorem zi_D_mergeBase (av : List Value) : zin mD_mergeBase av = av.map some ++ List.replicate (3 - av.length) none := Eq.trans rfl rfl
theorem zi_D_clash (av : List Value) : zin mD_clash av = av.map some ++ List.replicate (7 - av.length) none := Eq.trans rfl rfl
theorem zi_D_merged (av : List Value) : zin mD_merged av = av.map some ++ List.replicate (7 - av.length) none := Eq.trans rfl rfl
theorem zi_D_submitFile (av : List Value) : zin mD_submitFile av = av.map some ++ List.replicate (7 - av.length) none := Eq.trans rfl rfl
theorem zi_M_init (av : List Value) : zin mM_init av = av.map some ++ List.replicate (1 - av.length) none := Eq.trans rfl rfl
theorem zi_M_isClient (av : List Value) : zin mM_isClient av = av.map some ++ List.replicate (1 - av.length) none := Eq.trans rfl rfl
theorem zi_M_isFile (av : List Value) : zin mM_isFile av = av.map some ++ List.replicate (2 - av.length) none := Eq.trans rfl rfl
theorem zi_M_isList (av : List Value) : zin mM_isList av = av.map some ++ List.replicate (1 - av.length) none := Eq.trans rfl rfl
theorem zi_M_both (av : List Value) : zin mM_both av = av.map some ++ List.replicate (3 - av.length) none := Eq.trans rfl rfl
theorem zi_M_write (av : List Value) : zin mM_write av = av.map some ++ List.replicate (2 - av.length) none := Eq.trans rfl rfl
theorem zi_M_letter (av : List Value) : zin mM_letter av = av.map some ++ List.replicate (1 - av.length) none := Eq.trans rfl rfl
theorem zi_M_isPath (av : List Value) : zin mM_isPath av = av.map some ++ List.replicate (3 - av.length) none := Eq.trans rfl rfl
theorem zi_M_isPathOf (av : List Value) : zin mM_isPathOf av = av.map some ++ List.replicate (4 - av.length) none := Eq.trans rfl rfl
theorem zi_M_file (av : List Value) : zin mM_file av = av.map some ++ List.replicate (4 - av.length) none := Eq.trans rfl rfl
theorem zi_M_wild (av : List Value) : zin mM_wild av = av.map some ++ List.replicate (1 - av.length) none := Eq.trans rfl rfl
theorem zi_M_wildcards (av : List Value) : zin mM_wildcards av = av.map some ++ List.replicate (6 - av.length) none := Eq.trans rfl rfl
theorem zi_M_wildcard (av : List Value) : zin mM_wildcard av = av.map some ++ List.replicate (6 - av.length) none := Eq.trans rfl rfl
theorem zi_M_split (av : List Value) : zin mM_split av = av.map some ++ List.replicate (4 - av.length) none := Eq.trans rfl rfl
theorem zi_M_line (av : List Value) : zin mM_line av = av.map some ++ List.replicate (7 - av.length) none := Eq.trans rfl rfl
theorem zi_M_fitsWith (av : List Value) : zin mM_fitsWith av = av.map some ++ List.replicate (11 - av.length) none := Eq.trans rfl rfl
theorem zi_M_fits (av : List Value) : zin mM_fits av = av.map some ++ List.replicate (5 - av.length) none := Eq.trans rfl rfl
theorem zi_M_find (av : List Value) : zin mM_find av = av.map some ++ List.replicate (11 - av.length) none := Eq.trans rfl rfl
theorem zi_M_samePlace (av : List Value) : zin mM_samePlace av = av.map some ++ List.replicate (5 - av.length) none := Eq.trans rfl rfl
theorem zi_M_look (av : List Value) : zin mM_look av = av.map some ++ List.replicate (5 - av.length) none := Eq.trans rfl rfl
theorem zi_M_mapped (av : List Value) : zin mM_mapped av = av.map some ++ List.replicate (3 - av.length) none := Eq.trans rfl rfl
theorem zi_M_place (av : List Value) : zin mM_place av = av.map some ++ List.replicate (5 - av.length) none := Eq.trans rfl rfl
theorem zi_M_where (av : List Value) : zin mM_where av = av.map some ++ List.replicate (7 - av.length) none := Eq.trans rfl rfl
theorem zi_M_head (av : List Value) : zin mM_head av = av.map some ++ List.replicate (4 - av.length) none := Eq.trans rfl rfl
theorem zi_M_row (av : List Value) : zin mM_row av = av.map some ++ List.replicate (5 - av.length) none := Eq.trans rfl rfl
theorem zi_M_content (av : List Value) : zin mM_content av = av.map some ++ List.replicate (4 - av.length) none := Eq.trans rfl rfl
theorem zi_M_gone (av : List Value) : zin mM_gone av = av.map some ++ List.replicate (3 - av.length) none := Eq.trans rfl rfl
theorem zi_M_exclusive (av : List Value) : zin mM_exclusive av = av.map some ++ List.replicate (3 - av.length) none := Eq.trans rfl rfl
theorem zi_M_revision (av : List Value) : zin mM_revision av = av.map some ++ List.replicate (6 - av.length) none := Eq.trans rfl rfl
theorem zi_M_hindered (av : List Value) : zin mM_hindered av = av.map some ++ List.replicate (7 - av.length) none := Eq.trans rfl rfl
theorem zi_M_note (av : List Value) : zin mM_note av = av.map some ++ List.replicate (6 - av.length) none := Eq.trans rfl rfl
theorem zi_M_again (av : List Value) : zin mM_again av = av.map some ++ List.replicate (4 - av.length) none := Eq.trans rfl rfl
theorem zi_M_crash (av : List Value) : zin mM_crash av = av.map some ++ List.replicate (3 - av.length) none := Eq.trans rfl rfl
theorem zi_M_empty (av : List Value) : zin mM_empty av = av.map some ++ List.replicate (2 - av.length) none := Eq.trans rfl rfl
theorem zi_M_forget (av : List Value) : zin mM_forget av = av.map some ++ List.replicate (2 - av.length) none := Eq.trans rfl rfl
theorem zi_M_journal (av : List Value) : zin mM_journal av = av.map some ++ List.replicate (1 - av.length) none := Eq.trans rfl rfl
theorem zi_M_set (av : List Value) : zin mM_set av = av.map some ++ List.replicate (4 - av.length) none := Eq.trans rfl rfl
theorem zi_M_view (av : List Value) : zin mM_view av = av.map some ++ List.replicate (4 - av.length) none := Eq.trans rfl rfl
theorem zi_M_opn (av : List Value) : zin mM_opn av = av.map some ++ List.replicate (5 - av.length) none := Eq.trans rfl rfl
theorem zi_M_add (av : List Value) : zin mM_add av = av.map some ++ List.replicate (6 - av.length) none := Eq.trans rfl rfl
theorem zi_M_begin (av : List Value) : zin mM_begin av = av.map some ++ List.replicate (6 - av.length) none := Eq.trans rfl rfl
theorem zi_M_edit (av : List Value) : zin mM_edit av = av.map some ++ List.replicate (4 - av.length) none := Eq.trans rfl rfl
theorem zi_M_remove (av : List Value) : zin mM_remove av = av.map some ++ List.replicate (4 - av.length) none := Eq.trans rfl rfl
theorem zi_M_isOpen (av : List Value) : zin mM_isOpen av = av.map some ++ List.replicate (3 - av.length) none := Eq.trans rfl rfl
theorem zi_M_store (av : List Value) : zin mM_store av = av.map some ++ List.replicate (4 - av.length) none := Eq.trans rfl rfl
theorem zi_M_reopen (av : List Value) : zin mM_reopen av = av.map some ++ List.replicate (4 - av.length) none := Eq.trans rfl rfl
theorem zi_M_close (av : List Value) : zin mM_close av = av.map some ++ List.replicate (3 - av.length) none := Eq.trans rfl rfl
theorem zi_M_revert (av : List Value) : zin mM_revert av = av.map some ++ List.replicate (3 - av.length) none := Eq.trans rfl rfl
theorem zi_M_wanted (av : List Value) : zin mM_wanted av = av.map some ++ List.replicate (8 - av.length) none := Eq.trans rfl rfl
theorem zi_M_bring (av : List Value) : zin mM_bring av = av.map some ++ List.replicate (7 - av.length) none := Eq.trans rfl rfl
theorem zi_M_sync (av : List Value) : zin mM_sync av = av.map some ++ List.replicate (3 - av.length) none := Eq.trans rfl rfl
theorem zi_M_joining (av : List Value) : zin mM_joining av = av.map some ++ List.replicate (8 - av.length) none := Eq.trans rfl rfl
theorem zi_M_join (av : List Value) : zin mM_join av = av.map some ++ List.replicate (9 - av.length) none := Eq.trans rfl rfl
theorem zi_M_digit (av : List Value) : zin mM_digit av = av.map some ++ List.replicate (7 - av.length) none := Eq.trans rfl rfl
theorem zi_M_clashes (av : List Value) : zin mM_clashes av = av.map some ++ List.replicate (5 - av.length) none := Eq.trans rfl rfl
theorem zi_M_merged (av : List Value) : zin mM_merged av = av.map some ++ List.replicate (5 - av.length) none := Eq.trans rfl rfl
theorem zi_M_theirs (av : List Value) : zin mM_theirs av = av.map some ++ List.replicate (3 - av.length) none := Eq.trans rfl rfl
theorem zi_M_old (av : List Value) : zin mM_old av = av.map some ++ List.replicate (4 - av.length) none := Eq.trans rfl rfl
theorem zi_M_settle (av : List Value) : zin mM_settle av = av.map some ++ List.replicate (6 - av.length) none := Eq.trans rfl rfl
theorem zi_M_resolve (av : List Value) : zin mM_resolve av = av.map some ++ List.replicate (7 - av.length) none := Eq.trans rfl rfl
theorem zi_M_change (av : List Value) : zin mM_change av = av.map some ++ List.replicate (5 - av.length) none := Eq.trans rfl rfl
theorem zi_M_enter (av : List Value) : zin mM_enter av = av.map some ++ List.replicate (8 - av.length) none := Eq.trans rfl rfl
theorem zi_M_submit (av : List Value) : zin mM_submit av = av.map some ++ List.replicate (8 - av.length) none := Eq.trans rfl rfl
theorem zi_M_changes (av : List Value) : zin mM_changes av = av.map some ++ List.replicate (1 - av.length) none := Eq.trans rfl rfl
theorem zi_M_joins (av : List Value) : zin mM_joins av = av.map some ++ List.replicate (1 - av.length) none := Eq.trans rfl rfl
theorem zi_M_have (av : List Value) : zin mM_have av = av.map some ++ List.replicate (3 - av.length) none := Eq.trans rfl rfl
theorem zi_M_text (av : List Value) : zin mM_text av = av.map some ++ List.replicate (3 - av.length) none := Eq.trans rfl rfl
theorem zi_M_opened (av : List Value) : zin mM_opened av = av.map some ++ List.replicate (5 - av.length) none := Eq.trans rfl rfl
theorem zi_M_joined (av : List Value) : zin mM_joined av = av.map some ++ List.replicate (3 - av.length) none := Eq.trans rfl rfl
theorem zi_Cat_init (av : List Value) : zin mCat_init av = av.map some ++ List.replicate (2 - av.length) none := Eq.trans rfl rfl
theorem zi_Cat_isPathCharacter (av : List Value) : zin mCat_isPathCharacter av = av.map some ++ List.replicate (1 - av.length) none := Eq.trans rfl rfl
theorem zi_Cat_hasLine (av : List Value) : zin mCat_hasLine av = av.map some ++ List.replicate (2 - av.length) none := Eq.trans rfl rfl
theorem zi_Cat_fileFor (av : List Value) : zin mCat_fileFor av = av.map some ++ List.replicate (3 - av.length) none := Eq.trans rfl rfl
theorem zi_Cat_newLine (av : List Value) : zin mCat_newLine av = av.map some ++ List.replicate (2 - av.length) none := Eq.trans rfl rfl
theorem zi_Cat_isPath (av : List Value) : zin mCat_isPath av = av.map some ++ List.replicate (4 - av.length) none := Eq.trans rfl rfl
theorem zi_Jou_init (av : List Value) : zin mJou_init av = av.map some ++ List.replicate (2 - av.length) none := Eq.trans rfl rfl
theorem zi_Jou_note (av : List Value) : zin mJou_note av = av.map some ++ List.replicate (2 - av.length) none := Eq.trans rfl rfl
theorem zi_Jou_lose (av : List Value) : zin mJou_lose av = av.map some ++ List.replicate (3 - av.length) none := Eq.trans rfl rfl
theorem zi_Line_init (av : List Value) : zin mLine_init av = av.map some ++ List.replicate (1 - av.length) none := Eq.trans rfl rfl
theorem zi_Line_isWildcard (av : List Value) : zin mLine_isWildcard av = av.map some ++ List.replicate (1 - av.length) none := Eq.trans rfl rfl
theorem zi_Line_isLine (av : List Value) : zin mLine_isLine av = av.map some ++ List.replicate (3 - av.length) none := Eq.trans rfl rfl
theorem zi_Line_fill (av : List Value) : zin mLine_fill av = av.map some ++ List.replicate (3 - av.length) none := Eq.trans rfl rfl
theorem zi_Line_middleOf (av : List Value) : zin mLine_middleOf av = av.map some ++ List.replicate (2 - av.length) none := Eq.trans rfl rfl
theorem zi_Line_isSide (av : List Value) : zin mLine_isSide av = av.map some ++ List.replicate (6 - av.length) none := Eq.trans rfl rfl
theorem zi_Line_haveSameWildcards (av : List Value) : zin mLine_haveSameWildcards av = av.map some ++ List.replicate (5 - av.length) none := Eq.trans rfl rfl
theorem zi_Line_wildcardOf (av : List Value) : zin mLine_wildcardOf av = av.map some ++ List.replicate (6 - av.length) none := Eq.trans rfl rfl
theorem zi_Pl_init (av : List Value) : zin mPl_init av = av.map some ++ List.replicate (2 - av.length) none := Eq.trans rfl rfl
theorem zi_Pl_layAll (av : List Value) : zin mPl_layAll av = av.map some ++ List.replicate (5 - av.length) none := Eq.trans rfl rfl
theorem zi_Pl_layOne (av : List Value) : zin mPl_layOne av = av.map some ++ List.replicate (8 - av.length) none := Eq.trans rfl rfl
theorem zi_Pl_isFirst (av : List Value) : zin mPl_isFirst av = av.map some ++ List.replicate (3 - av.length) none := Eq.trans rfl rfl
theorem zi_Pl_fits (av : List Value) : zin mPl_fits av = av.map some ++ List.replicate (9 - av.length) none := Eq.trans rfl rfl
theorem zi_Pl_layBy (av : List Value) : zin mPl_layBy av = av.map some ++ List.replicate (7 - av.length) none := Eq.trans rfl rfl
theorem zi_Rev_init (av : List Value) : zin mRev_init av = av.map some ++ List.replicate (1 - av.length) none := Eq.trans rfl rfl
theorem zi_Rev_init2 (av : List Value) : zin mRev_init2 av = av.map some ++ List.replicate (6 - av.length) none := Eq.trans rfl rfl
theorem zi_Rev_find (av : List Value) : zin mRev_find av = av.map some ++ List.replicate (3 - av.length) none := Eq.trans rfl rfl
theorem zi_Rev_findBy (av : List Value) : zin mRev_findBy av = av.map some ++ List.replicate (3 - av.length) none := Eq.trans rfl rfl
theorem zi_Rev_tell (av : List Value) : zin mRev_tell av = av.map some ++ List.replicate (2 - av.length) none := Eq.trans rfl rfl
theorem zi_Row_init (av : List Value) : zin mRow_init av = av.map some ++ List.replicate (2 - av.length) none := Eq.trans rfl rfl
theorem zi_Row_size (av : List Value) : zin mRow_size av = av.map some ++ List.replicate (1 - av.length) none := Eq.trans rfl rfl
theorem zi_Row_at (av : List Value) : zin mRow_at av = av.map some ++ List.replicate (2 - av.length) none := Eq.trans rfl rfl
theorem zi_Row_append (av : List Value) : zin mRow_append av = av.map some ++ List.replicate (2 - av.length) none := Eq.trans rfl rfl
theorem zi_Row_clear (av : List Value) : zin mRow_clear av = av.map some ++ List.replicate (1 - av.length) none := Eq.trans rfl rfl
theorem zi_Row_appendPart (av : List Value) : zin mRow_appendPart av = av.map some ++ List.replicate (5 - av.length) none := Eq.trans rfl rfl
theorem zi_Row_same (av : List Value) : zin mRow_same av = av.map some ++ List.replicate (3 - av.length) none := Eq.trans rfl rfl
theorem zi_Sta_init (av : List Value) : zin mSta_init av = av.map some ++ List.replicate (3 - av.length) none := Eq.trans rfl rfl
theorem zi_Sta_work (av : List Value) : zin mSta_work av = av.map some ++ List.replicate (3 - av.length) none := Eq.trans rfl rfl
theorem zi_Sta_joinedUpTo (av : List Value) : zin mSta_joinedUpTo av = av.map some ++ List.replicate (3 - av.length) none := Eq.trans rfl rfl
theorem zi_Sta_raiseJoined (av : List Value) : zin mSta_raiseJoined av = av.map some ++ List.replicate (5 - av.length) none := Eq.trans rfl rfl
theorem zi_Sta_copyFrom (av : List Value) : zin mSta_copyFrom av = av.map some ++ List.replicate (3 - av.length) none := Eq.trans rfl rfl
theorem zi_Work_init (av : List Value) : zin mWork_init av = av.map some ++ List.replicate (1 - av.length) none := Eq.trans rfl rfl
theorem zi_Work_isOpen (av : List Value) : zin mWork_isOpen av = av.map some ++ List.replicate (1 - av.length) none := Eq.trans rfl rfl
theorem zi_Work_isOn (av : List Value) : zin mWork_isOn av = av.map some ++ List.replicate (2 - av.length) none := Eq.trans rfl rfl
theorem zi_Work_owes (av : List Value) : zin mWork_owes av = av.map some ++ List.replicate (1 - av.length) none := Eq.trans rfl rfl
theorem zi_Work_openForAdd (av : List Value) : zin mWork_openForAdd av = av.map some ++ List.replicate (4 - av.length) none := Eq.trans rfl rfl
theorem zi_Work_openHeld (av : List Value) : zin mWork_openHeld av = av.map some ++ List.replicate (3 - av.length) none := Eq.trans rfl rfl
theorem zi_Work_giveCredit (av : List Value) : zin mWork_giveCredit av = av.map some ++ List.replicate (4 - av.length) none := Eq.trans rfl rfl
theorem zi_Work_settle (av : List Value) : zin mWork_settle av = av.map some ++ List.replicate (2 - av.length) none := Eq.trans rfl rfl
theorem zi_Work_close (av : List Value) : zin mWork_close av = av.map some ++ List.replicate (1 - av.length) none := Eq.trans rfl rfl
theorem zi_Work_tell (av : List Value) : zin mWork_tell av = av.map some ++ List.replicate (2 - av.length) none := Eq.trans rfl rfl
theorem zi_Work_copyFrom (av : List Value) : zin mWork_copyFrom av = av.map some ++ List.replicate (2 - av.length) none := Eq.trans rfl rfl
