/-! A row of zw for each instruction that doesn't touch the heap. -/
def zLs : List (Option Value) → Nat → List (Nat × Value)
  | [], _ => []
  | none :: l, i => zLs l (i + 1)
  | some v :: l, i => (i, v) :: zLs l (i + 1)
theorem zLs_ge : ∀ {L : List (Option Value)} {j : Nat} {q : Nat × Value}, q ∈ zLs L j → j ≤ q.1 ∧ L[q.1 - j]? = some (some q.2)
  | [], j, q, h => by simp [zLs] at h
  | none :: l, j, q, h => by
    obtain ⟨h1, h2⟩ := zLs_ge (L := l) (j := j + 1) (q := q) h
    refine ⟨by omega, ?_⟩
    rw [show q.1 - j = (q.1 - (j + 1)) + 1 by omega, List.getElem?_cons_succ]
    exact h2
  | some v :: l, j, q, h => by
    rcases List.mem_cons.mp h with rfl | h
    · exact ⟨Nat.le_refl _, by simp⟩
    · obtain ⟨h1, h2⟩ := zLs_ge (L := l) (j := j + 1) (q := q) h
      refine ⟨by omega, ?_⟩
      rw [show q.1 - j = (q.1 - (j + 1)) + 1 by omega, List.getElem?_cons_succ]
      exact h2
theorem zLs_mem {L : List (Option Value)} {q : Nat × Value} (h : q ∈ zLs L 0) : L[q.1]? = some (some q.2) := (zLs_ge h).2
theorem zLs_of : ∀ {L : List (Option Value)} {j i : Nat} {v : Value}, L[i]? = some (some v) → (j + i, v) ∈ zLs L j
  | [], j, i, v, h => by simp at h
  | x :: l, j, i, v, h => by
    cases i with
    | zero =>
      rw [List.getElem?_cons_zero] at h
      cases h
      exact List.mem_cons_self
    | succ i =>
      rw [List.getElem?_cons_succ] at h
      have := zLs_of (L := l) (j := j + 1) h
      rw [show j + 1 + i = j + (i + 1) by omega] at this
      cases x with
      | none => exact this
      | some w => exact List.mem_cons_of_mem _ this
/-- a store of one slot, in a list of places -/
theorem zL_set {L : List (Option Value)} {ls' : Array Slot} {i : Nat} {v : Value} (h : lv_has ls' L.length ((i, v) :: (zLs L 0).filter (fun q => !(q.1 == i) && !(q.1 + 1 == i && q.2.category == 2)))) (hv : v.category = 1) (hc : ∀ (j : Nat) (w : Value), L[j]? = some (some w) → w.category = 1) : zL (L.set i (some v)) ls' := by
  refine ⟨by rw [List.length_set]; exact h.1, h.2.1, fun j w hj => ?_⟩
  by_cases hji : j = i
  · subst hji
    have hlt : j < L.length := by
      have := (List.getElem?_eq_some_iff.mp hj).1
      rwa [List.length_set] at this
    rw [List.getElem?_set_self hlt] at hj
    cases hj
    exact ⟨h.2.2 (j, v) List.mem_cons_self, hv⟩
  · rw [List.getElem?_set_ne (Ne.symm hji)] at hj
    have hw := hc j w hj
    refine ⟨h.2.2 (j, w) (List.mem_cons_of_mem _ (List.mem_filter.mpr ⟨by have := zLs_of (j := 0) hj; rwa [Nat.zero_add] at this, ?_⟩)), hw⟩
    simp [hji, hw]
theorem zr_iconst {me : zM} {d rc rs B pc : Nat} {L : List (Option Value)} {st : List Value} {h : zH} {Q : Option Value → zH → Prop} {n : Int} (hd : decode me.2.1 pc = .ok (.iconst n, 1)) (k : zw me d rc rs B (pc + 1) L (.int (Int32.ofInt n) :: st) h Q) : zw me d rc rs B pc L st h Q := by
  intro D cA p l e R s m args below meth c H locs cells slots ls Qf X hn hl hB hR hS hBs hc hs hk
  exact lv_iconst X.1 X.2.1 hd rfl (k D cA p l e R s m args below meth c H locs cells slots ls Qf X hn hl hB hR hS hBs hc hs hk)
theorem zr_bipush {me : zM} {d rc rs B pc : Nat} {L : List (Option Value)} {st : List Value} {h : zH} {Q : Option Value → zH → Prop} {n : Int} (hd : decode me.2.1 pc = .ok (.bipush n, 2)) (k : zw me d rc rs B (pc + 2) L (.int (Int8.ofInt n).toInt32 :: st) h Q) : zw me d rc rs B pc L st h Q := by
  intro D cA p l e R s m args below meth c H locs cells slots ls Qf X hn hl hB hR hS hBs hc hs hk
  exact lv_bipush X.1 X.2.1 hd rfl (k D cA p l e R s m args below meth c H locs cells slots ls Qf X hn hl hB hR hS hBs hc hs hk)
theorem zr_sipush {me : zM} {d rc rs B pc : Nat} {L : List (Option Value)} {st : List Value} {h : zH} {Q : Option Value → zH → Prop} {n : Int} (hd : decode me.2.1 pc = .ok (.sipush n, 3)) (k : zw me d rc rs B (pc + 3) L (.int (Int16.ofInt n).toInt32 :: st) h Q) : zw me d rc rs B pc L st h Q := by
  intro D cA p l e R s m args below meth c H locs cells slots ls Qf X hn hl hB hR hS hBs hc hs hk
  exact lv_sipush X.1 X.2.1 hd rfl (k D cA p l e R s m args below meth c H locs cells slots ls Qf X hn hl hB hR hS hBs hc hs hk)
theorem zr_null {me : zM} {d rc rs B pc : Nat} {L : List (Option Value)} {st : List Value} {h : zH} {Q : Option Value → zH → Prop} (hd : decode me.2.1 pc = .ok (.aconst_null, 1)) (k : zw me d rc rs B (pc + 1) L (.null :: st) h Q) : zw me d rc rs B pc L st h Q := by
  intro D cA p l e R s m args below meth c H locs cells slots ls Qf X hn hl hB hR hS hBs hc hs hk
  exact lv_null X.1 X.2.1 hd (k D cA p l e R s m args below meth c H locs cells slots ls Qf X hn hl hB hR hS hBs hc hs hk)
theorem zr_iload_n {me : zM} {d rc rs B pc : Nat} {L : List (Option Value)} {st : List Value} {h : zH} {Q : Option Value → zH → Prop} {i : Fin 4} {x : Int32} (hd : decode me.2.1 pc = .ok (.iload_n i, 1)) (hL : L[i.val]? = some (some (.int x))) (k : zw me d rc rs B (pc + 1) L (.int x :: st) h Q) : zw me d rc rs B pc L st h Q := by
  intro D cA p l e R s m args below meth c H locs cells slots ls Qf X hn hl hB hR hS hBs hc hs hk
  exact lv_iload_n X.1 X.2.1 hd rfl (hl.2.2 _ _ hL).1 (k D cA p l e R s m args below meth c H locs cells slots ls Qf X hn hl hB hR hS hBs hc hs hk)
theorem zr_iload {me : zM} {d rc rs B pc : Nat} {L : List (Option Value)} {st : List Value} {h : zH} {Q : Option Value → zH → Prop} {i : Nat} {x : Int32} (hd : decode me.2.1 pc = .ok (.iload i, 2)) (hL : L[i]? = some (some (.int x))) (k : zw me d rc rs B (pc + 2) L (.int x :: st) h Q) : zw me d rc rs B pc L st h Q := by
  intro D cA p l e R s m args below meth c H locs cells slots ls Qf X hn hl hB hR hS hBs hc hs hk
  exact lv_iload X.1 X.2.1 hd (hl.2.2 _ _ hL).1 (k D cA p l e R s m args below meth c H locs cells slots ls Qf X hn hl hB hR hS hBs hc hs hk)
theorem zr_aload_n {me : zM} {d rc rs B pc : Nat} {L : List (Option Value)} {st : List Value} {h : zH} {Q : Option Value → zH → Prop} {i : Fin 4} {x : Nat} (hd : decode me.2.1 pc = .ok (.aload_n i, 1)) (hL : L[i.val]? = some (some (.ref x))) (k : zw me d rc rs B (pc + 1) L (.ref x :: st) h Q) : zw me d rc rs B pc L st h Q := by
  intro D cA p l e R s m args below meth c H locs cells slots ls Qf X hn hl hB hR hS hBs hc hs hk
  exact lv_aload_n X.1 X.2.1 hd rfl (hl.2.2 _ _ hL).1 (k D cA p l e R s m args below meth c H locs cells slots ls Qf X hn hl hB hR hS hBs hc hs hk)
theorem zr_aload {me : zM} {d rc rs B pc : Nat} {L : List (Option Value)} {st : List Value} {h : zH} {Q : Option Value → zH → Prop} {i : Nat} {x : Nat} (hd : decode me.2.1 pc = .ok (.aload i, 2)) (hL : L[i]? = some (some (.ref x))) (k : zw me d rc rs B (pc + 2) L (.ref x :: st) h Q) : zw me d rc rs B pc L st h Q := by
  intro D cA p l e R s m args below meth c H locs cells slots ls Qf X hn hl hB hR hS hBs hc hs hk
  exact lv_aload X.1 X.2.1 hd (hl.2.2 _ _ hL).1 (k D cA p l e R s m args below meth c H locs cells slots ls Qf X hn hl hB hR hS hBs hc hs hk)
theorem zr_aload_nN {me : zM} {d rc rs B pc : Nat} {L : List (Option Value)} {st : List Value} {h : zH} {Q : Option Value → zH → Prop} {i : Fin 4} (hd : decode me.2.1 pc = .ok (.aload_n i, 1)) (hL : L[i.val]? = some (some .null)) (k : zw me d rc rs B (pc + 1) L (.null :: st) h Q) : zw me d rc rs B pc L st h Q := by
  intro D cA p l e R s m args below meth c H locs cells slots ls Qf X hn hl hB hR hS hBs hc hs hk
  exact lv_aload_nN X.1 X.2.1 hd rfl (hl.2.2 _ _ hL).1 (k D cA p l e R s m args below meth c H locs cells slots ls Qf X hn hl hB hR hS hBs hc hs hk)
theorem zr_aloadN {me : zM} {d rc rs B pc : Nat} {L : List (Option Value)} {st : List Value} {h : zH} {Q : Option Value → zH → Prop} {i : Nat} (hd : decode me.2.1 pc = .ok (.aload i, 2)) (hL : L[i]? = some (some .null)) (k : zw me d rc rs B (pc + 2) L (.null :: st) h Q) : zw me d rc rs B pc L st h Q := by
  intro D cA p l e R s m args below meth c H locs cells slots ls Qf X hn hl hB hR hS hBs hc hs hk
  exact lv_aloadN X.1 X.2.1 hd (hl.2.2 _ _ hL).1 (k D cA p l e R s m args below meth c H locs cells slots ls Qf X hn hl hB hR hS hBs hc hs hk)
theorem zr_istore_n {me : zM} {d rc rs B pc : Nat} {L : List (Option Value)} {st : List Value} {h : zH} {Q : Option Value → zH → Prop} {i : Fin 4} {x : Int32} (hd : decode me.2.1 pc = .ok (.istore_n i, 1)) (hi : i.val < L.length) (k : zw me d rc rs B (pc + 1) (L.set i.val (some (.int x))) st h Q) : zw me d rc rs B pc L (.int x :: st) h Q := by
  intro D cA p l e R s m args below meth c H locs cells slots ls Qf X hn hl hB hR hS hBs hc hs hk
  obtain ⟨hz, hwf, hat⟩ := hl
  refine lv_istore_n X.1 X.2.1 hd rfl (nL := L.length) (lv := zLs L 0) ⟨hz, hwf, fun q hq => (hat q.1 q.2 (zLs_mem hq)).1⟩ hi rfl fun ls' hl' => ?_
  exact k D cA p l e R s m args below meth c H locs cells slots ls' Qf X (by rw [List.length_set]; exact hn) (zL_set hl' rfl (fun j w hj => (hat j w hj).2)) hB hR hS hBs hc hs hk
theorem zr_istore {me : zM} {d rc rs B pc : Nat} {L : List (Option Value)} {st : List Value} {h : zH} {Q : Option Value → zH → Prop} {i : Nat} {x : Int32} (hd : decode me.2.1 pc = .ok (.istore i, 2)) (hi : i < L.length) (k : zw me d rc rs B (pc + 2) (L.set i (some (.int x))) st h Q) : zw me d rc rs B pc L (.int x :: st) h Q := by
  intro D cA p l e R s m args below meth c H locs cells slots ls Qf X hn hl hB hR hS hBs hc hs hk
  obtain ⟨hz, hwf, hat⟩ := hl
  refine lv_istore X.1 X.2.1 hd (nL := L.length) (lv := zLs L 0) ⟨hz, hwf, fun q hq => (hat q.1 q.2 (zLs_mem hq)).1⟩ hi rfl fun ls' hl' => ?_
  exact k D cA p l e R s m args below meth c H locs cells slots ls' Qf X (by rw [List.length_set]; exact hn) (zL_set hl' rfl (fun j w hj => (hat j w hj).2)) hB hR hS hBs hc hs hk
theorem zr_astore_n {me : zM} {d rc rs B pc : Nat} {L : List (Option Value)} {st : List Value} {h : zH} {Q : Option Value → zH → Prop} {i : Fin 4} {x : Nat} (hd : decode me.2.1 pc = .ok (.astore_n i, 1)) (hi : i.val < L.length) (k : zw me d rc rs B (pc + 1) (L.set i.val (some (.ref x))) st h Q) : zw me d rc rs B pc L (.ref x :: st) h Q := by
  intro D cA p l e R s m args below meth c H locs cells slots ls Qf X hn hl hB hR hS hBs hc hs hk
  obtain ⟨hz, hwf, hat⟩ := hl
  refine lv_astore_n X.1 X.2.1 hd rfl (nL := L.length) (lv := zLs L 0) ⟨hz, hwf, fun q hq => (hat q.1 q.2 (zLs_mem hq)).1⟩ hi rfl fun ls' hl' => ?_
  exact k D cA p l e R s m args below meth c H locs cells slots ls' Qf X (by rw [List.length_set]; exact hn) (zL_set hl' rfl (fun j w hj => (hat j w hj).2)) hB hR hS hBs hc hs hk
theorem zr_astore {me : zM} {d rc rs B pc : Nat} {L : List (Option Value)} {st : List Value} {h : zH} {Q : Option Value → zH → Prop} {i : Nat} {x : Nat} (hd : decode me.2.1 pc = .ok (.astore i, 2)) (hi : i < L.length) (k : zw me d rc rs B (pc + 2) (L.set i (some (.ref x))) st h Q) : zw me d rc rs B pc L (.ref x :: st) h Q := by
  intro D cA p l e R s m args below meth c H locs cells slots ls Qf X hn hl hB hR hS hBs hc hs hk
  obtain ⟨hz, hwf, hat⟩ := hl
  refine lv_astore X.1 X.2.1 hd (nL := L.length) (lv := zLs L 0) ⟨hz, hwf, fun q hq => (hat q.1 q.2 (zLs_mem hq)).1⟩ hi rfl fun ls' hl' => ?_
  exact k D cA p l e R s m args below meth c H locs cells slots ls' Qf X (by rw [List.length_set]; exact hn) (zL_set hl' rfl (fun j w hj => (hat j w hj).2)) hB hR hS hBs hc hs hk
theorem zr_astore_nN {me : zM} {d rc rs B pc : Nat} {L : List (Option Value)} {st : List Value} {h : zH} {Q : Option Value → zH → Prop} {i : Fin 4} (hd : decode me.2.1 pc = .ok (.astore_n i, 1)) (hi : i.val < L.length) (k : zw me d rc rs B (pc + 1) (L.set i.val (some (.null))) st h Q) : zw me d rc rs B pc L (.null :: st) h Q := by
  intro D cA p l e R s m args below meth c H locs cells slots ls Qf X hn hl hB hR hS hBs hc hs hk
  obtain ⟨hz, hwf, hat⟩ := hl
  refine lv_astore_nN X.1 X.2.1 hd rfl (nL := L.length) (lv := zLs L 0) ⟨hz, hwf, fun q hq => (hat q.1 q.2 (zLs_mem hq)).1⟩ hi rfl fun ls' hl' => ?_
  exact k D cA p l e R s m args below meth c H locs cells slots ls' Qf X (by rw [List.length_set]; exact hn) (zL_set hl' rfl (fun j w hj => (hat j w hj).2)) hB hR hS hBs hc hs hk
theorem zr_astoreN {me : zM} {d rc rs B pc : Nat} {L : List (Option Value)} {st : List Value} {h : zH} {Q : Option Value → zH → Prop} {i : Nat} (hd : decode me.2.1 pc = .ok (.astore i, 2)) (hi : i < L.length) (k : zw me d rc rs B (pc + 2) (L.set i (some (.null))) st h Q) : zw me d rc rs B pc L (.null :: st) h Q := by
  intro D cA p l e R s m args below meth c H locs cells slots ls Qf X hn hl hB hR hS hBs hc hs hk
  obtain ⟨hz, hwf, hat⟩ := hl
  refine lv_astoreN X.1 X.2.1 hd (nL := L.length) (lv := zLs L 0) ⟨hz, hwf, fun q hq => (hat q.1 q.2 (zLs_mem hq)).1⟩ hi rfl fun ls' hl' => ?_
  exact k D cA p l e R s m args below meth c H locs cells slots ls' Qf X (by rw [List.length_set]; exact hn) (zL_set hl' rfl (fun j w hj => (hat j w hj).2)) hB hR hS hBs hc hs hk
theorem zr_iinc {me : zM} {d rc rs B pc : Nat} {L : List (Option Value)} {st : List Value} {h : zH} {Q : Option Value → zH → Prop} {i : Nat} {n : Int} {x : Int32} (hd : decode me.2.1 pc = .ok (.iinc i n, 3)) (hL : L[i]? = some (some (.int x))) (k : zw me d rc rs B (pc + 3) (L.set i (some (.int (x + Int32.ofInt n)))) st h Q) : zw me d rc rs B pc L st h Q := by
  intro D cA p l e R s m args below meth c H locs cells slots ls Qf X hn hl hB hR hS hBs hc hs hk
  have hi : i < L.length := (List.getElem?_eq_some_iff.mp hL).1
  obtain ⟨hz, hwf, hat⟩ := hl
  obtain ⟨q, hq⟩ := List.getElem?_of_mem (zLs_of (j := 0) hL)
  rw [Nat.zero_add] at hq
  refine lv_iinc X.1 X.2.1 hd (nL := L.length) (lv := zLs L 0) ⟨hz, hwf, fun q hq => (hat q.1 q.2 (zLs_mem hq)).1⟩ hq rfl hi rfl fun ls' hl' => ?_
  exact k D cA p l e R s m args below meth c H locs cells slots ls' Qf X (by rw [List.length_set]; exact hn) (zL_set hl' rfl (fun j w hj => (hat j w hj).2)) hB hR hS hBs hc hs hk
theorem zr_iadd {me : zM} {d rc rs B pc : Nat} {L : List (Option Value)} {st : List Value} {h : zH} {Q : Option Value → zH → Prop} {x y : Int32} (hd : decode me.2.1 pc = .ok (.iadd, 1)) (k : zw me d rc rs B (pc + 1) L (.int (x + y) :: st) h Q) : zw me d rc rs B pc L (.int y :: .int x :: st) h Q := by
  intro D cA p l e R s m args below meth c H locs cells slots ls Qf X hn hl hB hR hS hBs hc hs hk
  exact lv_iadd X.1 X.2.1 hd (k D cA p l e R s m args below meth c H locs cells slots ls Qf X hn hl hB hR hS hBs hc hs hk)
theorem zr_isub {me : zM} {d rc rs B pc : Nat} {L : List (Option Value)} {st : List Value} {h : zH} {Q : Option Value → zH → Prop} {x y : Int32} (hd : decode me.2.1 pc = .ok (.isub, 1)) (k : zw me d rc rs B (pc + 1) L (.int (x - y) :: st) h Q) : zw me d rc rs B pc L (.int y :: .int x :: st) h Q := by
  intro D cA p l e R s m args below meth c H locs cells slots ls Qf X hn hl hB hR hS hBs hc hs hk
  exact lv_isub X.1 X.2.1 hd (k D cA p l e R s m args below meth c H locs cells slots ls Qf X hn hl hB hR hS hBs hc hs hk)
theorem zr_imul {me : zM} {d rc rs B pc : Nat} {L : List (Option Value)} {st : List Value} {h : zH} {Q : Option Value → zH → Prop} {x y : Int32} (hd : decode me.2.1 pc = .ok (.imul, 1)) (k : zw me d rc rs B (pc + 1) L (.int (x * y) :: st) h Q) : zw me d rc rs B pc L (.int y :: .int x :: st) h Q := by
  intro D cA p l e R s m args below meth c H locs cells slots ls Qf X hn hl hB hR hS hBs hc hs hk
  exact lv_imul X.1 X.2.1 hd (k D cA p l e R s m args below meth c H locs cells slots ls Qf X hn hl hB hR hS hBs hc hs hk)
theorem zr_iand {me : zM} {d rc rs B pc : Nat} {L : List (Option Value)} {st : List Value} {h : zH} {Q : Option Value → zH → Prop} {x y : Int32} (hd : decode me.2.1 pc = .ok (.iand, 1)) (k : zw me d rc rs B (pc + 1) L (.int (x &&& y) :: st) h Q) : zw me d rc rs B pc L (.int y :: .int x :: st) h Q := by
  intro D cA p l e R s m args below meth c H locs cells slots ls Qf X hn hl hB hR hS hBs hc hs hk
  exact lv_iand X.1 X.2.1 hd (k D cA p l e R s m args below meth c H locs cells slots ls Qf X hn hl hB hR hS hBs hc hs hk)
theorem zr_ior {me : zM} {d rc rs B pc : Nat} {L : List (Option Value)} {st : List Value} {h : zH} {Q : Option Value → zH → Prop} {x y : Int32} (hd : decode me.2.1 pc = .ok (.ior, 1)) (k : zw me d rc rs B (pc + 1) L (.int (x ||| y) :: st) h Q) : zw me d rc rs B pc L (.int y :: .int x :: st) h Q := by
  intro D cA p l e R s m args below meth c H locs cells slots ls Qf X hn hl hB hR hS hBs hc hs hk
  exact lv_ior X.1 X.2.1 hd (k D cA p l e R s m args below meth c H locs cells slots ls Qf X hn hl hB hR hS hBs hc hs hk)
theorem zr_ishl {me : zM} {d rc rs B pc : Nat} {L : List (Option Value)} {st : List Value} {h : zH} {Q : Option Value → zH → Prop} {x y : Int32} (hd : decode me.2.1 pc = .ok (.ishl, 1)) (k : zw me d rc rs B (pc + 1) L (.int (x <<< (y &&& 31)) :: st) h Q) : zw me d rc rs B pc L (.int y :: .int x :: st) h Q := by
  intro D cA p l e R s m args below meth c H locs cells slots ls Qf X hn hl hB hR hS hBs hc hs hk
  exact lv_ishl X.1 X.2.1 hd (k D cA p l e R s m args below meth c H locs cells slots ls Qf X hn hl hB hR hS hBs hc hs hk)
theorem zr_irem {me : zM} {d rc rs B pc : Nat} {L : List (Option Value)} {st : List Value} {h : zH} {Q : Option Value → zH → Prop} {x y : Int32} (hd : decode me.2.1 pc = .ok (.irem, 1)) (hne : ¬ y = 0) (k : zw me d rc rs B (pc + 1) L (.int (x - x / y * y) :: st) h Q) : zw me d rc rs B pc L (.int y :: .int x :: st) h Q := by
  intro D cA p l e R s m args below meth c H locs cells slots ls Qf X hn hl hB hR hS hBs hc hs hk
  exact lv_irem X.1 X.2.1 hd hne (k D cA p l e R s m args below meth c H locs cells slots ls Qf X hn hl hB hR hS hBs hc hs hk)
theorem zr_iushr {me : zM} {d rc rs B pc : Nat} {L : List (Option Value)} {st : List Value} {h : zH} {Q : Option Value → zH → Prop} {x y : Int32} (hd : decode me.2.1 pc = .ok (.iushr, 1)) (k : zw me d rc rs B (pc + 1) L (.int (x.toUInt32 >>> (y.toUInt32 &&& Int32.toUInt32 31)).toInt32 :: st) h Q) : zw me d rc rs B pc L (.int y :: .int x :: st) h Q := by
  intro D cA p l e R s m args below meth c H locs cells slots ls Qf X hn hl hB hR hS hBs hc hs hk
  exact lv_iushr X.1 X.2.1 hd rfl (k D cA p l e R s m args below meth c H locs cells slots ls Qf X hn hl hB hR hS hBs hc hs hk)
theorem zr_i2c {me : zM} {d rc rs B pc : Nat} {L : List (Option Value)} {st : List Value} {h : zH} {Q : Option Value → zH → Prop} {x : Int32} (hd : decode me.2.1 pc = .ok (.i2c, 1)) (k : zw me d rc rs B (pc + 1) L (.int (x.toUInt32 % 65536).toInt32 :: st) h Q) : zw me d rc rs B pc L (.int x :: st) h Q := by
  intro D cA p l e R s m args below meth c H locs cells slots ls Qf X hn hl hB hR hS hBs hc hs hk
  exact lv_i2c X.1 X.2.1 hd rfl (k D cA p l e R s m args below meth c H locs cells slots ls Qf X hn hl hB hR hS hBs hc hs hk)
theorem zr_dup {me : zM} {d rc rs B pc : Nat} {L : List (Option Value)} {st : List Value} {h : zH} {Q : Option Value → zH → Prop} {v : Value} (hd : decode me.2.1 pc = .ok (.dup, 1)) (hv : v.category = 1) (k : zw me d rc rs B (pc + 1) L (v :: v :: st) h Q) : zw me d rc rs B pc L (v :: st) h Q := by
  intro D cA p l e R s m args below meth c H locs cells slots ls Qf X hn hl hB hR hS hBs hc hs hk
  exact lv_dup X.1 X.2.1 hd hv (k D cA p l e R s m args below meth c H locs cells slots ls Qf X hn hl hB hR hS hBs hc hs hk)
theorem zr_pop {me : zM} {d rc rs B pc : Nat} {L : List (Option Value)} {st : List Value} {h : zH} {Q : Option Value → zH → Prop} {v : Value} (hd : decode me.2.1 pc = .ok (.pop, 1)) (hv : v.category = 1) (k : zw me d rc rs B (pc + 1) L st h Q) : zw me d rc rs B pc L (v :: st) h Q := by
  intro D cA p l e R s m args below meth c H locs cells slots ls Qf X hn hl hB hR hS hBs hc hs hk
  exact lv_pop X.1 X.2.1 hd hv (k D cA p l e R s m args below meth c H locs cells slots ls Qf X hn hl hB hR hS hBs hc hs hk)
theorem zr_if_eq {me : zM} {d rc rs B pc : Nat} {L : List (Option Value)} {st : List Value} {h : zH} {Q : Option Value → zH → Prop} {x : Int32} {off : Int} {tgt : Nat} (hd : decode me.2.1 pc = .ok (.ifCond .eq off, 3)) (ht : (pc : Int) + off = (tgt : Int)) (kt : x = 0 → zw me d rc rs B tgt L st h Q) (kf : ¬ x = 0 → zw me d rc rs B (pc + 3) L st h Q) : zw me d rc rs B pc L (.int x :: st) h Q := by
  intro D cA p l e R s m args below meth c H locs cells slots ls Qf X hn hl hB hR hS hBs hc hs hk
  exact lv_if_eq X.1 X.2.1 hd ht (fun z => kt z D cA p l e R s m args below meth c H locs cells slots ls Qf X hn hl hB hR hS hBs hc hs hk) (fun z => kf z D cA p l e R s m args below meth c H locs cells slots ls Qf X hn hl hB hR hS hBs hc hs hk)
theorem zr_icmp_eq {me : zM} {d rc rs B pc : Nat} {L : List (Option Value)} {st : List Value} {h : zH} {Q : Option Value → zH → Prop} {x y : Int32} {off : Int} {tgt : Nat} (hd : decode me.2.1 pc = .ok (.if_icmp .eq off, 3)) (ht : (pc : Int) + off = (tgt : Int)) (kt : x = y → zw me d rc rs B tgt L st h Q) (kf : ¬ x = y → zw me d rc rs B (pc + 3) L st h Q) : zw me d rc rs B pc L (.int y :: .int x :: st) h Q := by
  intro D cA p l e R s m args below meth c H locs cells slots ls Qf X hn hl hB hR hS hBs hc hs hk
  exact lv_icmp_eq X.1 X.2.1 hd ht (fun z => kt z D cA p l e R s m args below meth c H locs cells slots ls Qf X hn hl hB hR hS hBs hc hs hk) (fun z => kf z D cA p l e R s m args below meth c H locs cells slots ls Qf X hn hl hB hR hS hBs hc hs hk)
theorem zr_if_ne {me : zM} {d rc rs B pc : Nat} {L : List (Option Value)} {st : List Value} {h : zH} {Q : Option Value → zH → Prop} {x : Int32} {off : Int} {tgt : Nat} (hd : decode me.2.1 pc = .ok (.ifCond .ne off, 3)) (ht : (pc : Int) + off = (tgt : Int)) (kt : ¬ x = 0 → zw me d rc rs B tgt L st h Q) (kf : x = 0 → zw me d rc rs B (pc + 3) L st h Q) : zw me d rc rs B pc L (.int x :: st) h Q := by
  intro D cA p l e R s m args below meth c H locs cells slots ls Qf X hn hl hB hR hS hBs hc hs hk
  exact lv_if_ne X.1 X.2.1 hd ht (fun z => kt z D cA p l e R s m args below meth c H locs cells slots ls Qf X hn hl hB hR hS hBs hc hs hk) (fun z => kf z D cA p l e R s m args below meth c H locs cells slots ls Qf X hn hl hB hR hS hBs hc hs hk)
theorem zr_icmp_ne {me : zM} {d rc rs B pc : Nat} {L : List (Option Value)} {st : List Value} {h : zH} {Q : Option Value → zH → Prop} {x y : Int32} {off : Int} {tgt : Nat} (hd : decode me.2.1 pc = .ok (.if_icmp .ne off, 3)) (ht : (pc : Int) + off = (tgt : Int)) (kt : ¬ x = y → zw me d rc rs B tgt L st h Q) (kf : x = y → zw me d rc rs B (pc + 3) L st h Q) : zw me d rc rs B pc L (.int y :: .int x :: st) h Q := by
  intro D cA p l e R s m args below meth c H locs cells slots ls Qf X hn hl hB hR hS hBs hc hs hk
  exact lv_icmp_ne X.1 X.2.1 hd ht (fun z => kt z D cA p l e R s m args below meth c H locs cells slots ls Qf X hn hl hB hR hS hBs hc hs hk) (fun z => kf z D cA p l e R s m args below meth c H locs cells slots ls Qf X hn hl hB hR hS hBs hc hs hk)
theorem zr_if_lt {me : zM} {d rc rs B pc : Nat} {L : List (Option Value)} {st : List Value} {h : zH} {Q : Option Value → zH → Prop} {x : Int32} {off : Int} {tgt : Nat} (hd : decode me.2.1 pc = .ok (.ifCond .lt off, 3)) (ht : (pc : Int) + off = (tgt : Int)) (kt : x < 0 → zw me d rc rs B tgt L st h Q) (kf : ¬ x < 0 → zw me d rc rs B (pc + 3) L st h Q) : zw me d rc rs B pc L (.int x :: st) h Q := by
  intro D cA p l e R s m args below meth c H locs cells slots ls Qf X hn hl hB hR hS hBs hc hs hk
  exact lv_if_lt X.1 X.2.1 hd ht (fun z => kt z D cA p l e R s m args below meth c H locs cells slots ls Qf X hn hl hB hR hS hBs hc hs hk) (fun z => kf z D cA p l e R s m args below meth c H locs cells slots ls Qf X hn hl hB hR hS hBs hc hs hk)
theorem zr_icmp_lt {me : zM} {d rc rs B pc : Nat} {L : List (Option Value)} {st : List Value} {h : zH} {Q : Option Value → zH → Prop} {x y : Int32} {off : Int} {tgt : Nat} (hd : decode me.2.1 pc = .ok (.if_icmp .lt off, 3)) (ht : (pc : Int) + off = (tgt : Int)) (kt : x < y → zw me d rc rs B tgt L st h Q) (kf : ¬ x < y → zw me d rc rs B (pc + 3) L st h Q) : zw me d rc rs B pc L (.int y :: .int x :: st) h Q := by
  intro D cA p l e R s m args below meth c H locs cells slots ls Qf X hn hl hB hR hS hBs hc hs hk
  exact lv_icmp_lt X.1 X.2.1 hd ht (fun z => kt z D cA p l e R s m args below meth c H locs cells slots ls Qf X hn hl hB hR hS hBs hc hs hk) (fun z => kf z D cA p l e R s m args below meth c H locs cells slots ls Qf X hn hl hB hR hS hBs hc hs hk)
theorem zr_if_ge {me : zM} {d rc rs B pc : Nat} {L : List (Option Value)} {st : List Value} {h : zH} {Q : Option Value → zH → Prop} {x : Int32} {off : Int} {tgt : Nat} (hd : decode me.2.1 pc = .ok (.ifCond .ge off, 3)) (ht : (pc : Int) + off = (tgt : Int)) (kt : 0 ≤ x → zw me d rc rs B tgt L st h Q) (kf : ¬ 0 ≤ x → zw me d rc rs B (pc + 3) L st h Q) : zw me d rc rs B pc L (.int x :: st) h Q := by
  intro D cA p l e R s m args below meth c H locs cells slots ls Qf X hn hl hB hR hS hBs hc hs hk
  exact lv_if_ge X.1 X.2.1 hd ht (fun z => kt z D cA p l e R s m args below meth c H locs cells slots ls Qf X hn hl hB hR hS hBs hc hs hk) (fun z => kf z D cA p l e R s m args below meth c H locs cells slots ls Qf X hn hl hB hR hS hBs hc hs hk)
theorem zr_icmp_ge {me : zM} {d rc rs B pc : Nat} {L : List (Option Value)} {st : List Value} {h : zH} {Q : Option Value → zH → Prop} {x y : Int32} {off : Int} {tgt : Nat} (hd : decode me.2.1 pc = .ok (.if_icmp .ge off, 3)) (ht : (pc : Int) + off = (tgt : Int)) (kt : y ≤ x → zw me d rc rs B tgt L st h Q) (kf : ¬ y ≤ x → zw me d rc rs B (pc + 3) L st h Q) : zw me d rc rs B pc L (.int y :: .int x :: st) h Q := by
  intro D cA p l e R s m args below meth c H locs cells slots ls Qf X hn hl hB hR hS hBs hc hs hk
  exact lv_icmp_ge X.1 X.2.1 hd ht (fun z => kt z D cA p l e R s m args below meth c H locs cells slots ls Qf X hn hl hB hR hS hBs hc hs hk) (fun z => kf z D cA p l e R s m args below meth c H locs cells slots ls Qf X hn hl hB hR hS hBs hc hs hk)
theorem zr_if_gt {me : zM} {d rc rs B pc : Nat} {L : List (Option Value)} {st : List Value} {h : zH} {Q : Option Value → zH → Prop} {x : Int32} {off : Int} {tgt : Nat} (hd : decode me.2.1 pc = .ok (.ifCond .gt off, 3)) (ht : (pc : Int) + off = (tgt : Int)) (kt : 0 < x → zw me d rc rs B tgt L st h Q) (kf : ¬ 0 < x → zw me d rc rs B (pc + 3) L st h Q) : zw me d rc rs B pc L (.int x :: st) h Q := by
  intro D cA p l e R s m args below meth c H locs cells slots ls Qf X hn hl hB hR hS hBs hc hs hk
  exact lv_if_gt X.1 X.2.1 hd ht (fun z => kt z D cA p l e R s m args below meth c H locs cells slots ls Qf X hn hl hB hR hS hBs hc hs hk) (fun z => kf z D cA p l e R s m args below meth c H locs cells slots ls Qf X hn hl hB hR hS hBs hc hs hk)
theorem zr_icmp_gt {me : zM} {d rc rs B pc : Nat} {L : List (Option Value)} {st : List Value} {h : zH} {Q : Option Value → zH → Prop} {x y : Int32} {off : Int} {tgt : Nat} (hd : decode me.2.1 pc = .ok (.if_icmp .gt off, 3)) (ht : (pc : Int) + off = (tgt : Int)) (kt : y < x → zw me d rc rs B tgt L st h Q) (kf : ¬ y < x → zw me d rc rs B (pc + 3) L st h Q) : zw me d rc rs B pc L (.int y :: .int x :: st) h Q := by
  intro D cA p l e R s m args below meth c H locs cells slots ls Qf X hn hl hB hR hS hBs hc hs hk
  exact lv_icmp_gt X.1 X.2.1 hd ht (fun z => kt z D cA p l e R s m args below meth c H locs cells slots ls Qf X hn hl hB hR hS hBs hc hs hk) (fun z => kf z D cA p l e R s m args below meth c H locs cells slots ls Qf X hn hl hB hR hS hBs hc hs hk)
theorem zr_if_le {me : zM} {d rc rs B pc : Nat} {L : List (Option Value)} {st : List Value} {h : zH} {Q : Option Value → zH → Prop} {x : Int32} {off : Int} {tgt : Nat} (hd : decode me.2.1 pc = .ok (.ifCond .le off, 3)) (ht : (pc : Int) + off = (tgt : Int)) (kt : x ≤ 0 → zw me d rc rs B tgt L st h Q) (kf : ¬ x ≤ 0 → zw me d rc rs B (pc + 3) L st h Q) : zw me d rc rs B pc L (.int x :: st) h Q := by
  intro D cA p l e R s m args below meth c H locs cells slots ls Qf X hn hl hB hR hS hBs hc hs hk
  exact lv_if_le X.1 X.2.1 hd ht (fun z => kt z D cA p l e R s m args below meth c H locs cells slots ls Qf X hn hl hB hR hS hBs hc hs hk) (fun z => kf z D cA p l e R s m args below meth c H locs cells slots ls Qf X hn hl hB hR hS hBs hc hs hk)
theorem zr_icmp_le {me : zM} {d rc rs B pc : Nat} {L : List (Option Value)} {st : List Value} {h : zH} {Q : Option Value → zH → Prop} {x y : Int32} {off : Int} {tgt : Nat} (hd : decode me.2.1 pc = .ok (.if_icmp .le off, 3)) (ht : (pc : Int) + off = (tgt : Int)) (kt : x ≤ y → zw me d rc rs B tgt L st h Q) (kf : ¬ x ≤ y → zw me d rc rs B (pc + 3) L st h Q) : zw me d rc rs B pc L (.int y :: .int x :: st) h Q := by
  intro D cA p l e R s m args below meth c H locs cells slots ls Qf X hn hl hB hR hS hBs hc hs hk
  exact lv_icmp_le X.1 X.2.1 hd ht (fun z => kt z D cA p l e R s m args below meth c H locs cells slots ls Qf X hn hl hB hR hS hBs hc hs hk) (fun z => kf z D cA p l e R s m args below meth c H locs cells slots ls Qf X hn hl hB hR hS hBs hc hs hk)
theorem zr_goto {me : zM} {d rc rs B pc : Nat} {L : List (Option Value)} {st : List Value} {h : zH} {Q : Option Value → zH → Prop} {off : Int} {tgt : Nat} (hd : decode me.2.1 pc = .ok (.goto off, 3)) (ht : (pc : Int) + off = (tgt : Int)) (k : zw me d rc rs B tgt L st h Q) : zw me d rc rs B pc L st h Q := by
  intro D cA p l e R s m args below meth c H locs cells slots ls Qf X hn hl hB hR hS hBs hc hs hk
  exact lv_goto X.1 X.2.1 hd ht (k D cA p l e R s m args below meth c H locs cells slots ls Qf X hn hl hB hR hS hBs hc hs hk)
theorem zr_ifnonnull {me : zM} {d rc rs B pc : Nat} {L : List (Option Value)} {st : List Value} {h : zH} {Q : Option Value → zH → Prop} {x : Nat} {off : Int} {tgt : Nat} (hd : decode me.2.1 pc = .ok (.ifnonnull off, 3)) (ht : (pc : Int) + off = (tgt : Int)) (k : zw me d rc rs B tgt L st h Q) : zw me d rc rs B pc L (.ref x :: st) h Q := by
  intro D cA p l e R s m args below meth c H locs cells slots ls Qf X hn hl hB hR hS hBs hc hs hk
  exact lv_ifnonnull X.1 X.2.1 hd ht (k D cA p l e R s m args below meth c H locs cells slots ls Qf X hn hl hB hR hS hBs hc hs hk)
theorem zr_ifnonnullN {me : zM} {d rc rs B pc : Nat} {L : List (Option Value)} {st : List Value} {h : zH} {Q : Option Value → zH → Prop} {off : Int} (hd : decode me.2.1 pc = .ok (.ifnonnull off, 3)) (k : zw me d rc rs B (pc + 3) L st h Q) : zw me d rc rs B pc L (.null :: st) h Q := by
  intro D cA p l e R s m args below meth c H locs cells slots ls Qf X hn hl hB hR hS hBs hc hs hk
  exact lv_ifnonnullN X.1 X.2.1 hd (k D cA p l e R s m args below meth c H locs cells slots ls Qf X hn hl hB hR hS hBs hc hs hk)
theorem zr_ifnull {me : zM} {d rc rs B pc : Nat} {L : List (Option Value)} {st : List Value} {h : zH} {Q : Option Value → zH → Prop} {x : Nat} {off : Int} (hd : decode me.2.1 pc = .ok (.ifnull off, 3)) (k : zw me d rc rs B (pc + 3) L st h Q) : zw me d rc rs B pc L (.ref x :: st) h Q := by
  intro D cA p l e R s m args below meth c H locs cells slots ls Qf X hn hl hB hR hS hBs hc hs hk
  exact lv_ifnull X.1 X.2.1 hd (k D cA p l e R s m args below meth c H locs cells slots ls Qf X hn hl hB hR hS hBs hc hs hk)
theorem zr_ifnullN {me : zM} {d rc rs B pc : Nat} {L : List (Option Value)} {st : List Value} {h : zH} {Q : Option Value → zH → Prop} {off : Int} {tgt : Nat} (hd : decode me.2.1 pc = .ok (.ifnull off, 3)) (ht : (pc : Int) + off = (tgt : Int)) (k : zw me d rc rs B tgt L st h Q) : zw me d rc rs B pc L (.null :: st) h Q := by
  intro D cA p l e R s m args below meth c H locs cells slots ls Qf X hn hl hB hR hS hBs hc hs hk
  exact lv_ifnullN X.1 X.2.1 hd ht (k D cA p l e R s m args below meth c H locs cells slots ls Qf X hn hl hB hR hS hBs hc hs hk)
theorem zr_tableOut {me : zM} {d rc rs B pc : Nat} {L : List (Option Value)} {st : List Value} {h : zH} {Q : Option Value → zH → Prop} {dflt lo hi : Int} {offs : Array Int} {len : Nat} {x : Int32} {tgt : Nat} (hd : decode me.2.1 pc = .ok (.tableswitch dflt lo hi offs, len)) (hx : x.toInt < lo ∨ hi < x.toInt) (ht : (pc : Int) + dflt = (tgt : Int)) (k : zw me d rc rs B tgt L st h Q) : zw me d rc rs B pc L (.int x :: st) h Q := by
  intro D cA p l e R s m args below meth c H locs cells slots ls Qf X hn hl hB hR hS hBs hc hs hk
  exact lv_tableOut X.1 X.2.1 hd hx ht (k D cA p l e R s m args below meth c H locs cells slots ls Qf X hn hl hB hR hS hBs hc hs hk)
theorem zr_tableIn {me : zM} {d rc rs B pc : Nat} {L : List (Option Value)} {st : List Value} {h : zH} {Q : Option Value → zH → Prop} {dflt lo hi : Int} {offs : Array Int} {len : Nat} {x : Int32} {off : Int} {tgt : Nat} (hd : decode me.2.1 pc = .ok (.tableswitch dflt lo hi offs, len)) (h1 : ¬ x.toInt < lo) (h2 : ¬ hi < x.toInt) (ho : offs[(x.toInt - lo).toNat]? = some off) (ht : (pc : Int) + off = (tgt : Int)) (k : zw me d rc rs B tgt L st h Q) : zw me d rc rs B pc L (.int x :: st) h Q := by
  intro D cA p l e R s m args below meth c H locs cells slots ls Qf X hn hl hB hR hS hBs hc hs hk
  exact lv_tableIn X.1 X.2.1 hd h1 h2 ho ht (k D cA p l e R s m args below meth c H locs cells slots ls Qf X hn hl hB hR hS hBs hc hs hk)
theorem zr_vret {me : zM} {d rc rs B pc : Nat} {L : List (Option Value)} {st : List Value} {h : zH} {Q : Option Value → zH → Prop} (hd : decode me.2.1 pc = .ok (.return_, 1)) (hr : me.2.2.2.1 = none) (hQ : Q none h) : zw me d rc rs B pc L [] h Q := by
  intro D cA p l e R s m args below meth c H locs cells slots ls Qf X hn hl hB hR hS hBs hc hs hk
  exact hk none h H locs cells slots pc ls hQ hB hR hS (by omega) (by omega) (Or.inl ⟨rfl, hr, hd⟩)
theorem zr_iret {me : zM} {d rc rs B pc : Nat} {L : List (Option Value)} {st : List Value} {h : zH} {Q : Option Value → zH → Prop} {v : Int32} {ty : FieldType} (hd : decode me.2.1 pc = .ok (.ireturn, 1)) (hr : me.2.2.2.1 = some ty) (hv : narrow ty (.int v) = .int v) (hQ : Q (some (.int v)) h) : zw me d rc rs B pc L [.int v] h Q := by
  intro D cA p l e R s m args below meth c H locs cells slots ls Qf X hn hl hB hR hS hBs hc hs hk
  exact hk (some (.int v)) h H locs cells slots pc ls hQ hB hR hS (by omega) (by omega) (Or.inr (Or.inl ⟨v, ty, rfl, hr, hv, hd⟩))
theorem zr_aret {me : zM} {d rc rs B pc : Nat} {L : List (Option Value)} {st : List Value} {h : zH} {Q : Option Value → zH → Prop} {v : Value} {C : String} (hd : decode me.2.1 pc = .ok (.areturn, 1)) (hr : me.2.2.2.1 = some (.object C)) (hv : v = .null ∨ ∃ a, v = .ref a) (hQ : Q (some v) h) : zw me d rc rs B pc L [v] h Q := by
  intro D cA p l e R s m args below meth c H locs cells slots ls Qf X hn hl hB hR hS hBs hc hs hk
  exact hk (some v) h H locs cells slots pc ls hQ hB hR hS (by omega) (by omega) (Or.inr (Or.inr ⟨v, C, rfl, hr, hv, hd⟩))
