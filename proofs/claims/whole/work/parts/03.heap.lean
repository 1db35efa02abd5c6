/-! The pure heap: a function of the address, and the size. Array of ints (type number, length, contents), array of references, object (class number, fields). -/
abbrev zE : Type := (Nat × Nat × (Nat → Int32)) ⊕ (Nat × Nat × (Nat → Option Nat)) ⊕ (Nat × List Value)
abbrev zH : Type := Nat × (Nat → Option zE)
abbrev zI (t n : Nat) (f : Nat → Int32) : zE := .inl (t, n, f)
abbrev zQ (t n : Nat) (f : Nat → Option Nat) : zE := .inr (.inl (t, n, f))
abbrev zO (c : Nat) (fs : List Value) : zE := .inr (.inr (c, fs))
def zset (h : zH) (a : Nat) (e : zE) : zH := (h.1, va_up h.2 a (some e))
def znew (h : zH) (e : zE) : zH := (h.1 + 1, va_up h.2 h.1 (some e))
/-- a method: name, code, how many places it has, what it returns; of the law the script too: its address, length, numbers -/
abbrev zM : Type := MethodName × ByteArray × Nat × Option FieldType × Option (Nat × Nat × (Nat → Int32))
def ztys (cA : Nat → ClassId) : List (ClassId × FieldType) := zTy.zipIdx.map (fun q => (cA q.2, q.1))
theorem ztys_at {cA : Nat → ClassId} {t : Nat} {ty : FieldType} (h : zTy[t]? = some ty) : (ztys cA)[t]? = some (cA t, ty) := by
  simp [ztys, List.getElem?_map, List.getElem?_zipIdx, h]
def ztoE (cA : Nat → ClassId) (e : zE) : va_E := match e with
  | .inl (t, n, f) => .inl (cA t, (n, .inl f))
  | .inr (.inl (t, n, f)) => .inl (cA t, (n, .inr (.inr (.inr (.inr f)))))
  | .inr (.inr (c, fs)) => .inr (c, fs)
def zR (D : va_G) (cA : Nat → ClassId) (B : Nat) (h : zH) (H : Heap) : Prop := H.size = h.1 ∧ ∀ (a : Nat) (e : zE), h.2 a = some e → B ≤ a ∧ va_at D zCl (a, ztoE cA e) H
def zN (U : State) : Prop := (∀ q ∈ zNF, va_Nw (.fieldLinkNest q.1 q.2.1 q.2.2.1 q.2.2.2.1 q.2.2.2.2.1 q.2.2.2.2.2) U) ∧ (∀ q ∈ zNM, va_Nw (.methodLinkNest q.1 q.2.1 q.2.2.1 q.2.2.2) U) ∧ (∀ C ∈ zAO, va_AO C U)
def zKK (D : va_G) (cA : Nat → ClassId) (U : State) : Prop := va_K D zCl (ztys cA) U ∧ zN U
theorem zKK.warm {D : va_G} {cA : Nat → ClassId} {s U : State} (hW : s.WarmedH U.vm) (h : zKK D cA s) : zKK D cA U :=
  ⟨va_K.moved hW.alike h.1, fun q hq => va_Nw.warmF hW (h.2.1 q hq), fun q hq => va_Nw.warmM hW (h.2.2.1 q hq), fun C hC => va_AO.moved hW.alike (h.2.2.2 C hC)⟩
theorem zKK.same {D : va_G} {cA : Nat → ClassId} {u U : State} (hv : u.vm = U.vm) (h : zKK D cA u) : zKK D cA U := by
  have ha : u.vm.Alike U.vm := by rw [hv]; exact Vm.Alike.refl _
  exact ⟨va_K.moved ha h.1, fun q hq => va_Nw.same rfl hv (h.2.1 q hq), fun q hq => va_Nw.same rfl hv (h.2.2.1 q hq), fun C hC => va_AO.moved ha (h.2.2.2 C hC)⟩
theorem zR.one {D : va_G} {cA : Nat → ClassId} {B : Nat} {h : zH} {H : Heap} {a : Nat} {e : zE} (hR : zR D cA B h H) (ha : h.2 a = some e) : va_P D zCl [(a, ztoE cA e)] H := by
  intro k q hq
  have hz : k < 1 := (List.getElem?_eq_some_iff.mp hq).1
  rw [show k = 0 by omega] at hq
  cases hq
  exact (hR.2 a e ha).2
theorem zR.lt {D : va_G} {cA : Nat → ClassId} {B : Nat} {h : zH} {H : Heap} {a : Nat} {e : zE} (hR : zR D cA B h H) (ha : h.2 a = some e) : a < h.1 := by
  rw [← hR.1]
  exact (hR.2 a e ha).2.lt
/-- a cell is written, no other -/
theorem zR.set {D : va_G} {cA : Nat → ClassId} {B : Nat} {h : zH} {H H1 : Heap} {a : Nat} {e0 e : zE} (hR : zR D cA B h H) (ha : h.2 a = some e0) (he : va_at D zCl (a, ztoE cA e) H1) (z : H1.size = H.size) (oq : ∀ q : Nat, q ≠ a → H1[q]? = H[q]?) : zR D cA B (zset h a e) H1 := by
  refine ⟨z.trans hR.1, fun b x hb => ?_⟩
  by_cases hba : b = a
  · subst hba
    have hx : x = e := by simpa [zset, va_up] using hb.symm
    subst hx
    exact ⟨(hR.2 b e0 ha).1, he⟩
  · have hb' : h.2 b = some x := by simpa [zset, va_up, hba] using hb
    exact ⟨(hR.2 b x hb').1, (hR.2 b x hb').2.kept (oq b hba)⟩
theorem zR.push {D : va_G} {cA : Nat → ClassId} {B : Nat} {h : zH} {H H1 : Heap} {e : zE} (hR : zR D cA B h H) (hB : B ≤ h.1) (he : va_at D zCl (h.1, ztoE cA e) H1) (z : H1.size = h.1 + 1) (oq : ∀ q : Nat, q < h.1 → H1[q]? = H[q]?) : zR D cA B (znew h e) H1 := by
  refine ⟨z, fun b x hb => ?_⟩
  by_cases hba : b = h.1
  · subst hba
    have hx : x = e := by simpa [znew, va_up] using hb.symm
    subst hx
    exact ⟨hB, he⟩
  · have hb' : h.2 b = some x := by simpa [znew, va_up, hba] using hb
    exact ⟨(hR.2 b x hb').1, (hR.2 b x hb').2.kept (oq b (hR.lt hb'))⟩
def zPc (D : va_G) (cA : Nat → ClassId) (B : Nat) (av : List Value) (h : zH) : Array Value → State → Prop := va_Pc av (fun U => (B ≤ h.1 ∧ zR D cA B h U.heap) ∧ zKK D cA U)
def zQc (D : va_G) (cA : Nat → ClassId) (B : Nat) (Q : Option Value → zH → Prop) : Array Value → State → Outcome → State → Prop := fun _ st oc t => (∃ (r : Option Value) (h : zH), oc = .returned r ∧ Q r h ∧ B ≤ h.1 ∧ zR D cA B h t.heap) ∧ va_F (fun q => B ≤ q) st t
def zWs (me : zM) : List Cond := .code me.1 me.2.1 me.2.2.1 me.2.2.2.1 :: zT
def zRm (d mc ms : Nat) : Room := { frames := d, cells := mc, slots := ms, locals := 40 * d }
/-- a call of me: from the heap h it returns, with Q -/
def zC (me : zM) (d mc ms B : Nat) (av : List Value) (h : zH) (Q : Option Value → zH → Prop) : Prop :=
  ∀ (l : Launch) (D : va_G) (cA : Nat → ClassId), Met l me.1 (zWs me) (zRm d mc ms) (zPc D cA B av h) (zQc D cA B Q) mc ms (fun q => B ≤ q)
/-- what stands in a frame of me -/
def zscr (z : Option (Nat × Nat × (Nat → Int32))) (B : Nat) (s : State) : Prop := match z with
  | none => True
  | some (b, n, f) => va_X b n f s s.heap ∧ b < s.heap.size ∧ b < B
def zX (me : zM) (D : va_G) (cA : Nat → ClassId) (B d : Nat) (p : Program) (R : Room) (s : State) (m : MethodId) (args : Array Value) (meth : Method) (c : Code) : Prop :=
  p.tables.exec = Jvm.exec ∧ c.code = me.2.1 ∧ c.maxLocals = me.2.2.1 ∧ meth.sig.returnType = me.2.2.2.1 ∧ meth.locks = false ∧ (me.2.2.2.2 = none → meth.name = me.1.name) ∧ s.vm.findClass me.1.cls = some m.cls ∧ (∀ w ∈ zT, w.before args s = true) ∧ zKK D cA s ∧ d ≤ R.frames ∧ 40 * d ≤ R.locals ∧ zscr me.2.2.2.2 B s
def zL (L : List (Option Value)) (ls : Array Slot) : Prop := ls.size = L.length ∧ lv_wf ls ∧ ∀ (i : Nat) (v : Value), L[i]? = some (some v) → ls[i]? = some (.val v) ∧ v.category = 1
/-- an end of a frame: the instruction and what lies on the stack -/
def zRet (me : zM) (pc : Nat) (r : Option Value) : Prop :=
  (r = none ∧ me.2.2.2.1 = none ∧ decode me.2.1 pc = .ok (.return_, 1)) ∨ (∃ (v : Int32) (ty : FieldType), r = some (.int v) ∧ me.2.2.2.1 = some ty ∧ narrow ty (.int v) = .int v ∧ decode me.2.1 pc = .ok (.ireturn, 1)) ∨ (∃ (v : Value) (C : String), r = some v ∧ me.2.2.2.1 = some (.object C) ∧ (v = .null ∨ ∃ a, v = .ref a) ∧ decode me.2.1 pc = .ok (.areturn, 1))
/-- from here the frame of me comes to its end, with Q -/
def zw (me : zM) (d rc rs B : Nat) (pc : Nat) (L : List (Option Value)) (st : List Value) (h : zH) (Q : Option Value → zH → Prop) : Prop :=
  ∀ (D : va_G) (cA : Nat → ClassId) (p : Program) (l : Launch) (e : Env) (R : Room) (s : State) (m : MethodId) (args : Array Value) (below : List Frame) (meth : Method) (c : Code) (H : Heap) (locs : List Loc) (cells slots : Nat) (ls : Array Slot) (Qf : State → Prop),
    zX me D cA B d p R s m args meth c → L.length = me.2.2.1 → zL L ls → B ≤ h.1 → zR D cA B h H → va_S (fun q => B ≤ q) s.heap H locs → B ≤ s.heap.size → cells + rc ≤ R.cells → slots + rs ≤ R.slots →
    (∀ (r : Option Value) (h' : zH) (H' : Heap) (locs' : List Loc) (cells' slots' : Nat) (pc' : Nat) (ls' : Array Slot), Q r h' → B ≤ h'.1 → zR D cA B h' H' → va_S (fun q => B ≤ q) s.heap H' locs' → cells' ≤ R.cells → slots' ≤ R.slots → zRet me pc' r → W p l e R s m args below meth c H' locs' cells' slots' Qf (F0 m pc' ls' r.toList)) →
    W p l e R s m args below meth c H locs cells slots Qf (F0 m pc ls st)
