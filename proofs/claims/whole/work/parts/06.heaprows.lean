/-! Rows of zw for fields, arrays, new cells and calls. -/
/-- a field's link: class number and place of the field -/
def zFl (own : String) (idx ci k : Nat) : Prop := ∃ (C : String) (T : u_T) (N : Nat), zCl[ci]? = some (C, T, N) ∧ k < N ∧ (Cond.fieldLink own idx C (T k).2.1 (T k).2.2.1 ∈ zT ∨ ∃ host : String, (own, idx, C, (T k).2.1, (T k).2.2.1, host) ∈ zNF)
/-- the same, to be written -/
def zFp (y : MethodName) (idx ci k : Nat) : Prop := ∃ (C : String) (T : u_T) (N : Nat), zCl[ci]? = some (C, T, N) ∧ k < N ∧ (((T k).2.2.2 = false ∧ (Cond.fieldLink y.cls idx C (T k).2.1 (T k).2.2.1 ∈ zT ∨ ∃ host : String, (y.cls, idx, C, (T k).2.1, (T k).2.2.1, host) ∈ zNF)) ∨ ((T k).2.2.2 = true ∧ y.name = "<init>" ∧ y.cls = C ∧ Cond.fieldLink y.cls idx C (T k).2.1 (T k).2.2.1 ∈ zT))
/-- a class's link, to make an object of N fields -/
def zNl (own : String) (idx ci N : Nat) : Prop := ∃ (C : String) (T : u_T), zCl[ci]? = some (C, T, N) ∧ Cond.classLink own idx C ∈ zT
/-- a class's link, to make an array of references -/
def zAl (own : String) (idx t : Nat) : Prop := ∃ C : String, zTy[t]? = some (.object C) ∧ C ∈ zAO ∧ Cond.classLink own idx C ∈ zT
/-- a method to be called with n arguments -/
def zYok (y : zM) (n : Nat) : Prop := Cond.code y.1 y.2.1 y.2.2.1 y.2.2.2.1 ∈ zT ∧ Cond.initialized y.1.cls ∈ zT ∧ (y.1.cls ≠ "java/lang/invoke/MethodHandle" ∧ y.1.cls ≠ "java/lang/invoke/VarHandle") ∧ (parseMethodDescriptor y.1.desc).map (fun d => d.parameters.length) = some n ∧ y.2.2.1 ≤ 21
def zLk (own : String) (idx : Nat) (y : MethodName) : Prop := Cond.methodLink own idx y ∈ zT ∨ ∃ host : String, (own, idx, y, host) ∈ zNM
def zSl (own : String) (idx : Nat) (y : zM) (n : Nat) : Prop := zLk own idx y.1 ∧ Cond.static y.1 ∈ zT ∧ zYok y n
def zIl (own : String) (idx : Nat) (y : zM) (n : Nat) : Prop := zLk own idx y.1 ∧ y.1.name = "<init>" ∧ Cond.instanceMethod y.1 ∈ zT ∧ y.2.2.2.1 = none ∧ zYok y n
def zVl (own : String) (idx : Nat) (y : zM) (n ci : Nat) : Prop := zLk own idx y.1 ∧ Cond.instanceMethod y.1 ∈ zT ∧ Cond.selects y.1.cls y.1 y.1 ∈ zT ∧ zYok y n ∧ ∃ (T : u_T) (N : Nat), zCl[ci]? = some (y.1.cls, T, N)
def zfit (ty : FieldType) (v : Value) : Prop := narrow ty v = v ∧ fits ty v = true
def zdf (ci N : Nat) : List Value := (List.range N).map (fun k => defaultValue (zft ci k))
theorem zdf_at {ci N k : Nat} (h : k < N) : defaultValue (zft ci k) = vp_V (zdf ci N) k := by
  simp [vp_V, zdf, List.getD_eq_getElem?_getD, List.getElem?_map, List.getElem?_range h]
theorem zr_getf {me : zM} {d rc rs B pc : Nat} {L : List (Option Value)} {st : List Value} {h : zH} {Q : Option Value → zH → Prop} {idx ci k a : Nat} {fs : List Value} {v : Value} (hd : decode me.2.1 pc = .ok (.getfield idx, 3)) (hf : zFl me.1.cls idx ci k) (ha : h.2 a = some (zO ci fs)) (hv : fs[k]? = some v) (kk : zw me d rc rs B (pc + 3) L (v :: st) h Q) : zw me d rc rs B pc L (.ref a :: st) h Q := by
  intro D cA p l e R s m args below meth c H locs cells slots ls Qf X hn hl hB hR hS hBs hc hs hk
  obtain ⟨hx, hb, hml, hret, hlk, hname, hown, hts, hKK, hfr, hlo, hsc⟩ := id X
  obtain ⟨C, T, N, hc0, hkN, hlk1⟩ := hf
  obtain ⟨hin, -, -, hdecl, -⟩ := zCl_ok _ _ _ _ hc0
  have hsame : ∀ x, s.fieldFound? (T k).1 (T k).2.1 (T k).2.2.1 = some x → s.fieldFound? C (T k).2.1 (T k).2.2.1 = some x := fun x hx => by rw [hdecl k hkN] at hx; exact hx
  rcases hlk1 with h1 | ⟨host, h1⟩
  · exact va_get hx hb hts hin hown hKK.1 (hR.one ha) 0 rfl hc0 k hkN (hts _ h1) hsame hv hd (kk D cA p l e R s m args below meth c H locs cells slots ls Qf X hn hl hB hR hS hBs hc hs hk)
  · exact va_getN hx hb hts hin hown hKK.1 (hR.one ha) 0 rfl hc0 k hkN (va_Nw.use rfl (hKK.2.1 _ h1)) hsame hv hd (kk D cA p l e R s m args below meth c H locs cells slots ls Qf X hn hl hB hR hS hBs hc hs hk)
theorem zr_putf {me : zM} {d rc rs B pc : Nat} {L : List (Option Value)} {st : List Value} {h : zH} {Q : Option Value → zH → Prop} {idx ci k a : Nat} {fs : List Value} {v : Value} (hd : decode me.2.1 pc = .ok (.putfield idx, 3)) (hn0 : me.2.2.2.2 = none) (hf : zFp me.1 idx ci k) (ha : h.2 a = some (zO ci fs)) (hl0 : k < fs.length) (hfit : zfit (zft ci k) v) (kk : zw me d rc rs B (pc + 3) L st (zset h a (zO ci (fs.set k v))) Q) : zw me d rc rs B pc L (v :: .ref a :: st) h Q := by
  intro D cA p l e R s m args below meth c H locs cells slots ls Qf X hn hl hB hR hS hBs hc hs hk
  obtain ⟨hx, hb, hml, hret, hlk, hname, hown, hts, hKK, hfr, hlo, hsc⟩ := id X
  obtain ⟨C, T, N, hc0, hkN, hlk1⟩ := hf
  obtain ⟨hin, hty, hnm, hdecl, -⟩ := zCl_ok _ _ _ _ hc0
  have hsame : ∀ x, s.fieldFound? (T k).1 (T k).2.1 (T k).2.2.1 = some x → s.fieldFound? C (T k).2.1 (T k).2.2.1 = some x := fun x hx => by rw [hdecl k hkN] at hx; exact hx
  have hap := va_apart (own := me.1.cls) hts hin (zft ci) hty hnm hKK.1 hc0
  obtain ⟨r, h1, cell, q1, q2, q3, q4⟩ := (hR.2 a _ ha).2
  have hr : r = (C, T, N) := Option.some.inj (h1.symm.trans hc0)
  subst hr
  obtain ⟨hS', hfc, kC, hkC, hkind⟩ := hKK.1.1 ci _ hc0
  obtain ⟨cf, kf, fi, f, hi, hsl⟩ := hS' k hkN
  have hst := (u_facts hfc hkC (u_lays hts hin hkN) hi).1
  have fin : ∀ H' : Heap, H'[a]? = some (cell.setSlot f.slot v) → H'.size = H.size → (∀ q, q ≠ a → H'[q]? = H[q]?) → W p l e R s m args below meth c H' (locs ++ [⟨a, f.slot⟩]) cells slots Qf (F0 m (pc + 3) ls st) := by
    intro H' e1 e2 e3
    rw [hsl] at e1 ⊢
    exact kk D cA p l e R s m args below meth c H' _ cells slots ls Qf X hn hl hB (hR.set ha ⟨_, hc0, t_OB.to (V := updV (vp_V fs) k v) ⟨_, e1, q2, q3, t_set q4 hap hkN v⟩ (fun j _ => vp_updV_set hl0 v j)⟩ e2 e3) (hS.put e2 e3 (hR.2 a _ ha).1) hBs hc hs hk
  have hlay := hts _ (hin _ (u_in_lay hkN))
  unfold u_lay at hlay
  rcases hlk1 with ⟨hfin, hlk2⟩ | ⟨hfin, hin2, hC, h2⟩
  · rw [if_neg (by rw [hfin]; decide)] at hlay
    have h6 := u_store hfc hkC hkind hlay hi (hty k hkN) hfit.1 hfit.2
    rcases hlk2 with h2 | ⟨host, h2⟩
    · exact W.putK hx hb (f := f) ⟨hown, hts _ h2, ⟨_, _, _, hsame _ hi⟩, hst⟩ (by rw [q2]; exact h6) q1 q3 (by rw [hsl]; exact k2_hasslot (q4 k hkN)) rfl rfl hd fin
    · exact va_WputK hx hb (f := f) hown (va_Nw.use rfl (hKK.2.1 _ h2)) (hsame _ hi) hst (by rw [q2]; exact h6) q1 q3 (by rw [hsl]; exact k2_hasslot (q4 k hkN)) rfl rfl hd fin
  · rw [if_pos hfin] at hlay
    have hcf : m.cls = cf := by
      obtain ⟨_, _, c', _, _, _, -, -, hf', -, -, -, hown2, -⟩ := Cond.laysFinal_spec hlay
      have e1 : c' = cf := by have := hi.symm.trans hf'; simp at this; exact this.1.symm
      rw [hdecl k hkN, ← hC] at hown2
      rw [← e1]; exact Option.some.inj (hown.symm.trans hown2)
    have h6 := u_fits hfc hkC hkind (Or.inr hlay) hi (hty k hkN) hfit.1 hfit.2
    exact W.putFinK hx hb hown (hts _ h2) (hsame _ hi) hst hcf ((hname hn0).trans hin2) (by rw [q2]; exact h6) q1 q3 (by rw [hsl]; exact k2_hasslot (q4 k hkN)) rfl rfl hd fin
theorem zr_iald {me : zM} {d rc rs B pc : Nat} {L : List (Option Value)} {st : List Value} {h : zH} {Q : Option Value → zH → Prop} {a t n : Nat} {f : Nat → Int32} {i : Int32} (hd : decode me.2.1 pc = .ok (.iaload, 1)) (ha : h.2 a = some (zI t n f)) (ht : zTy[t]? = some .int) (hi : vp_in i n) (kk : zw me d rc rs B (pc + 1) L (.int (f i.toNatClampNeg) :: st) h Q) : zw me d rc rs B pc L (.int i :: .ref a :: st) h Q := by
  intro D cA p l e R s m args below meth c H locs cells slots ls Qf X hn hl hB hR hS hBs hc hs hk
  obtain ⟨hx, hb, hml, hret, hlk, hname, hown, hts, hKK, hfr, hlo, hsc⟩ := id X
  exact va_iald hx hb hKK.1 (hR.one ha) 0 t rfl (ztys_at ht) hi hd (kk D cA p l e R s m args below meth c H locs cells slots ls Qf X hn hl hB hR hS hBs hc hs hk)
theorem zr_cald {me : zM} {d rc rs B pc : Nat} {L : List (Option Value)} {st : List Value} {h : zH} {Q : Option Value → zH → Prop} {a t n : Nat} {f : Nat → Int32} {i : Int32} (hd : decode me.2.1 pc = .ok (.caload, 1)) (ha : h.2 a = some (zI t n f)) (ht : zTy[t]? = some .char) (hi : vp_in i n) (kk : zw me d rc rs B (pc + 1) L (.int (f i.toNatClampNeg) :: st) h Q) : zw me d rc rs B pc L (.int i :: .ref a :: st) h Q := by
  intro D cA p l e R s m args below meth c H locs cells slots ls Qf X hn hl hB hR hS hBs hc hs hk
  obtain ⟨hx, hb, hml, hret, hlk, hname, hown, hts, hKK, hfr, hlo, hsc⟩ := id X
  exact va_cald hx hb hKK.1 (hR.one ha) 0 t rfl (ztys_at ht) hi hd (kk D cA p l e R s m args below meth c H locs cells slots ls Qf X hn hl hB hR hS hBs hc hs hk)
theorem zr_zald {me : zM} {d rc rs B pc : Nat} {L : List (Option Value)} {st : List Value} {h : zH} {Q : Option Value → zH → Prop} {a t n : Nat} {f : Nat → Int32} {i : Int32} (hd : decode me.2.1 pc = .ok (.baload, 1)) (ha : h.2 a = some (zI t n f)) (ht : zTy[t]? = some .boolean) (hi : vp_in i n) (kk : zw me d rc rs B (pc + 1) L (.int (f i.toNatClampNeg) :: st) h Q) : zw me d rc rs B pc L (.int i :: .ref a :: st) h Q := by
  intro D cA p l e R s m args below meth c H locs cells slots ls Qf X hn hl hB hR hS hBs hc hs hk
  obtain ⟨hx, hb, hml, hret, hlk, hname, hown, hts, hKK, hfr, hlo, hsc⟩ := id X
  exact va_zald hx hb hKK.1 (hR.one ha) 0 t rfl (ztys_at ht) hi hd (kk D cA p l e R s m args below meth c H locs cells slots ls Qf X hn hl hB hR hS hBs hc hs hk)
theorem zr_scr {me : zM} {d rc rs B pc : Nat} {L : List (Option Value)} {st : List Value} {h : zH} {Q : Option Value → zH → Prop} {b n : Nat} {f : Nat → Int32} {i : Int32} (hd : decode me.2.1 pc = .ok (.iaload, 1)) (hz : me.2.2.2.2 = some (b, n, f)) (hi : vp_in i n) (kk : zw me d rc rs B (pc + 1) L (.int (f i.toNatClampNeg) :: st) h Q) : zw me d rc rs B pc L (.int i :: .ref b :: st) h Q := by
  intro D cA p l e R s m args below meth c H locs cells slots ls Qf X hn hl hB hR hS hBs hc hs hk
  obtain ⟨hx, hb, hml, hret, hlk, hname, hown, hts, hKK, hfr, hlo, hsc⟩ := id X
  rw [hz] at hsc
  obtain ⟨h1, h2, h3⟩ := hsc
  exact va_sld hx hb h1 h2 (fun q => absurd h3 (Nat.not_lt.mpr q)) hS hi hd (kk D cA p l e R s m args below meth c H locs cells slots ls Qf X hn hl hB hR hS hBs hc hs hk)
theorem zr_scrlen {me : zM} {d rc rs B pc : Nat} {L : List (Option Value)} {st : List Value} {h : zH} {Q : Option Value → zH → Prop} {b n : Nat} {f : Nat → Int32} (hd : decode me.2.1 pc = .ok (.arraylength, 1)) (hz : me.2.2.2.2 = some (b, n, f)) (kk : zw me d rc rs B (pc + 1) L (.int (Int32.ofNat n) :: st) h Q) : zw me d rc rs B pc L (.ref b :: st) h Q := by
  intro D cA p l e R s m args below meth c H locs cells slots ls Qf X hn hl hB hR hS hBs hc hs hk
  obtain ⟨hx, hb, hml, hret, hlk, hname, hown, hts, hKK, hfr, hlo, hsc⟩ := id X
  rw [hz] at hsc
  obtain ⟨h1, h2, h3⟩ := hsc
  exact va_slen hx hb h1 h2 (fun q => absurd h3 (Nat.not_lt.mpr q)) hS hd (kk D cA p l e R s m args below meth c H locs cells slots ls Qf X hn hl hB hR hS hBs hc hs hk)
theorem zr_aald {me : zM} {d rc rs B pc : Nat} {L : List (Option Value)} {st : List Value} {h : zH} {Q : Option Value → zH → Prop} {a t n : Nat} {C : String} {f : Nat → Option Nat} {i : Int32} (hd : decode me.2.1 pc = .ok (.aaload, 1)) (ha : h.2 a = some (zQ t n f)) (ht : zTy[t]? = some (.object C)) (hi : vp_in i n) (kk : zw me d rc rs B (pc + 1) L (va_rf (f i.toNatClampNeg) :: st) h Q) : zw me d rc rs B pc L (.int i :: .ref a :: st) h Q := by
  intro D cA p l e R s m args below meth c H locs cells slots ls Qf X hn hl hB hR hS hBs hc hs hk
  obtain ⟨hx, hb, hml, hret, hlk, hname, hown, hts, hKK, hfr, hlo, hsc⟩ := id X
  exact va_aldq hx hb hKK.1 (hR.one ha) 0 t rfl (ztys_at ht) hi hd (kk D cA p l e R s m args below meth c H locs cells slots ls Qf X hn hl hB hR hS hBs hc hs hk)
theorem zr_alenI {me : zM} {d rc rs B pc : Nat} {L : List (Option Value)} {st : List Value} {h : zH} {Q : Option Value → zH → Prop} {a t n : Nat} {ty : FieldType} {f : Nat → Int32} (hd : decode me.2.1 pc = .ok (.arraylength, 1)) (ha : h.2 a = some (zI t n f)) (ht : zTy[t]? = some ty) (kk : zw me d rc rs B (pc + 1) L (.int (Int32.ofNat n) :: st) h Q) : zw me d rc rs B pc L (.ref a :: st) h Q := by
  intro D cA p l e R s m args below meth c H locs cells slots ls Qf X hn hl hB hR hS hBs hc hs hk
  obtain ⟨hx, hb, hml, hret, hlk, hname, hown, hts, hKK, hfr, hlo, hsc⟩ := id X
  exact va_alen hx hb hKK.1 (hR.one ha) 0 t rfl (ztys_at ht) rfl hd (kk D cA p l e R s m args below meth c H locs cells slots ls Qf X hn hl hB hR hS hBs hc hs hk)
theorem zr_alenQ {me : zM} {d rc rs B pc : Nat} {L : List (Option Value)} {st : List Value} {h : zH} {Q : Option Value → zH → Prop} {a t n : Nat} {ty : FieldType} {f : Nat → Option Nat} (hd : decode me.2.1 pc = .ok (.arraylength, 1)) (ha : h.2 a = some (zQ t n f)) (ht : zTy[t]? = some ty) (kk : zw me d rc rs B (pc + 1) L (.int (Int32.ofNat n) :: st) h Q) : zw me d rc rs B pc L (.ref a :: st) h Q := by
  intro D cA p l e R s m args below meth c H locs cells slots ls Qf X hn hl hB hR hS hBs hc hs hk
  obtain ⟨hx, hb, hml, hret, hlk, hname, hown, hts, hKK, hfr, hlo, hsc⟩ := id X
  exact va_alen hx hb hKK.1 (hR.one ha) 0 t rfl (ztys_at ht) rfl hd (kk D cA p l e R s m args below meth c H locs cells slots ls Qf X hn hl hB hR hS hBs hc hs hk)
theorem zr_iast {me : zM} {d rc rs B pc : Nat} {L : List (Option Value)} {st : List Value} {h : zH} {Q : Option Value → zH → Prop} {a t n : Nat} {f : Nat → Int32} {i x : Int32} (hd : decode me.2.1 pc = .ok (.iastore, 1)) (ha : h.2 a = some (zI t n f)) (ht : zTy[t]? = some .int) (hi : vp_in i n) (kk : zw me d rc rs B (pc + 1) L st (zset h a (zI t n (upd f i.toNatClampNeg x))) Q) : zw me d rc rs B pc L (.int x :: .int i :: .ref a :: st) h Q := by
  intro D cA p l e R s m args below meth c H locs cells slots ls Qf X hn hl hB hR hS hBs hc hs hk
  obtain ⟨hx, hb, hml, hret, hlk, hname, hown, hts, hKK, hfr, hlo, hsc⟩ := id X
  have hcell : H[a]? = some (vp_cell (cA t) (n, .inl f)) := (hR.2 a _ ha).2
  refine W.iast hx hb hcell ((hKK.1.2 t _ (ztys_at ht)).1 n (fun j => .int (f j))) (fun q => by cases q) (by show ¬ (i < 0 ∨ (arrV _ _ _).slots.size ≤ _); rw [arrV_size]; exact hi) rfl rfl hd fun H1 ee z oq => ?_
  refine kk D cA p l e R s m args below meth c H1 _ cells slots ls Qf X hn hl hB (hR.set ha ?_ z oq) (hS.put z oq (hR.2 a _ ha).1) hBs hc hs hk
  show H1[a]? = some (vp_cell (cA t) (n, .inl (upd f i.toNatClampNeg x)))
  rw [ee, vp_cell_i, vp_cell_i, arrV_store]
  congr 2
  funext q
  by_cases hq : q = i.toNatClampNeg
  · subst hq
    simp [updV, upd, vp_nar]
    try rfl
  · simp [updV, upd, hq]
theorem zr_cast {me : zM} {d rc rs B pc : Nat} {L : List (Option Value)} {st : List Value} {h : zH} {Q : Option Value → zH → Prop} {a t n : Nat} {f : Nat → Int32} {i x : Int32} (hd : decode me.2.1 pc = .ok (.castore, 1)) (ha : h.2 a = some (zI t n f)) (ht : zTy[t]? = some .char) (hi : vp_in i n) (kk : zw me d rc rs B (pc + 1) L st (zset h a (zI t n (upd f i.toNatClampNeg (vp_nar .char x)))) Q) : zw me d rc rs B pc L (.int x :: .int i :: .ref a :: st) h Q := by
  intro D cA p l e R s m args below meth c H locs cells slots ls Qf X hn hl hB hR hS hBs hc hs hk
  obtain ⟨hx, hb, hml, hret, hlk, hname, hown, hts, hKK, hfr, hlo, hsc⟩ := id X
  have hcell : H[a]? = some (vp_cell (cA t) (n, .inl f)) := (hR.2 a _ ha).2
  refine W.cast hx hb hcell ((hKK.1.2 t _ (ztys_at ht)).1 n (fun j => .int (f j))) (fun q => by cases q) (by show ¬ (i < 0 ∨ (arrV _ _ _).slots.size ≤ _); rw [arrV_size]; exact hi) rfl rfl hd fun H1 ee z oq => ?_
  refine kk D cA p l e R s m args below meth c H1 _ cells slots ls Qf X hn hl hB (hR.set ha ?_ z oq) (hS.put z oq (hR.2 a _ ha).1) hBs hc hs hk
  show H1[a]? = some (vp_cell (cA t) (n, .inl (upd f i.toNatClampNeg (vp_nar .char x))))
  rw [ee, vp_cell_i, vp_cell_i, arrV_store]
  congr 2
  funext q
  by_cases hq : q = i.toNatClampNeg
  · subst hq
    simp [updV, upd, vp_nar]
    try rfl
  · simp [updV, upd, hq]
theorem zr_zast {me : zM} {d rc rs B pc : Nat} {L : List (Option Value)} {st : List Value} {h : zH} {Q : Option Value → zH → Prop} {a t n : Nat} {f : Nat → Int32} {i x : Int32} (hd : decode me.2.1 pc = .ok (.bastore, 1)) (ha : h.2 a = some (zI t n f)) (ht : zTy[t]? = some .boolean) (hi : vp_in i n) (kk : zw me d rc rs B (pc + 1) L st (zset h a (zI t n (upd f i.toNatClampNeg (vp_nar .boolean x)))) Q) : zw me d rc rs B pc L (.int x :: .int i :: .ref a :: st) h Q := by
  intro D cA p l e R s m args below meth c H locs cells slots ls Qf X hn hl hB hR hS hBs hc hs hk
  obtain ⟨hx, hb, hml, hret, hlk, hname, hown, hts, hKK, hfr, hlo, hsc⟩ := id X
  have hcell : H[a]? = some (vp_cell (cA t) (n, .inl f)) := (hR.2 a _ ha).2
  refine W.zast hx hb hcell ((hKK.1.2 t _ (ztys_at ht)).1 n (fun j => .int (f j))) (fun q => by cases q) (by show ¬ (i < 0 ∨ (arrV _ _ _).slots.size ≤ _); rw [arrV_size]; exact hi) rfl rfl hd fun H1 ee z oq => ?_
  refine kk D cA p l e R s m args below meth c H1 _ cells slots ls Qf X hn hl hB (hR.set ha ?_ z oq) (hS.put z oq (hR.2 a _ ha).1) hBs hc hs hk
  show H1[a]? = some (vp_cell (cA t) (n, .inl (upd f i.toNatClampNeg (vp_nar .boolean x))))
  rw [ee, vp_cell_i, vp_cell_i, arrV_store]
  congr 2
  funext q
  by_cases hq : q = i.toNatClampNeg
  · subst hq
    simp [updV, upd, vp_nar]
    try rfl
  · simp [updV, upd, hq]
theorem zr_aast {me : zM} {d rc rs B pc : Nat} {L : List (Option Value)} {st : List Value} {h : zH} {Q : Option Value → zH → Prop} {a t n v ci : Nat} {r : vw_C} {vs : List Value} {f : Nat → Option Nat} {i : Int32} (hd : decode me.2.1 pc = .ok (.aastore, 1)) (ha : h.2 a = some (zQ t n f)) (ht : zTy[t]? = some (.object r.1)) (hv : h.2 v = some (zO ci vs)) (hc0 : zCl[ci]? = some r) (hi : vp_in i n) (kk : zw me d rc rs B (pc + 1) L st (zset h a (zQ t n (va_up f i.toNatClampNeg (some v)))) Q) : zw me d rc rs B pc L (.ref v :: .int i :: .ref a :: st) h Q := by
  intro D cA p l e R s m args below meth c H locs cells slots ls Qf X hn hl hB hR hS hBs hc hs hk
  obtain ⟨hx, hb, hml, hret, hlk, hname, hown, hts, hKK, hfr, hlo, hsc⟩ := id X
  have hlt : i.toNatClampNeg < n := Nat.not_le.mp fun q => hi (Or.inr q)
  have h0 : ¬ i < 0 := fun q => hi (Or.inl q)
  obtain ⟨r', hr', cellV, g1, g2, g3, -⟩ := (hR.2 v _ hv).2
  have hcls := (hKK.1.1 ci r hc0).2
  obtain ⟨kA, comp, k1, k2, k3, -⟩ := (hKK.1.2 t _ (ztys_at ht)).2
  have hcomp : comp = D.1 ci := Option.some.inj (k3.symm.trans hcls.1)
  subst hcomp
  obtain ⟨kC, hkC, -⟩ := hcls.2
  have hcell : H[a]? = some (vp_cell (cA t) (n, .inr (.inr (.inr (.inr f))))) := (hR.2 a _ ha).2
  refine W.aast hx hb hcell (fun q h => by cases h) (fun h => by cases h) k1 k2 rfl hkC ⟨h0, by show _ < (arrV _ _ _).slots.size; rw [arrV_size]; exact hlt⟩ g1 (fun q h => by rw [g3] at h; cases h) (by rw [g2]; exact hkC) (by rw [g2]; exact va_assign hcls) rfl rfl hd fun H1 ee z oq => ?_
  refine kk D cA p l e R s m args below meth c H1 _ cells slots ls Qf X hn hl hB (hR.set ha ?_ z oq) (hS.put z oq (hR.2 a _ ha).1) hBs hc hs hk
  show H1[a]? = some (vp_cell (cA t) (n, .inr (.inr (.inr (.inr (va_up f i.toNatClampNeg (some v)))))))
  rw [ee, vp_cell_q, vp_cell_q, arrV_store]
  congr 2
  funext q
  by_cases hq : q = i.toNatClampNeg
  · subst hq
    simp [updV, va_up, va_rf]
  · simp [updV, va_up, hq]
theorem zr_new {me : zM} {d rc rs B pc : Nat} {L : List (Option Value)} {st : List Value} {h : zH} {Q : Option Value → zH → Prop} {idx ci N : Nat} (hd : decode me.2.1 pc = .ok (.new idx, 3)) (hf : zNl me.1.cls idx ci N) (h1 : 1 ≤ rc) (h2 : N ≤ rs) (kk : zw me d (rc - 1) (rs - N) B (pc + 3) L (.ref h.1 :: st) (znew h (zO ci (zdf ci N))) Q) : zw me d rc rs B pc L st h Q := by
  intro D cA p l e R s m args below meth c H locs cells slots ls Qf X hn hl hB hR hS hBs hc hs hk
  obtain ⟨hx, hb, hml, hret, hlk, hname, hown, hts, hKK, hfr, hlo, hsc⟩ := id X
  obtain ⟨C, T, hc0, hlk1⟩ := hf
  obtain ⟨hin, hty, hnm, hdecl, hinst, hini⟩ := zCl_ok _ _ _ _ hc0
  have hKn := hKK.1.1 ci _ hc0
  refine W.newcK hx hb hown (hts _ hlk1) (hts _ hinst) (hts _ hini) rfl hd (by omega) (by omega) hKn.2.1 hR.1 fun H1 kC hkC e1 z1 o1 => ?_
  have o2 : ∀ q : Nat, q < h.1 → H1[q]? = H[q]? := o1
  refine kk D cA p l e R s m args below meth c H1 locs (cells + 1) (slots + N) ls Qf X hn hl (by show B ≤ h.1 + 1; omega) (hR.push hB ?_ z1 o2) ⟨by rw [z1, ← hR.1]; exact Nat.le_succ_of_le hS.1, fun q g1 g2 => (o1 q (by rw [← hR.1]; exact Nat.lt_of_lt_of_le g1 hS.1)).trans (hS.2.1 q g1 g2), hS.2.2⟩ hBs (by omega) (by omega) hk
  exact ⟨_, hc0, (u_born (zft ci) hts hin hKn hkC e1 hty).to (fun k hk => zdf_at hk)⟩
theorem zr_newI {me : zM} {d rc rs B pc : Nat} {L : List (Option Value)} {st : List Value} {h : zH} {Q : Option Value → zH → Prop} {t N : Nat} {n : Int32} (hd : decode me.2.1 pc = .ok (.newarray .int, 2)) (ht : zTy[t]? = some .int) (hw0 : Cond.arrayClass .int ∈ zT) (h0 : ¬ n < 0) (hN : n.toNatClampNeg = N) (hbig : N ≤ 65536) (h1 : 1 ≤ rc) (h2 : N ≤ rs) (kk : zw me d (rc - 1) (rs - N) B (pc + 2) L (.ref h.1 :: st) (znew h (zI t N (fun _ => 0))) Q) : zw me d rc rs B pc L (.int n :: st) h Q := by
  intro D cA p l e R s m args below meth c H locs cells slots ls Qf X hn hl hB hR hS hBs hc hs hk
  obtain ⟨hx, hb, hml, hret, hlk, hname, hown, hts, hKK, hfr, hlo, hsc⟩ := id X
  refine va_newaK (atype := .int) hx hb (hts _ hw0) (g := F0 m pc ls (.int n :: st)) rfl hd rfl h0 hN (by show N * _ ≤ _; simp only [newarray.typeOf, componentBytes]; omega) (by omega) (by omega) hR.1 fun H1 cA' e1 z1 o1 hAr hNm => ?_
  have hcA : cA' = cA t := by
    have := (hKK.1.2 t _ (ztys_at ht)).2
    exact Option.some.inj (hNm.symm.trans this)
  subst hcA
  refine kk D cA p l e R s m args below meth c H1 locs (cells + 1) (slots + N) ls Qf X hn hl (by show B ≤ h.1 + 1; omega) (hR.push hB e1 z1 o1) ⟨by rw [z1, ← hR.1]; exact Nat.le_succ_of_le hS.1, fun q g1 g2 => (o1 q (by rw [← hR.1]; exact Nat.lt_of_lt_of_le g1 hS.1)).trans (hS.2.1 q g1 g2), hS.2.2⟩ hBs (by omega) (by omega) hk
theorem zr_newC {me : zM} {d rc rs B pc : Nat} {L : List (Option Value)} {st : List Value} {h : zH} {Q : Option Value → zH → Prop} {t N : Nat} {n : Int32} (hd : decode me.2.1 pc = .ok (.newarray .char, 2)) (ht : zTy[t]? = some .char) (hw0 : Cond.arrayClass .char ∈ zT) (h0 : ¬ n < 0) (hN : n.toNatClampNeg = N) (hbig : N ≤ 65536) (h1 : 1 ≤ rc) (h2 : N ≤ rs) (kk : zw me d (rc - 1) (rs - N) B (pc + 2) L (.ref h.1 :: st) (znew h (zI t N (fun _ => 0))) Q) : zw me d rc rs B pc L (.int n :: st) h Q := by
  intro D cA p l e R s m args below meth c H locs cells slots ls Qf X hn hl hB hR hS hBs hc hs hk
  obtain ⟨hx, hb, hml, hret, hlk, hname, hown, hts, hKK, hfr, hlo, hsc⟩ := id X
  refine va_newaK (atype := .char) hx hb (hts _ hw0) (g := F0 m pc ls (.int n :: st)) rfl hd rfl h0 hN (by show N * _ ≤ _; simp only [newarray.typeOf, componentBytes]; omega) (by omega) (by omega) hR.1 fun H1 cA' e1 z1 o1 hAr hNm => ?_
  have hcA : cA' = cA t := by
    have := (hKK.1.2 t _ (ztys_at ht)).2
    exact Option.some.inj (hNm.symm.trans this)
  subst hcA
  refine kk D cA p l e R s m args below meth c H1 locs (cells + 1) (slots + N) ls Qf X hn hl (by show B ≤ h.1 + 1; omega) (hR.push hB e1 z1 o1) ⟨by rw [z1, ← hR.1]; exact Nat.le_succ_of_le hS.1, fun q g1 g2 => (o1 q (by rw [← hR.1]; exact Nat.lt_of_lt_of_le g1 hS.1)).trans (hS.2.1 q g1 g2), hS.2.2⟩ hBs (by omega) (by omega) hk
theorem zr_newZ {me : zM} {d rc rs B pc : Nat} {L : List (Option Value)} {st : List Value} {h : zH} {Q : Option Value → zH → Prop} {t N : Nat} {n : Int32} (hd : decode me.2.1 pc = .ok (.newarray .boolean, 2)) (ht : zTy[t]? = some .boolean) (hw0 : Cond.arrayClass .boolean ∈ zT) (h0 : ¬ n < 0) (hN : n.toNatClampNeg = N) (hbig : N ≤ 65536) (h1 : 1 ≤ rc) (h2 : N ≤ rs) (kk : zw me d (rc - 1) (rs - N) B (pc + 2) L (.ref h.1 :: st) (znew h (zI t N (fun _ => 0))) Q) : zw me d rc rs B pc L (.int n :: st) h Q := by
  intro D cA p l e R s m args below meth c H locs cells slots ls Qf X hn hl hB hR hS hBs hc hs hk
  obtain ⟨hx, hb, hml, hret, hlk, hname, hown, hts, hKK, hfr, hlo, hsc⟩ := id X
  refine va_newaK (atype := .boolean) hx hb (hts _ hw0) (g := F0 m pc ls (.int n :: st)) rfl hd rfl h0 hN (by show N * _ ≤ _; simp only [newarray.typeOf, componentBytes]; omega) (by omega) (by omega) hR.1 fun H1 cA' e1 z1 o1 hAr hNm => ?_
  have hcA : cA' = cA t := by
    have := (hKK.1.2 t _ (ztys_at ht)).2
    exact Option.some.inj (hNm.symm.trans this)
  subst hcA
  refine kk D cA p l e R s m args below meth c H1 locs (cells + 1) (slots + N) ls Qf X hn hl (by show B ≤ h.1 + 1; omega) (hR.push hB e1 z1 o1) ⟨by rw [z1, ← hR.1]; exact Nat.le_succ_of_le hS.1, fun q g1 g2 => (o1 q (by rw [← hR.1]; exact Nat.lt_of_lt_of_le g1 hS.1)).trans (hS.2.1 q g1 g2), hS.2.2⟩ hBs (by omega) (by omega) hk
theorem zr_newA {me : zM} {d rc rs B pc : Nat} {L : List (Option Value)} {st : List Value} {h : zH} {Q : Option Value → zH → Prop} {idx t N : Nat} {n : Int32} (hd : decode me.2.1 pc = .ok (.anewarray idx, 3)) (hf : zAl me.1.cls idx t) (h0 : ¬ n < 0) (hN : n.toNatClampNeg = N) (hbig : N ≤ 65536) (h1 : 1 ≤ rc) (h2 : N ≤ rs) (kk : zw me d (rc - 1) (rs - N) B (pc + 3) L (.ref h.1 :: st) (znew h (zQ t N (fun _ => none))) Q) : zw me d rc rs B pc L (.int n :: st) h Q := by
  intro D cA p l e R s m args below meth c H locs cells slots ls Qf X hn hl hB hR hS hBs hc hs hk
  obtain ⟨hx, hb, hml, hret, hlk, hname, hown, hts, hKK, hfr, hlo, hsc⟩ := id X
  obtain ⟨C, ht, hao, hlk1⟩ := hf
  subst hN
  refine W.anew hx hb hown (hts _ hlk1) (va_AO.use (hKK.2.2.2 C hao)) rfl hd rfl h0 (by omega) (by omega) (by omega) fun cA' kA comp f1 f2 f3 f4 => ?_
  have hcA : cA' = cA t := by
    obtain ⟨_, _, -, -, -, h4⟩ := (hKK.1.2 t _ (ztys_at ht)).2
    exact Option.some.inj (f1.symm.trans h4)
  subst hcA
  generalize hH1 : H.push ({ cls := cA t, slots := Array.replicate n.toNatClampNeg .null, vm := .none } : Cell) = H1
  have z1 : H1.size = h.1 + 1 := by rw [← hH1, Array.size_push, hR.1]
  have e1 : H1[h.1]? = some (arrV (cA t) n.toNatClampNeg (fun _ => .null)) := by rw [← hH1, ← hR.1, Array.getElem?_push_size, ← arrV_new]
  have o1 : ∀ q : Nat, q < h.1 → H1[q]? = H[q]? := fun q hq => by rw [← hH1, Array.getElem?_push, if_neg (by rw [hR.1]; exact Nat.ne_of_lt hq)]
  have e0 : W p l e R s m args below meth c H1 locs (cells + 1) (slots + n.toNatClampNeg) Qf (F0 m (pc + 3) ls (.ref h.1 :: st)) :=
    kk D cA p l e R s m args below meth c H1 locs (cells + 1) (slots + n.toNatClampNeg) ls Qf X hn hl (by show B ≤ h.1 + 1; omega) (hR.push hB e1 z1 o1) ⟨by rw [z1, ← hR.1]; exact Nat.le_succ_of_le hS.1, fun q g1 g2 => (o1 q (by rw [← hR.1]; exact Nat.lt_of_lt_of_le g1 hS.1)).trans (hS.2.1 q g1 g2), hS.2.2⟩ hBs (by omega) (by omega) hk
  rw [← hR.1] at e0
  exact e0
theorem zr_objInit {me : zM} {d rc rs B pc : Nat} {L : List (Option Value)} {st : List Value} {h : zH} {Q : Option Value → zH → Prop} {idx a : Nat} (hd : decode me.2.1 pc = .ok (.invokespecial idx, 3)) (hf : Cond.methodLink me.1.cls idx objectInit ∈ zT) (hst : (st.map fun v => v.category).sum ≤ 8) (kk : zw me (d + 1) rc rs B (pc + 3) L st h Q) : zw me (d + 1) rc rs B pc L (.ref a :: st) h Q := by
  intro D cA p l e R s m args below meth c H locs cells slots ls Qf X hn hl hB hR hS hBs hc hs hk
  obtain ⟨hx, hb, hml, hret, hlk, hname, hown, hts, hKK, hfr, hlo, hsc⟩ := id X
  refine W.objInit hx hb hown (hts _ hf) (hts _ zT_oi) (hts _ zT_oc) rfl (by rw [hml]; exact hl.1.trans hn) rfl hd (by omega) ?_ (kk D cA p l e R s m args below meth c H locs cells slots ls Qf X hn hl hB hR hS hBs hc hs hk)
  show 2 * 0 + _ + 12 ≤ R.locals
  omega
theorem zr_max {me : zM} {d rc rs B pc : Nat} {L : List (Option Value)} {st : List Value} {h : zH} {Q : Option Value → zH → Prop} {idx : Nat} {x y : Int32} (hd : decode me.2.1 pc = .ok (.invokestatic idx, 3)) (hf : Cond.methodLink me.1.cls idx Lib.Math.max.name ∈ zT) (hst : (st.map fun v => v.category).sum ≤ 8) (kk : zw me (d + 1) rc rs B (pc + 3) L (.int (if x < y then y else x) :: st) h Q) : zw me (d + 1) rc rs B pc L (.int y :: .int x :: st) h Q := by
  intro D cA p l e R s m args below meth c H locs cells slots ls Qf X hn hl hB hR hS hBs hc hs hk
  obtain ⟨hx, hb, hml, hret, hlk, hname, hown, hts, hKK, hfr, hlo, hsc⟩ := id X
  exact va_mmax hx hb (by rw [hml]; exact (hl.1.trans hn).symm) hown (hts _ hf) (hts _ zT_maxs) (hts _ zT_mi) (hts _ zT_maxc) (by omega) (by omega) (by omega) (by omega) hd (kk D cA p l e R s m args below meth c H locs cells slots ls Qf X hn hl hB hR hS hBs hc hs hk)
theorem zr_min {me : zM} {d rc rs B pc : Nat} {L : List (Option Value)} {st : List Value} {h : zH} {Q : Option Value → zH → Prop} {idx : Nat} {x y : Int32} (hd : decode me.2.1 pc = .ok (.invokestatic idx, 3)) (hf : Cond.methodLink me.1.cls idx Lib.Math.min.name ∈ zT) (hst : (st.map fun v => v.category).sum ≤ 8) (kk : zw me (d + 1) rc rs B (pc + 3) L (.int (if y < x then y else x) :: st) h Q) : zw me (d + 1) rc rs B pc L (.int y :: .int x :: st) h Q := by
  intro D cA p l e R s m args below meth c H locs cells slots ls Qf X hn hl hB hR hS hBs hc hs hk
  obtain ⟨hx, hb, hml, hret, hlk, hname, hown, hts, hKK, hfr, hlo, hsc⟩ := id X
  exact va_mmin hx hb (by rw [hml]; exact (hl.1.trans hn).symm) hown (hts _ hf) (hts _ zT_mins) (hts _ zT_mi) (hts _ zT_minc) (by omega) (by omega) (by omega) (by omega) hd (kk D cA p l e R s m args below meth c H locs cells slots ls Qf X hn hl hB hR hS hBs hc hs hk)
theorem zr_copy {me : zM} {d rc rs B pc : Nat} {L : List (Option Value)} {st : List Value} {h : zH} {Q : Option Value → zH → Prop} {idx a a0 t t0 n n0 : Nat} {f g : Nat → Int32} {sp dp k : Int32} (hd : decode me.2.1 pc = .ok (.invokestatic idx, 3)) (hf : Cond.methodLink me.1.cls idx arraycopyName ∈ zT) (hst : (st.map fun v => v.category).sum ≤ 4) (ha0 : h.2 a0 = some (zI t0 n0 f)) (ha : h.2 a = some (zI t n g)) (ht0 : zTy[t0]? = some .int) (ht : zTy[t]? = some .int) (h1 : ¬ sp < 0) (h2 : ¬ dp < 0) (h3 : ¬ k < 0) (h4 : sp.toNatClampNeg + k.toNatClampNeg ≤ n0) (h5 : dp.toNatClampNeg + k.toNatClampNeg ≤ n) (hne : a0 ≠ a) (kk : zw me (d + 1) rc rs B (pc + 3) L st (zset h a (zI t n (va_cpy f g sp.toNatClampNeg dp.toNatClampNeg k.toNatClampNeg))) Q) : zw me (d + 1) rc rs B pc L (.int k :: .int dp :: .ref a :: .int sp :: .ref a0 :: st) h Q := by
  intro D cA p l e R s m args below meth c H locs cells slots ls Qf X hn hl hB hR hS hBs hc hs hk
  obtain ⟨hx, hb, hml, hret, hlk, hname, hown, hts, hKK, hfr, hlo, hsc⟩ := id X
  have nn : ∀ z : Int32, ¬ z < 0 → z.toInt = (z.toNatClampNeg : Int) := by
    intro z hz
    have hz0 : (0 : Int) ≤ z.toInt := by
      have := Int32.not_lt.mp hz
      simpa using Int32.le_iff_toInt_le.mp this
    show z.toInt = ((z.toInt.toNat : Nat) : Int)
    omega
  have hw5 : nativeFrameWords "java/lang/System" "arraycopy" 5 ≤ 20 := by decide
  have hc0 : H[a0]? = some (vp_cell (cA t0) (n0, .inl f)) := (hR.2 a0 _ ha0).2
  have hc1 : H[a]? = some (vp_cell (cA t) (n, .inl g)) := (hR.2 a _ ha).2
  have hla : a < H.size := (Array.getElem?_eq_some_iff.mp hc1).1
  intro T hT Xs
  obtain ⟨-, k0, hk0, cm0, hkk0⟩ := (hKK.1.2 t0 _ (ztys_at ht0)).1 n0 (fun j => .int (f j))
  obtain ⟨-, k1, hk1, cm1, hkk1⟩ := (hKK.1.2 t _ (ztys_at ht)).1 n (fun j => .int (g j))
  obtain ⟨vm', X', step⟩ := Xs.arraycopy hx hown (hts _ hf) (hts _ zT_an) (hts _ zT_as) (hts _ zT_ai) (src := a0) (dst := a) (cs := vp_cell (cA t0) (n0, .inl f)) (cd := vp_cell (cA t) (n, .inl g)) (srcPos := sp) (destPos := dp) (n := k) (by rw [hT]; exact hc0) (by rw [hT]; exact hc1)
    (fun _ h => by cases h) (fun _ h => by cases h) (fun h => by cases h) (fun h => by cases h) hk0 hk1 hkk0 hkk1 (by simp [refKind]) h1 h2 h3
    (by rw [nn sp h1, nn k h3]; show ¬ _ > ((arrV (cA t0) n0 (fun j => .int (f j))).slots.size : Int); rw [arrV_size]; omega)
    (by rw [nn dp h2, nn k h3]; show ¬ _ > ((arrV (cA t) n (fun j => .int (g j))).slots.size : Int); rw [arrV_size]; omega)
    (fun vm₁ _ i hi => by
      have e : (vp_cell (cA t0) (n0, .inl f)).slots.getD (sp.toNatClampNeg + i) .null = .int (f (sp.toNatClampNeg + i)) := by
        show (arrV (cA t0) n0 (fun j => .int (f j))).slots.getD _ _ = _
        rw [Array.getD_eq_getD_getElem?, arrV_read _ _ (by omega)]
        rfl
      rw [e]
      exact ⟨rfl, trivial⟩)
    (g := F0 m pc ls (.int k :: .int dp :: .ref a :: .int sp :: .ref a0 :: st)) rfl (by rw [hml]; exact hl.1.trans hn) (rest := st) rfl (by rw [hb]; exact hd) (by omega) (by show 2 * 0 + _ + _ ≤ _; omega)
  have e1 : copied (vp_cell (cA t0) (n0, .inl f)) (vp_cell (cA t) (n, .inl g)) sp dp k = vp_cell (cA t) (n, .inl (va_cpy f g sp.toNatClampNeg dp.toNatClampNeg k.toNatClampNeg)) := va_copied (fun z => .int z) (cA t0) (cA t) f g h4
  rw [e1] at X' step
  generalize hcell : vp_cell (cA t) (n, .inl (va_cpy f g sp.toNatClampNeg dp.toNatClampNeg k.toNatClampNeg)) = cell' at X' step
  have hheap : ((T.setVm vm').setCell a cell').heap = H.setIfInBounds a cell' := by rw [← hT]; rfl
  have z : (H.setIfInBounds a cell').size = H.size := by simp
  have oq : ∀ q : Nat, q ≠ a → (H.setIfInBounds a cell')[q]? = H[q]? := fun q hq => by simp [Array.getElem?_setIfInBounds, Ne.symm hq]
  have hat : (H.setIfInBounds a cell')[a]? = some cell' := by simp [Array.getElem?_setIfInBounds, hla]
  obtain ⟨t', a1, b1⟩ := kk D cA p l e R s m args below meth c (H.setIfInBounds a cell') _ cells slots ls Qf X hn hl hB (hR.set ha (show (H.setIfInBounds a cell')[a]? = some (vp_cell (cA t) (n, .inl (va_cpy f g sp.toNatClampNeg dp.toNatClampNeg k.toNatClampNeg))) by rw [hat, hcell]) z oq) ⟨by rw [z]; exact hS.1, fun q g1 g2 => by rw [oq q (fun e => g2 (by rw [e]; exact (hR.2 a _ ha).1))]; exact hS.2.1 q g1 g2, fun q hq => by rcases List.mem_append.mp hq with h | h; (· exact hS.2.2 q h); (· obtain ⟨z, -, hz⟩ := List.mem_map.mp h; rw [← hz]; exact (hR.2 a _ ha).1)⟩ hBs hc hs hk _ hheap X'
  exact ⟨t', step t' a1, b1⟩
theorem z_blind {D : va_G} {cA : Nat → ClassId} {B : Nat} {av : List Value} {h : zH} : FrameBlind (zPc D cA B av h) := fun a U g mk q => ⟨q.1, q.2.1, zKK.same (u := U) (U := U.calling g mk a) rfl q.2.2⟩
section ZCALL
variable {p : Program} {l : Launch} {e : Env} {R : Room} {s : State} {m : MethodId} {args : Array Value} {below : List Frame} {meth : Method} {c : Code} {H : Heap} {locs : List Loc} {cells slots : Nat} {Qf : State → Prop}
theorem z_run {D : va_G} {cA : Nat → ClassId} {B : Nat} {Q1 : Option Value → zH → Prop} {a : Array Value} {mc ms pc : Nat} {ls : Array Slot} {st0 rest : List Value} (hr : va_Run p l e R s m args below meth c H locs cells slots mc ms (F0 m pc ls st0) rest (zQc D cA B Q1 a) (fun q => B ≤ q)) (hS : va_S (fun q => B ≤ q) s.heap H locs)
    (kk : ∀ (r : Option Value) (h1 : zH) (H1 : Heap) (locs1 : List Loc), Q1 r h1 → B ≤ h1.1 → zR D cA B h1 H1 → va_S (fun q => B ≤ q) s.heap H1 locs1 → W p l e R s m args below meth c H1 locs1 (cells + mc) (slots + ms) Qf (F0 m (pc + 3) ls (r.toList ++ rest))) : W p l e R s m args below meth c H locs cells slots Qf (F0 m pc ls st0) := by
  intro T hT X
  obtain ⟨v, st₀, t, T', L, h0, X', hL, e1, e2, ⟨⟨r, h1, hv, hq, hb1, hr1⟩, hz, hk⟩, st⟩ := hr T hT X
  cases hv
  rw [h0] at hz hk
  obtain ⟨t2, a1, b1⟩ := kk v h1 T'.heap (locs ++ L) hq hb1 (by rw [e1]; exact hr1)
    ⟨Nat.le_trans hS.1 (by rw [e1]; exact hz), fun q h1 h2 => by rw [e1, hk q (Nat.lt_of_lt_of_le h1 hS.1) h2]; exact hS.2.1 q h1 h2, fun q hq => by
      rcases List.mem_append.mp hq with h | h
      · exact hS.2.2 q h
      · exact hL q h⟩ T' rfl X'
  exact ⟨t2, st t2 a1, b1⟩
end ZCALL
theorem z_words {y : zM} {s : State} {args : Array Value} (hts : ∀ w ∈ zT, w.before args s = true) (hc : Cond.code y.1 y.2.1 y.2.2.1 y.2.2.2.1 ∈ zT) : ∀ w ∈ zWs y, ∀ (a' : Array Value) (U : State), s.WarmedH U.vm → w.before a' U = true := by
  intro w hw a' U hW
  have hw' : w ∈ zT := by
    rcases List.mem_cons.mp hw with rfl | h
    · exact hc
    · exact h
  exact word_at hW (zT_good w hw') (hts w hw')
theorem z_par {y : zM} {n : Nat} (h : (parseMethodDescriptor y.1.desc).map (fun d => d.parameters.length) = some n) : ∀ sig, parseMethodDescriptor y.1.desc = some sig → n = sig.parameters.length := by
  intro sig hs
  rw [hs] at h
  exact (Option.some.inj h).symm
theorem zr_callS {me : zM} {d rc rs B pc : Nat} {L : List (Option Value)} {st : List Value} {h : zH} {Q : Option Value → zH → Prop} {idx n mc ms : Nat} {y : zM} {As : List Value} (hd : decode me.2.1 pc = .ok (.invokestatic idx, 3)) (hf : zSl me.1.cls idx y n) (hAs : As.length = n) (hst : (st.map fun v => v.category).sum ≤ 8) (hmc : mc ≤ rc) (hms : ms ≤ rs) (kk : zC y d mc ms B As h (fun r h' => zw me (d + 1) (rc - mc) (rs - ms) B (pc + 3) L (r.toList ++ st) h' Q)) : zw me (d + 1) rc rs B pc L (As.reverse ++ st) h Q := by
  intro D cA p l e R s m args below meth c H locs cells slots ls Qf X hn hl hB hR hS hBs hc hs hk
  obtain ⟨hx, hb, hml, hret, hlk, hname, hown, hts, hKK, hfr, hlo, hsc⟩ := id X
  obtain ⟨hlk1, hstat, hcode, hini, hy, hpar, hmx⟩ := hf
  have hpre : PreS s H (zPc D cA B As h) As := ⟨z_blind, fun U hU hW => ⟨rfl, ⟨hB, by rw [hU]; exact hR⟩, hKK.warm hW⟩⟩
  have hfix : CallFix p m c me.2.1 L.length s args zT me.1.cls := ⟨hx, hb, hml.trans hn.symm, hown, hts⟩
  have hroom : (zRm d mc ms).frames + 1 ≤ R.frames ∧ 8 + (y.2.2.1 + 11) + (zRm d mc ms).locals ≤ R.locals := ⟨by show d + 1 ≤ _; exact hfr, by show 8 + (y.2.2.1 + 11) + 40 * d ≤ _; omega⟩
  have hww := z_words (y := y) hts hcode
  have hcm : Cond.code y.1 y.2.1 y.2.2.1 y.2.2.2.1 ∈ zWs y := List.mem_cons_self
  have hrun : va_Run p l e R s m args below meth c H locs cells slots mc ms (F0 m pc ls (As.reverse ++ st)) st (zQc D cA B (fun r h' => zw me (d + 1) (rc - mc) (rs - ms) B (pc + 3) L (r.toList ++ st) h' Q) As.toArray) (fun q => B ≤ q) := by
    rcases hlk1 with h1 | ⟨host, h1⟩
    · exact va_runS hfix (kk l D cA) ⟨⟨rfl, rfl, hroom.1, hroom.2, hww, hcm, hts _ hcode, hts _ hini, hy, z_par hpar, hts _ h1⟩, hts _ hstat⟩ hpre rfl hAs hl.1 rfl (lv_room hst) hd ⟨by omega, by omega⟩
    · exact va_runSN hfix (kk l D cA) ⟨⟨⟨rfl, rfl, hroom.1, hroom.2, hww, hcm⟩, hts _ hcode, hts _ hini, hy, z_par hpar, va_Nw.use rfl (hKK.2.2.1 _ h1)⟩, hts _ hstat, trivial⟩ hpre rfl hAs hl.1 rfl (lv_room hst) hd ⟨by omega, by omega⟩
  refine z_run hrun hS fun r h1 H1 locs1 hq hB1 hR1 hS1 => ?_
  exact hq D cA p l e R s m args below meth c H1 locs1 (cells + mc) (slots + ms) ls Qf X hn hl hB1 hR1 hS1 hBs (by omega) (by omega) hk
theorem zr_callI {me : zM} {d rc rs B pc : Nat} {L : List (Option Value)} {st : List Value} {h : zH} {Q : Option Value → zH → Prop} {idx n mc ms b : Nat} {y : zM} {As : List Value} (hd : decode me.2.1 pc = .ok (.invokespecial idx, 3)) (hf : zIl me.1.cls idx y n) (hAs : As.length = n) (hst : (st.map fun v => v.category).sum ≤ 8) (hmc : mc ≤ rc) (hms : ms ≤ rs) (kk : zC y d mc ms B (.ref b :: As) h (fun r h' => zw me (d + 1) (rc - mc) (rs - ms) B (pc + 3) L (r.toList ++ st) h' Q)) : zw me (d + 1) rc rs B pc L (As.reverse ++ .ref b :: st) h Q := by
  intro D cA p l e R s m args below meth c H locs cells slots ls Qf X hn hl hB hR hS hBs hc hs hk
  obtain ⟨hx, hb, hml, hret, hlk, hname, hown, hts, hKK, hfr, hlo, hsc⟩ := id X
  obtain ⟨hlk1, hin1, hinst, hret0, hcode, hini, hy, hpar, hmx⟩ := hf
  have hpre : PreS s H (zPc D cA B (.ref b :: As) h) (.ref b :: As) := ⟨z_blind, fun U hU hW => ⟨rfl, ⟨hB, by rw [hU]; exact hR⟩, hKK.warm hW⟩⟩
  have hfix : CallFix p m c me.2.1 L.length s args zT me.1.cls := ⟨hx, hb, hml.trans hn.symm, hown, hts⟩
  have hroom : (zRm d mc ms).frames + 1 ≤ R.frames ∧ 8 + (y.2.2.1 + 11) + (zRm d mc ms).locals ≤ R.locals := ⟨by show d + 1 ≤ _; exact hfr, by show 8 + (y.2.2.1 + 11) + 40 * d ≤ _; omega⟩
  have hww := z_words (y := y) hts hcode
  have hcm : Cond.code y.1 y.2.1 y.2.2.1 none ∈ zWs y := by rw [← hret0]; exact List.mem_cons_self
  have hcode' : Cond.code y.1 y.2.1 y.2.2.1 none ∈ zT := by rw [← hret0]; exact hcode
  have hrun : va_Run p l e R s m args below meth c H locs cells slots mc ms (F0 m pc ls (As.reverse ++ .ref b :: st)) st (zQc D cA B (fun r h' => zw me (d + 1) (rc - mc) (rs - ms) B (pc + 3) L (r.toList ++ st) h' Q) (Value.ref b :: As).toArray) (fun q => B ≤ q) := by
    rcases hlk1 with h1 | ⟨host, h1⟩
    · exact va_runI hfix (kk l D cA) ⟨⟨rfl, rfl, hroom.1, hroom.2, hww, hcm, hts _ hcode', hts _ hini, hy, z_par hpar, hts _ h1⟩, hin1, hts _ hinst⟩ hpre rfl hAs hl.1 rfl (lv_room hst) hd ⟨by omega, by omega⟩
    · exact va_runIN hfix (kk l D cA) ⟨⟨⟨rfl, rfl, hroom.1, hroom.2, hww, hcm⟩, hts _ hcode', hts _ hini, hy, z_par hpar, va_Nw.use rfl (hKK.2.2.1 _ h1)⟩, hin1, hts _ hinst⟩ hpre rfl hAs hl.1 rfl (lv_room hst) hd ⟨by omega, by omega⟩
  refine z_run hrun hS fun r h1 H1 locs1 hq hB1 hR1 hS1 => ?_
  exact hq D cA p l e R s m args below meth c H1 locs1 (cells + mc) (slots + ms) ls Qf X hn hl hB1 hR1 hS1 hBs (by omega) (by omega) hk
theorem zr_callV {me : zM} {d rc rs B pc : Nat} {L : List (Option Value)} {st : List Value} {h : zH} {Q : Option Value → zH → Prop} {idx n mc ms b ci : Nat} {y : zM} {As fs : List Value} (hd : decode me.2.1 pc = .ok (.invokevirtual idx, 3)) (hf : zVl me.1.cls idx y n ci) (hb0 : h.2 b = some (zO ci fs)) (hAs : As.length = n) (hst : (st.map fun v => v.category).sum ≤ 8) (hmc : mc ≤ rc) (hms : ms ≤ rs) (kk : zC y d mc ms B (.ref b :: As) h (fun r h' => zw me (d + 1) (rc - mc) (rs - ms) B (pc + 3) L (r.toList ++ st) h' Q)) : zw me (d + 1) rc rs B pc L (As.reverse ++ .ref b :: st) h Q := by
  intro D cA p l e R s m args below meth c H locs cells slots ls Qf X hn hl hB hR hS hBs hc hs hk
  obtain ⟨hx, hb, hml, hret, hlk, hname, hown, hts, hKK, hfr, hlo, hsc⟩ := id X
  obtain ⟨hlk1, hinst, hsel, ⟨hcode, hini, hy, hpar, hmx⟩, T, N, hc0⟩ := hf
  have hpre : PreV s H y.1.cls b (zPc D cA B (.ref b :: As) h) As := ⟨z_blind, va_recv hKK.1 (hR.one hb0) hc0 (q0 := 0) rfl, fun U hU hW => ⟨rfl, ⟨hB, by rw [hU]; exact hR⟩, hKK.warm hW⟩⟩
  have hfix : CallFix p m c me.2.1 L.length s args zT me.1.cls := ⟨hx, hb, hml.trans hn.symm, hown, hts⟩
  have hroom : (zRm d mc ms).frames + 1 ≤ R.frames ∧ 8 + (y.2.2.1 + 11) + (zRm d mc ms).locals ≤ R.locals := ⟨by show d + 1 ≤ _; exact hfr, by show 8 + (y.2.2.1 + 11) + 40 * d ≤ _; omega⟩
  have hww := z_words (y := y) hts hcode
  have hcm : Cond.code y.1 y.2.1 y.2.2.1 y.2.2.2.1 ∈ zWs y := List.mem_cons_self
  have hrun : va_Run p l e R s m args below meth c H locs cells slots mc ms (F0 m pc ls (As.reverse ++ .ref b :: st)) st (zQc D cA B (fun r h' => zw me (d + 1) (rc - mc) (rs - ms) B (pc + 3) L (r.toList ++ st) h' Q) (Value.ref b :: As).toArray) (fun q => B ≤ q) := by
    rcases hlk1 with h1 | ⟨host, h1⟩
    · exact va_runV hfix (kk l D cA) ⟨⟨rfl, rfl, hroom.1, hroom.2, hww, hcm, hts _ hcode, hts _ hini, hy, z_par hpar, hts _ h1⟩, hts _ hinst, hts _ hsel⟩ hpre rfl hAs hl.1 rfl (lv_room hst) hd ⟨by omega, by omega⟩
    · exact va_runVN hfix (kk l D cA) ⟨⟨⟨rfl, rfl, hroom.1, hroom.2, hww, hcm⟩, hts _ hcode, hts _ hini, hy, z_par hpar, va_Nw.use rfl (hKK.2.2.1 _ h1)⟩, hts _ hinst, hts _ hsel⟩ hpre rfl hAs hl.1 rfl (lv_room hst) hd ⟨by omega, by omega⟩
  refine z_run hrun hS fun r h1 H1 locs1 hq hB1 hR1 hS1 => ?_
  exact hq D cA p l e R s m args below meth c H1 locs1 (cells + mc) (slots + ms) ls Qf X hn hl hB1 hR1 hS1 hBs (by omega) (by omega) hk
