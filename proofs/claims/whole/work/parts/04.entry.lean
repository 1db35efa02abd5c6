/-! From a frame's run to a call's contract. -/
theorem z_args : ∀ (vs : List Value) (j i : Nat) (v : Value), (∀ v ∈ vs, v.category = 1) → vs[i]? = some v → (j + i, v) ∈ lv_args j vs
  | [], j, i, v, _, h => by simp at h
  | w :: vs, j, i, v, hc, h => by
    have hw : ¬ w.category = 2 := by rw [hc w List.mem_cons_self]; decide
    cases i with
    | zero =>
      rw [List.getElem?_cons_zero] at h
      cases h
      exact List.mem_cons_self
    | succ i =>
      rw [List.getElem?_cons_succ] at h
      have := z_args vs (j + 1) i v (fun x hx => hc x (List.mem_cons_of_mem _ hx)) h
      show (j + (i + 1), v) ∈ (j, w) :: lv_args (if w.category = 2 then j + 2 else j + 1) vs
      rw [if_neg hw]
      rw [show j + (i + 1) = j + 1 + i by omega]
      exact List.mem_cons_of_mem _ this
theorem z_sl : ∀ (vs : List Value), (∀ v ∈ vs, v.category = 1) → (lg_sl vs).length = vs.length
  | [], _ => rfl
  | w :: vs, hc => by
    have hw : ¬ w.category = 2 := by rw [hc w List.mem_cons_self]; decide
    have ih := z_sl vs (fun x hx => hc x (List.mem_cons_of_mem _ hx))
    unfold lg_sl at ih ⊢
    rw [List.flatMap_cons, if_neg hw, List.length_append, ih]
    simp [Nat.add_comm]
def zin (me : zM) (av : List Value) : List (Option Value) := av.map some ++ List.replicate (me.2.2.1 - av.length) none
theorem zin_len {me : zM} {av : List Value} (h : av.length ≤ me.2.2.1) : (zin me av).length = me.2.2.1 := by
  simp [zin]; omega
theorem zin_at {me : zM} {av : List Value} {i : Nat} {v : Value} (h : (zin me av)[i]? = some (some v)) : av[i]? = some v := by
  unfold zin at h
  by_cases hi : i < av.length
  · rw [List.getElem?_append_left (by simpa using hi), List.getElem?_map] at h
    cases hx : av[i]? with
    | none => rw [hx] at h; cases h
    | some w => rw [hx] at h; cases h; rfl
  · rw [List.getElem?_append_right (by simpa using hi)] at h
    have := List.mem_of_getElem? h
    rw [List.mem_replicate] at this
    exact absurd this.2 (by simp)
/-- the contract of a method out of its body's run -/
theorem zC.intro {me : zM} {d mc ms B : Nat} {av : List Value} {h : zH} {Q : Option Value → zH → Prop} (hpl : plainName me.1.cls = true) (hscr : me.2.2.2.2 = none) (hlen : av.length ≤ me.2.2.1) (hcat : ∀ v ∈ av, v.category = 1)
    (hw : zw me d mc ms B 0 (zin me av) [] h Q) : zC me d mc ms B av h Q := by
  intro l D cA
  refine Met.ofW (cc := me.2.1) (maxL := me.2.2.1) (ret := me.2.2.2.1) hpl rfl ?_
  intro p e s m args below meth c s₁ Bd hml hv
  obtain ⟨rfl, ⟨hB, hR⟩, hK⟩ := hv
  have hts := atoms_spec (ws := zWs me) Bd.pre
  have hown : s.vm.findClass me.1.cls = some m.cls := findClass_of_methodNamed Bd.named
  have hl := lv_entry av (n := me.2.2.1) (by rw [z_sl av hcat]; exact hlen)
  rw [lg_entry_eq]
  generalize (lg_sl av ++ List.replicate (me.2.2.1 - (lg_sl av).length) Slot.unset).toArray = ls at hl ⊢
  refine hw D cA p l e _ s m _ below meth c s.heap [] 0 0 ls _ ⟨Bd.exec, Bd.bytes, hml, Bd.returns, Bd.notSynchronized, (fun _ => (name_of_methodNamed Bd.named Bd.method).1), hown, fun w hw => hts w (List.mem_cons_of_mem _ hw), hK, Nat.le_refl _, Nat.le_refl _, by rw [hscr]; trivial⟩ (zin_len hlen) ⟨hl.1.trans (zin_len hlen).symm, hl.2.1, fun i v hv => ?_⟩ hB hR va_S.rf (by rw [hR.1]; exact hB) (by show 0 + mc ≤ mc; omega) (by show 0 + ms ≤ ms; omega) ?_
  · have := z_args av 0 i v hcat (zin_at hv)
    rw [Nat.zero_add] at this
    exact ⟨hl.2.2 _ this, hcat v (List.mem_of_getElem? (zin_at hv))⟩
  · intro r h' H' locs' cells' slots' pc' ls' hQ hB' hR' hS' hc' hs' hret
    refine W.widen (k := mc) (n := ms) hc' hs' ?_
    rcases hret with ⟨rfl, hr, hd⟩ | ⟨v, ty, rfl, hr, hn, hd⟩ | ⟨v, C, rfl, hr, hv, hd⟩
    · exact W.vret Bd.exec Bd.bytes (Bd.returns.trans hr) (fun t ht hW => ⟨⟨none, h', rfl, hQ, hB', by rw [ht]; exact hR'⟩, hS'.F ht⟩) hS'.2.2 hd Bd.notSynchronized
    · exact W.zret Bd.exec Bd.bytes (Bd.returns.trans hr) hn (fun t ht hW => ⟨⟨_, h', rfl, hQ, hB', by rw [ht]; exact hR'⟩, hS'.F ht⟩) hS'.2.2 hd Bd.notSynchronized
    · exact W.aret Bd.exec Bd.bytes (Bd.returns.trans hr) (Or.inl ⟨C, rfl⟩) hv (fun t ht hW => ⟨⟨_, h', rfl, hQ, hB', by rw [ht]; exact hR'⟩, hS'.F ht⟩) hS'.2.2 hd Bd.notSynchronized
theorem zC.mono {me : zM} {d mc ms B : Nat} {av : List Value} {h : zH} {Q Q' : Option Value → zH → Prop} (hq : ∀ r h', Q r h' → Q' r h') (hc : zC me d mc ms B av h Q) : zC me d mc ms B av h Q' := by
  intro l D cA
  have := hc l D cA
  intro p e ha hcc hk s m args below hf happ hP hK
  obtain ⟨k, o, h1, h2, h3, hQ, hF⟩ := this p e ha hcc hk s m args below hf happ hP hK
  obtain ⟨⟨r, h', e1, e2, e3⟩, e4⟩ := hQ
  exact ⟨k, o, h1, h2, h3, ⟨⟨r, h', e1, hq r h' e2, e3⟩, e4⟩, hF⟩
