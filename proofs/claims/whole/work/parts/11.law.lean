/-! The law's claim out of a run of its frame over the pure heap. -/
theorem z_arr {s : State} {args : Array Value} {ty : FieldType} (h : (Cond.arrayClass ty).before args s = true) (hp : ∀ C, ty ≠ .object C) : ∃ cA : ClassId, ArrOfT s cA ty ∧ va_RA s cA ty := by
  obtain ⟨cA, kA, comp, hfind, hk, hkind⟩ := Cond.arrayClass_spec h
  refine ⟨cA, fun n z => ⟨fun k h => (by cases h), kA, hk, comp, hkind⟩, ?_⟩
  cases ty <;> first | exact hfind | exact absurd rfl (hp _)
theorem z_ovr {s : State} {args : Array Value} {C : String} (h : (Cond.arrayOver (.object C)).before args s = true) : ∃ cA : ClassId, ArrOfT s cA (.object C) ∧ va_RA s cA (.object C) := by
  obtain ⟨comp, c, k, h1, h2, h3, h4, h5⟩ := Cond.arrayOver_spec h
  exact ⟨c, fun n z => ⟨fun k h => (by cases h), k, h3, comp, h4⟩, k, comp, h3, h4, h1, h5⟩
theorem z_known {s : State} {args : Array Value} (hts : ∀ w ∈ lw_tbl, w.before args s = true) : ∃ (D : va_G) (cA : Nat → ClassId), zKK D cA s := by
  have hz : ∀ w ∈ zT, w.before args s = true := fun w h => hts w (List.mem_filter.mp h).1
  have ht : ∀ w ∈ tables_1, w.before args s = true := fun w h => hts w (List.mem_append_right _ h)
  have hc : ∀ ci : Nat, ∃ q : ClassId × (Nat → Nat), ∀ r : vw_C, zCl[ci]? = some r → u_Kn s r.1 r.2.1 r.2.2 q.1 q.2 := by
    intro ci
    cases h : zCl[ci]? with
    | none => exact ⟨(default, fun _ => 0), fun r hr => by cases hr⟩
    | some r =>
      obtain ⟨C, T, N⟩ := r
      obtain ⟨h1, -, -, -, h5, -⟩ := zCl_ok ci C T N h
      obtain ⟨cC, iS, hk⟩ := u_known (T := T) (N := N) hz h1 (hz _ h5)
      exact ⟨(cC, iS), fun r hr => by cases hr; exact hk⟩
  have ha : ∀ t : Nat, ∃ cA : ClassId, ∀ ty : FieldType, zTy[t]? = some ty → ArrOfT s cA ty ∧ va_RA s cA ty := by
    intro t
    have hao : ∀ C, C ∈ zAO → (Cond.arrayOver (.object C)).before args s = true := fun C hC => zao_in ht C hC
    match t with
    | 0 => obtain ⟨c, h⟩ := z_arr (hz _ zT_aint) (fun C q => by cases q); exact ⟨c, fun ty q => by cases q; exact h⟩
    | 1 => obtain ⟨c, h⟩ := z_arr (hz _ zT_achar) (fun C q => by cases q); exact ⟨c, fun ty q => by cases q; exact h⟩
    | 2 => obtain ⟨c, h⟩ := z_arr (hz _ zT_aboolean) (fun C q => by cases q); exact ⟨c, fun ty q => by cases q; exact h⟩
    | 3 => obtain ⟨c, h⟩ := z_ovr (hao "DepotServer$Row" (by decide)); exact ⟨c, fun ty q => by cases q; exact h⟩
    | 4 => obtain ⟨c, h⟩ := z_ovr (hao "DepotServer$Line" (by decide)); exact ⟨c, fun ty q => by cases q; exact h⟩
    | 5 => obtain ⟨c, h⟩ := z_ovr (hao "DepotServer$Revision" (by decide)); exact ⟨c, fun ty q => by cases q; exact h⟩
    | 6 => obtain ⟨c, h⟩ := z_ovr (hao "DepotServer$Work" (by decide)); exact ⟨c, fun ty q => by cases q; exact h⟩
    | 7 => obtain ⟨c, h⟩ := z_ovr (hao "DepotServer$State" (by decide)); exact ⟨c, fun ty q => by cases q; exact h⟩
    | k + 8 => exact ⟨default, fun ty q => by simp [zTy] at q⟩
  refine ⟨(fun ci => (Classical.choose (hc ci)).1, fun ci => (Classical.choose (hc ci)).2), fun t => Classical.choose (ha t), ⟨fun ci r hr => Classical.choose_spec (hc ci) r hr, fun t q hq => ?_⟩, fun q hq => ?_, fun q hq => ?_, fun C hC => ?_⟩
  · cases h : zTy[t]? with
    | none => simp [ztys, List.getElem?_map, List.getElem?_zipIdx, h] at hq
    | some ty =>
      rw [ztys_at h] at hq
      cases hq
      exact Classical.choose_spec (ha t) ty h
  · exact absurd hq (by simp [zNF])
  · exact va_Nw.of rfl (znm_in ht q hq)
  · exact va_AO.of (zao_in ht C hC)
/-- the law's run over the pure heap: B cells were there before -/
def zlaw : Prop := ∀ (b L B : Nat) (xs : Nat → Int32), L ≤ 2560 → zw (mLaw (b, L, xs)) 40 600000 7302250 B 0 [some (.ref b), none, none, none] [] (B, fun _ => none) (fun r _ => r = some (.int 1))
theorem z_start (hlaw : zlaw) {p : Program} {e : Env} {s : State} {m : MethodId} {below : List Frame} {meth : Method} {c : Code} (l : Launch) {b L : Nat} {xs : Nat → Int32} (hL : L ≤ 2560) (C0 : lw_At p s m meth c b L xs) : W p l e room_1 s m #[Value.ref b] below meth c s.heap [] 0 0 (lw_Z below #[Value.ref b] s) (entryFrame m ([Value.ref b] : List Value).toArray 4) := by
  obtain ⟨hx, hb, hr, hml, hown, hts, hX, hbl, hlk, -⟩ := C0
  obtain ⟨D, cA, hKK⟩ := z_known hts
  have hz : ∀ w ∈ zT, w.before #[Value.ref b] s = true := fun w h => hts w (List.mem_filter.mp h).1
  have hl := lv_entry [Value.ref b] (n := 4) (Nat.le_of_ble_eq_true rfl)
  rw [lg_entry_eq]
  generalize (lg_sl ([.ref b]) ++ List.replicate (4 - (lg_sl ([.ref b])).length) Slot.unset).toArray = ls at hl ⊢
  refine hlaw b L s.heap.size xs hL D cA p l e room_1 s m #[Value.ref b] below meth c s.heap [] 0 0 ls _ ⟨hx, hb, hml, hr, hlk, (fun h => by cases h), hown, hz, hKK, (by decide), (by decide), hX, hbl, hbl⟩ rfl ⟨hl.1, hl.2.1, fun i v hv => ?_⟩ (Nat.le_refl _) ⟨rfl, fun a e h => by cases h⟩ va_S.rf (Nat.le_refl _) (by decide) (by decide) ?_
  · match i, hv with
    | 0, hv => cases hv; exact ⟨hl.2.2 (0, .ref b) List.mem_cons_self, rfl⟩
    | 1, hv => cases hv
    | 2, hv => cases hv
    | 3, hv => cases hv
    | k + 4, hv => simp at hv
  · intro r h' H' locs' cells' slots' pc' ls' hQ hB' hR' hS' hc' hs' hret
    subst hQ
    refine va_forget (fun q hq => hS'.2.2 q hq) ?_
    refine W.widen (k := 600000) (n := 7302250) hc' hs' ?_
    rcases hret with ⟨h0, -⟩ | ⟨v, ty, h0, hr0, hn, hd⟩ | ⟨v, C, h0, hr0, -⟩
    · cases h0
    · cases h0
      exact lw_ret hx hb hr hlk hd
    · cases hr0
