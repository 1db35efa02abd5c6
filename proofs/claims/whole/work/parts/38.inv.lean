/-! What holds between two calls. -/
def gSt (cat : gCat) (rs : Nat → gRec) : Nat → gU
  | 0 => gU0
  | n + 1 => gRun cat (gSt cat rs n) (rs n)
def gCatX (cat : gCat) : Prop := cat.1.length ≤ 12 ∧ cat.2.length ≤ 10 ∧ ∀ ln ∈ cat.2, ln.2.1.length ≤ 12 ∧ (ln.1 = false → 1 ≤ ln.2.2.length)
def gIV (S : gS) (rs : Nat → gRec) : Prop := gOK S ∧ gCatX S.2.1 ∧ (∀ j, j < S.2.2.2.1 → gRecOK S.2.1 (gSt S.2.1 rs j) (rs j)) ∧ S.2.2.1 = gSt S.2.1 rs S.2.2.2.1 ∧ ∀ j, j < S.2.2.2.1 → S.2.2.2.1 ≤ j + S.2.2.2.2.1 → S.2.2.2.2.2 (j % 8) = gSt S.2.1 rs j
theorem gU0_ok (cat : gCat) : gUOK cat gU0 := ⟨fun i _ => Nat.zero_le _, Nat.zero_le _, Nat.le_refl _, Nat.le_refl _, fun i _ => Nat.zero_le _, fun i _ => ⟨Nat.zero_le _, fun q hq => by cases hq⟩, fun r hr => (by cases hr), fun c f _ _ _ => rfl⟩
theorem gSt_ok {cat : gCat} {rs : Nat → gRec} (h12 : cat.1.length ≤ 12) {n : Nat} (hr : ∀ j, j < n → gRecOK cat (gSt cat rs j) (rs j)) : ∀ j, j ≤ n → gUOK cat (gSt cat rs j)
  | 0, _ => gU0_ok cat
  | j + 1, hj => gRun_ok (gSt_ok h12 hr j (by omega)) h12 (hr j (by omega))
theorem gSt_up {cat cat' : gCat} (hl : gLe cat cat') {rs : Nat → gRec} (h12 : cat'.1.length ≤ 12) {n : Nat} (hr : ∀ j, j < n → gRecOK cat (gSt cat rs j) (rs j)) : ∀ j, j ≤ n → gSt cat' rs j = gSt cat rs j
  | 0, _ => rfl
  | j + 1, hj => by
    have h1 := hl.len.1
    have ih := gSt_up hl h12 hr j (by omega)
    have hok := gSt_ok (cat := cat) (by omega) hr j (by omega)
    show gRun cat' (gSt cat' rs j) (rs j) = gRun cat (gSt cat rs j) (rs j)
    rw [ih]
    exact (gRun_up hl hok h12 (hr j (by omega))).1
theorem gSt_eq {cat : gCat} {rs rs' : Nat → gRec} {n : Nat} (h : ∀ j, j < n → rs' j = rs j) : ∀ j, j ≤ n → gSt cat rs' j = gSt cat rs j
  | 0, _ => rfl
  | j + 1, hj => by
    show gRun cat (gSt cat rs' j) (rs' j) = gRun cat (gSt cat rs j) (rs j)
    rw [gSt_eq h j (by omega), h j (by omega)]
theorem gIV.note {S : gS} {rs : Nat → gRec} {r : gRec} (hv : gIV S rs) (hn : S.2.2.2.1 < 512) (hr : gRecOK S.2.1 S.2.2.1 r) : gIV (gNote S (gRun S.2.1 S.2.2.1 r)) (va_up rs S.2.2.2.1 r) := by
  obtain ⟨⟨k1, k2, k3, k4, k5, k6⟩, h2, h3, h4, h5⟩ := hv
  have e : ∀ j, j ≤ S.2.2.2.1 → gSt S.2.1 (va_up rs S.2.2.2.1 r) j = gSt S.2.1 rs j := gSt_eq (fun j hj => va_up_ne _ _ (by omega))
  have hok := gRun_ok k2 h2.1 hr
  refine ⟨⟨k1, hok, ?_, ?_, ?_, fun i hi => ?_⟩, h2, fun j hj => ?_, ?_, fun j hj hj2 => ?_⟩
  · show S.2.2.2.1 + 1 ≤ 512
    omega
  · show min (S.2.2.2.2.1 + 1) 8 ≤ 8
    omega
  · show min (S.2.2.2.2.1 + 1) 8 ≤ S.2.2.2.1 + 1
    omega
  · show gUOK S.2.1 (va_up S.2.2.2.2.2 (S.2.2.2.1 % 8) S.2.2.1 i)
    by_cases h9 : i = S.2.2.2.1 % 8
    · rw [h9, va_up_self]
      exact k2
    · rw [va_up_ne _ _ h9]
      exact k6 i hi
  · have hj : j < S.2.2.2.1 + 1 := hj
    show gRecOK S.2.1 (gSt S.2.1 (va_up rs S.2.2.2.1 r) j) (va_up rs S.2.2.2.1 r j)
    rw [e j (by omega)]
    by_cases h9 : j = S.2.2.2.1
    · rw [h9, va_up_self, ← h4]
      exact hr
    · rw [va_up_ne _ _ h9]
      exact h3 j (by omega)
  · show gRun S.2.1 S.2.2.1 r = gRun S.2.1 (gSt S.2.1 (va_up rs S.2.2.2.1 r) S.2.2.2.1) (va_up rs S.2.2.2.1 r S.2.2.2.1)
    rw [e _ (Nat.le_refl _), va_up_self, ← h4]
  · have hj : j < S.2.2.2.1 + 1 := hj
    have hj2 : S.2.2.2.1 + 1 ≤ j + min (S.2.2.2.2.1 + 1) 8 := hj2
    show va_up S.2.2.2.2.2 (S.2.2.2.1 % 8) S.2.2.1 (j % 8) = gSt S.2.1 (va_up rs S.2.2.2.1 r) j
    rw [e j (by omega)]
    by_cases h9 : j = S.2.2.2.1
    · rw [h9, va_up_self]
      exact h4
    · rw [va_up_ne _ _ (by omega)]
      exact h5 j (by omega) (by omega)
theorem gIV.up {S : gS} {rs : Nat → gRec} {cat : gCat} {b : gT} (hv : gIV S rs) (hl : gLe S.2.1 cat) (h1 : gCatOK cat) (h2 : gCatX cat) : gIV (b, cat, S.2.2) rs := by
  obtain ⟨⟨k1, k2, k3, k4, k5, k6⟩, -, h3, h4, h5⟩ := hv
  have l1 := hl.len.1
  have h12 := h2.1
  have e := gSt_up hl h2.1 h3
  refine ⟨⟨h1, k2.up hl, k3, k4, k5, fun i hi => (k6 i hi).up hl⟩, h2, fun j hj => ?_, ?_, fun j hj hj2 => ?_⟩
  · show gRecOK cat (gSt cat rs j) (rs j)
    rw [e j (Nat.le_of_lt hj)]
    exact (gRun_up hl (gSt_ok (by omega) h3 j (Nat.le_of_lt hj)) h12 (h3 j hj)).2
  · show S.2.2.1 = gSt cat rs S.2.2.2.1
    rw [e _ (Nat.le_refl _)]
    exact h4
  · show S.2.2.2.2.2 (j % 8) = gSt cat rs j
    rw [e j (Nat.le_of_lt hj)]
    exact h5 j hj hj2
theorem gIV.buf {S : gS} {rs : Nat → gRec} (b : gT) (hv : gIV S rs) : gIV (b, S.2) rs := hv
theorem gIV.lose {S : gS} {rs : Nat → gRec} {l : Nat} (hv : gIV S rs) (hl : l ≤ S.2.2.2.2.1) : gIV (S.1, S.2.1, gSt S.2.1 rs (S.2.2.2.1 - l), S.2.2.2.1 - l, S.2.2.2.2.1 - l, S.2.2.2.2.2) rs := by
  obtain ⟨⟨k1, k2, k3, k4, k5, k6⟩, h2, h3, h4, h5⟩ := hv
  refine ⟨⟨k1, gSt_ok h2.1 h3 _ (by omega), ?_, ?_, ?_, k6⟩, h2, fun j hj => h3 j (Nat.lt_of_lt_of_le hj (Nat.sub_le _ _)), rfl, fun j hj hj2 => ?_⟩
  · show S.2.2.2.1 - l ≤ 512
    omega
  · show S.2.2.2.2.1 - l ≤ 8
    omega
  · show S.2.2.2.2.1 - l ≤ S.2.2.2.1 - l
    omega
  · have hj : j < S.2.2.2.1 - l := hj
    have hj2 : S.2.2.2.1 - l ≤ j + (S.2.2.2.2.1 - l) := hj2
    exact h5 j (by omega) (by omega)
theorem gCrash2_eq {S : gS} {rs : Nat → gRec} {l : Nat} (hv : gIV S rs) (hl : l ≤ S.2.2.2.2.1) : gCrash2 S l = (nI (S.2.2.2.1 - l), S.1, S.2.1, gSt S.2.1 rs (S.2.2.2.1 - l), S.2.2.2.1 - l, S.2.2.2.2.1 - l, S.2.2.2.2.2) := by
  obtain ⟨⟨k1, k2, k3, k4, k5, k6⟩, h2, h3, h4, h5⟩ := hv
  unfold gCrash2
  rw [if_neg (by omega)]
  by_cases h0 : l = 0
  · subst h0
    rw [if_pos rfl, Nat.sub_zero, ← h4]
  · rw [if_neg h0, h5 (S.2.2.2.1 - l) (by omega) (by omega)]
theorem gLineOf_ok {l : gT} {ln : gLine} (h : gLineOf l = some ln) : gLnOK ln ∧ ln.2.1.length ≤ 12 ∧ (ln.1 = false → 1 ≤ ln.2.2.length) := by
  have wl : ∀ {m : gT}, gSide m = true → ∀ c ∈ m, c ≠ nI 0 := by
    intro m hm c hc q
    subst q
    rcases (gSide_len hm).2.2.1 _ hc with q | q
    · exact absurd q (by decide)
    · exact absurd q (by decide)
  unfold gLineOf at h
  split at h
  · cases h
  · split at h
    · split at h
      · cases h
        rename_i hs
        obtain ⟨s1, s2, s3, s4⟩ := gSide_len hs
        exact ⟨⟨wl hs, s4, fun _ => rfl, fun q => (by cases q), Nat.zero_le _⟩, s2, fun q => by cases q⟩
      · cases h
    · split at h
      · cases h
      · split at h
        · cases h
          rename_i hs
          rw [Bool.and_eq_true, Bool.and_eq_true] at hs
          obtain ⟨⟨hs1, hs2⟩, hs3⟩ := hs
          obtain ⟨s1, s2, s3, s4⟩ := gSide_len hs1
          obtain ⟨t1, t2, t3, t4⟩ := gSide_len hs2
          exact ⟨⟨wl hs1, s4, fun q => (by cases q), fun _ => (of_decide_eq_true hs3).symm, t2⟩, s2, fun _ => t1⟩
        · cases h
theorem gFile_ok {cat : gCat} {l : gT} (h1 : gCatOK cat) (h2 : gCatX cat) : gLe cat (gFile cat l).2 ∧ gCatOK (gFile cat l).2 ∧ gCatX (gFile cat l).2 := by
  unfold gFile
  split
  · rename_i hp
    split
    · exact ⟨gLe.rf _, h1, h2⟩
    · rename_i hi
      split
      · exact ⟨gLe.rf _, h1, h2⟩
      · obtain ⟨a1, a2, a3⟩ := h1
        obtain ⟨b1, b2, b3⟩ := h2
        have hnot : l ∉ cat.1 := by
          intro q
          unfold gIdx at hi
          rw [List.findIdx?_eq_none_iff] at hi
          have := hi l q
          simp at this
        refine ⟨⟨⟨[l], rfl⟩, [], (List.append_nil _).symm⟩, ⟨a1, fun q hq => ?_, ?_⟩, ?_, b2, b3⟩
        · have hq : q ∈ cat.1 ++ [l] := hq
          rcases List.mem_append.mp hq with h | h
          · exact a2 q h
          · rw [List.mem_singleton.mp h]
            exact hp
        · show (cat.1 ++ [l]).Nodup
          rw [List.nodup_append]
          refine ⟨a3, List.nodup_cons.mpr ⟨List.not_mem_nil, List.nodup_nil⟩, fun a ha b hb => ?_⟩
          rw [List.mem_singleton.mp hb]
          intro q
          rw [q] at ha
          exact hnot ha
        · show (cat.1 ++ [l]).length ≤ 12
          rw [List.length_append]
          show cat.1.length + 1 ≤ 12
          omega
  · exact ⟨gLe.rf _, h1, h2⟩
theorem gNewLine_ok {cat : gCat} {l : gT} (h1 : gCatOK cat) (h2 : gCatX cat) : gLe cat (gNewLine cat l).2 ∧ gCatOK (gNewLine cat l).2 ∧ gCatX (gNewLine cat l).2 := by
  unfold gNewLine
  split
  · exact ⟨gLe.rf _, h1, h2⟩
  · rename_i ln hl
    obtain ⟨l1, l2, l3⟩ := gLineOf_ok hl
    split
    · exact ⟨gLe.rf _, h1, h2⟩
    · obtain ⟨a1, a2, a3⟩ := h1
      obtain ⟨b1, b2, b3⟩ := h2
      refine ⟨⟨⟨[], (List.append_nil _).symm⟩, [ln], rfl⟩, ⟨fun q hq => ?_, a2, a3⟩, b1, ?_, fun q hq => ?_⟩
      · have hq : q ∈ cat.2 ++ [ln] := hq
        rcases List.mem_append.mp hq with h | h
        · exact a1 q h
        · rw [List.mem_singleton.mp h]
          exact l1
      · show (cat.2 ++ [ln]).length ≤ 10
        rw [List.length_append]
        show cat.2.length + 1 ≤ 10
        omega
      · have hq : q ∈ cat.2 ++ [ln] := hq
        rcases List.mem_append.mp hq with h | h
        · exact b3 q h
        · rw [List.mem_singleton.mp h]
          exact ⟨l2, l3⟩
theorem gIV0 : gIV ([], ([], []), gU0, 0, 0, fun _ => gU0) (fun _ => (0, 0, 0, 0, 0, 0)) := by
  refine ⟨⟨⟨fun ln h => (by cases h), fun q h => (by cases h), List.nodup_nil⟩, gU0_ok _, Nat.zero_le _, Nat.zero_le _, Nat.le_refl _, fun i _ => gU0_ok _⟩, ⟨Nat.zero_le _, Nat.zero_le _, fun ln h => (by cases h)⟩, fun j hj => absurd hj (Nat.not_lt_zero _), rfl, fun j hj => absurd hj (Nat.not_lt_zero _)⟩
