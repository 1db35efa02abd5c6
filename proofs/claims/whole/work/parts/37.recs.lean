/-! Records: what a call leaves in the journal, and what comes of it. -/
/-- act, three or four numbers, a content -/
abbrev gRec : Type := Nat × Nat × Nat × Nat × Nat × Int32
def gRun (cat : gCat) (u : gU) : gRec → gU
  | (0, c, s, v, _, _) => gSet u c s v
  | (1, c, f, l, x, _) => gOpen u c f 1 l (decide (x = 1))
  | (2, c, f, l, _, _) => gOpen u c f 2 l false
  | (3, c, f, l, _, _) => gOpen u c f 3 l false
  | (4, c, f, _, _, x) => gStore u c f x
  | (5, c, f, l, _, _) => gReopen u c f l
  | (6, c, f, _, _, _) => gRevert u c f
  | (7, c, _, _, _, x) => (gBring cat u c x cat.1.length).1
  | (8, c, f, t, l, _) => (gJoin u c f t l).1
  | (9, c, f, w, _, _) => gResolve u c f w
  | (_, c, l, _, _, _) => gSubmit u c l cat.1.length
/-- the five numbers that the reference keeps of it -/
def gCode : gRec → Int32 × Int32 × Int32 × Int32 × Int32
  | (0, c, s, v, _, _) => (nI 0, nI c, nI s, gVw v, nI 0)
  | (4, c, f, _, _, x) => (nI 4, nI c, nI f, x, nI 0)
  | (7, c, _, _, _, x) => (nI 7, nI c, x, nI 0, nI 0)
  | (k, a, b, c, d, _) => (nI k, nI a, nI b, nI c, nI d)
def gRecOK (cat : gCat) (u : gU) : gRec → Prop
  | (0, c, s, v, _, _) => c < 3 ∧ s < 4 ∧ v ≤ cat.2.length
  | (1, c, f, l, x, _) => c < 3 ∧ f < cat.1.length ∧ l < 2 ∧ x < 2
  | (2, c, f, l, x, _) => c < 3 ∧ f < cat.1.length ∧ l < 2 ∧ x = 0
  | (3, c, f, l, x, _) => c < 3 ∧ f < cat.1.length ∧ l < 2 ∧ x = 0
  | (4, c, f, _, _, _) => c < 3 ∧ f < cat.1.length
  | (5, c, f, l, x, _) => c < 3 ∧ f < cat.1.length ∧ l < 2 ∧ x = 0
  | (6, c, f, l, x, _) => c < 3 ∧ f < cat.1.length ∧ l = 0 ∧ x = 0
  | (7, c, _, _, _, _) => c < 3
  | (8, c, f, t, l, _) => c < 3 ∧ f < cat.1.length ∧ t < cat.1.length ∧ l < 2 ∧ f ≠ t
  | (9, c, f, w, x, _) => c < 3 ∧ f < cat.1.length ∧ w < 3 ∧ x = 0 ∧ ∃ q, (gW u c f).2.2 = some q ∧ (q.2.2.2.2.1 ≠ 0 ∨ q.2.2.2.2.2.1 ≠ none)
  | (k, c, l, x, y, _) => k = 10 ∧ c < 3 ∧ l < 2 ∧ x = 0 ∧ y = 0 ∧ 1 ≤ (gAcc u c l cat.1.length).1 ∧ u.2.1.length + (gAcc u c l cat.1.length).1 ≤ 48
theorem gUOK.wk {cat : gCat} {u : gU} (hu : gUOK cat u) {c f : Nat} (hc : c < 3) (hf : f < 12) : gWkOK (gW u c f) := hu.2.2.2.2.2.1 (12 * c + f) (by omega)
theorem gSubmit_ok {cat : gCat} {u : gU} {c l : Nat} (hu : gUOK cat u) (h12 : cat.1.length ≤ 12) (hc : c < 3) (h1 : 1 ≤ (gAcc u c l cat.1.length).1) (h2 : u.2.1.length + (gAcc u c l cat.1.length).1 ≤ 48) : gUOK cat (gSubmit u c l cat.1.length) := by
  obtain ⟨a1, a2, a3, a4, a5⟩ := gSub_ok (l := l) (u := u) hu.w rfl hc h12 cat.1.length (Nat.le_refl _) h2
  obtain ⟨b1, b2, b3, b4, b5, b6, b7⟩ := a1
  have h3 := hu.2.2.1
  refine ⟨b1, b2, ?_, b3, b4, b5, b6, b7⟩
  show (gSub (u.1, u.2.1, u.2.2.1 + 1, u.2.2.2) c l cat.1.length).2.2.1 ≤ (gSub (u.1, u.2.1, u.2.2.1 + 1, u.2.2.2) c l cat.1.length).2.1.length
  rw [a2, a3]
  show u.2.2.1 + 1 ≤ u.2.1.length + _
  omega
theorem gOpen_ok {cat : gCat} {u : gU} {c f k l : Nat} {x : Bool} (hu : gUOK cat u) (h12 : cat.1.length ≤ 12) (hc : c < 3) (hf : f < cat.1.length) (hl : l < 2) (hk : 1 ≤ k ∧ k ≤ 3) (hx : x = true → k = 1) : gUOK cat (gOpen u c f k l x) := by
  have hw := hu.wk hc (show f < 12 by omega)
  refine hu.setW hf (by omega) ⟨hw.1, fun q hq => ?_⟩
  cases hq
  refine ⟨hk, hl, ?_, hx, Nat.zero_le _, fun z hz => (by cases hz), fun z hz => by cases hz⟩
  have := hw.1
  dsimp only
  split <;> omega
theorem gJoin_ok {cat : gCat} {u : gU} {c f t l : Nat} (hu : gUOK cat u) (h12 : cat.1.length ≤ 12) (hc : c < 3) (hf : f < cat.1.length) (ht : t < cat.1.length) (hl : l < 2) : gUOK cat (gJoin u c f t l).1 := by
  have hw := hu.wk hc (show t < 12 by omega)
  have hh := gHead_le (f := f) hu
  unfold gJoin
  cases ho : (gW u c t).2.2 with
  | none =>
    dsimp only
    split
    · refine hu.setW ht (by omega) ⟨hw.1, fun q hq => ?_⟩
      cases hq
      refine ⟨⟨Nat.le_refl _, by omega⟩, hl, Nat.zero_le _, fun _ => rfl, Nat.zero_le _, fun z hz => (by cases hz), fun z hz => ?_⟩
      cases hz
      exact ⟨by omega, hh⟩
    · refine hu.setW ht (by omega) ⟨hw.1, fun q hq => ?_⟩
      cases hq
      refine ⟨⟨by omega, by omega⟩, hl, hw.1, fun h => (by cases h), Nat.zero_le _, fun z hz => ?_, fun z hz => by cases hz⟩
      cases hz
      exact ⟨by omega, hh⟩
  | some q =>
    obtain ⟨b1, b2, b3, b4, b5, b6, b7⟩ := hw.2 q ho
    refine hu.setW ht (by omega) ⟨hw.1, fun q hq => ?_⟩
    cases hq
    refine ⟨b1, b2, b3, b4, b5, fun z hz => ?_, b7⟩
    cases hz
    exact ⟨by omega, hh⟩
theorem gSettle_ok {cat : gCat} {u : gU} {c f w : Nat} {q : gOpn} (hu : gUOK cat u) (h12 : cat.1.length ≤ 12) (hc : c < 3) (hf : f < cat.1.length) (ho : (gW u c f).2.2 = some q) : gUOK cat (gSettle u c f w q) := by
  have hw := hu.wk hc (show f < 12 by omega)
  obtain ⟨b1, b2, b3, b4, b5, b6, b7⟩ := hw.2 q ho
  refine hu.setW hf (by omega) ⟨?_, fun q' hq => ?_⟩
  · have := hw.1
    dsimp only
    split <;> omega
  · dsimp only at hq
    split at hq
    · cases hq
      exact ⟨b1, b2, b5, b4, Nat.zero_le _, b6, b7⟩
    · cases hq
      refine ⟨b1, b2, b3, b4, Nat.zero_le _, fun z hz => (by cases hz), fun z hz => ?_⟩
      dsimp only at hz
      cases hz2 : q.2.2.2.2.2.1 with
      | none => rw [hz2] at hz; cases hz
      | some y =>
        rw [hz2] at hz
        cases hz
        exact b6 y hz2
theorem gRun_ok {cat : gCat} {u : gU} {r : gRec} (hu : gUOK cat u) (h12 : cat.1.length ≤ 12) (hr : gRecOK cat u r) : gUOK cat (gRun cat u r) := by
  obtain ⟨k, a, b, c, e, x⟩ := r
  match k, hr with
  | 0, hr =>
    obtain ⟨h1, h2, h3, h4, h5, h6, h7, h8⟩ := hu
    refine ⟨fun i hi => ?_, h2, h3, h4, h5, h6, h7, h8⟩
    show va_up u.1 (4 * a + b) c i ≤ _
    by_cases h9 : i = 4 * a + b
    · rw [h9, va_up_self]
      exact hr.2.2
    · rw [va_up_ne _ _ h9]
      exact h1 i hi
  | 1, hr => exact gOpen_ok hu h12 hr.1 hr.2.1 hr.2.2.1 (by omega) (fun _ => rfl)
  | 2, hr => exact gOpen_ok hu h12 hr.1 hr.2.1 hr.2.2.1 (by omega) (fun h => by cases h)
  | 3, hr => exact gOpen_ok hu h12 hr.1 hr.2.1 hr.2.2.1 (by omega) (fun h => by cases h)
  | 4, hr =>
    have hw := hu.wk hr.1 (show b < 12 by have := hr.2; omega)
    exact hu.setW hr.2 (by have := hr.2; omega) ⟨hw.1, hw.2⟩
  | 5, hr =>
    have hw := hu.wk hr.1 (show b < 12 by have := hr.2.1; omega)
    refine hu.setW hr.2.1 (by have := hr.2.1; omega) ⟨hw.1, fun q hq => ?_⟩
    cases ho : (gW u a b).2.2 with
    | none => rw [ho] at hq; cases hq
    | some q0 =>
      rw [ho] at hq
      cases hq
      obtain ⟨b1, b2, b3, b4, b5, b6, b7⟩ := hw.2 q0 ho
      exact ⟨b1, hr.2.2.1, b3, b4, b5, b6, b7⟩
  | 6, hr =>
    have hw := hu.wk hr.1 (show b < 12 by have := hr.2.1; omega)
    exact hu.setW hr.2.1 (by have := hr.2.1; omega) (gWkOK.none hw.1)
  | 7, hr => exact (gBring_ok hu hr h12 cat.1.length (Nat.le_refl _)).1
  | 8, hr => exact gJoin_ok hu h12 hr.1 hr.2.1 hr.2.2.1 hr.2.2.2.1
  | 9, hr =>
    obtain ⟨r1, r2, r3, r4, q, hq, -⟩ := hr
    show gUOK cat (gResolve u a b c)
    unfold gResolve
    rw [hq]
    exact gSettle_ok hu h12 r1 r2 hq
  | k + 10, hr =>
    obtain ⟨r0, r1, r2, r3, r4, r5, r6⟩ := hr
    exact gSubmit_ok hu h12 r1 r5 r6
/-- a catalog grows -/
def gLe (cat cat' : gCat) : Prop := (∃ ps, cat'.1 = cat.1 ++ ps) ∧ ∃ ls, cat'.2 = cat.2 ++ ls
theorem gLe.rf (cat : gCat) : gLe cat cat := ⟨⟨[], (List.append_nil _).symm⟩, [], (List.append_nil _).symm⟩
theorem gLe.len {cat cat' : gCat} (h : gLe cat cat') : cat.1.length ≤ cat'.1.length ∧ cat.2.length ≤ cat'.2.length := by
  obtain ⟨⟨ps, h1⟩, ls, h2⟩ := h
  rw [h1, h2, List.length_append, List.length_append]
  omega
theorem gLe.at1 {cat cat' : gCat} (h : gLe cat cat') {f : Nat} (hf : f < cat.1.length) : cat'.1[f]? = cat.1[f]? := by
  obtain ⟨⟨ps, h1⟩, -⟩ := h
  rw [h1, List.getElem?_append_left hf]
theorem gLe.at2 {cat cat' : gCat} (h : gLe cat cat') {f : Nat} (hf : f < cat.2.length) : cat'.2[f]? = cat.2[f]? := by
  obtain ⟨-, ls, h1⟩ := h
  rw [h1, List.getElem?_append_left hf]
theorem gUOK.up {cat cat' : gCat} {u : gU} (hl : gLe cat cat') (h : gUOK cat u) : gUOK cat' u := by
  obtain ⟨h1, h2, h3, h4, h5, h6, h7, h8⟩ := h
  obtain ⟨l1, l2⟩ := hl.len
  exact ⟨fun i hi => Nat.le_trans (h1 i hi) l2, h2, h3, h4, h5, h6, fun r hr => ⟨Nat.lt_of_lt_of_le (h7 r hr).1 l1, (h7 r hr).2⟩, fun c f hc hf hf2 => h8 c f hc (Nat.le_trans l1 hf) hf2⟩
theorem gSlot_up {cat cat' : gCat} (hl : gLe cat cat') (p : gT) {v : Nat} (hv : v ≤ cat.2.length) : gSlot cat' p v = gSlot cat p v := by
  cases v with
  | zero => rfl
  | succ n =>
    unfold gSlot
    dsimp only
    rw [hl.at2 (show n < cat.2.length by omega)]
theorem gCount_up {cat cat' : gCat} (hl : gLe cat cat') {v : Nat → Nat} (hv : gViewOK cat v) (p : gT) {c : Nat} (hc : c < 3) : ∀ n, n ≤ 4 → gCount cat' v c p n = gCount cat v c p n
  | 0, _ => rfl
  | n + 1, hn => by
    unfold gCount
    rw [gSlot_up hl p (hv (4 * c + n) (by omega)), gCount_up hl hv p hc n (by omega)]
theorem gPlace_up {cat cat' : gCat} (hl : gLe cat cat') {v : Nat → Nat} (hv : gViewOK cat v) {c f : Nat} (hc : c < 3) (hf : f < cat.1.length) : gPlace cat' v c f = gPlace cat v c f := by
  unfold gPlace
  rw [hl.at1 hf]
  cases cat.1[f]? with
  | none => rfl
  | some p =>
    dsimp only
    rw [gCount_up hl hv p hc 4 (Nat.le_refl _)]
theorem gShown_up {cat cat' : gCat} (hl : gLe cat cat') {v : Nat → Nat} (hv : gViewOK cat v) {c f : Nat} (hc : c < 3) (hf : f < cat.1.length) : gShown cat' v c f = gShown cat v c f := by
  unfold gShown
  rw [gPlace_up hl hv hc hf]
  congr 1
  rw [Bool.eq_iff_iff, List.all_eq_true, List.all_eq_true]
  refine ⟨fun h g hg => ?_, fun h g hg => ?_⟩
  · have := h g hg
    rw [gPlace_up hl hv hc (by have := List.mem_range.mp hg; omega)] at this
    exact this
  · rw [gPlace_up hl hv hc (by have := List.mem_range.mp hg; omega)]
    exact h g hg
theorem gRevs_nil {cat : gCat} {u : gU} {f : Nat} (hu : gUOK cat u) (hf : cat.1.length ≤ f) : gRevs u f = [] := by
  unfold gRevs
  rw [List.filter_eq_nil_iff]
  intro r hr
  have := (hu.2.2.2.2.2.2.1 r hr).1
  simp
  omega
theorem gWanted_up {cat cat' : gCat} (hl : gLe cat cat') {u : gU} (hu : gUOK cat u) {c f : Nat} {x : Int32} (hc : c < 3) (hf : f < cat.1.length) : gWanted cat' u c f x = gWanted cat u c f x := by
  unfold gWanted
  rw [gShown_up hl hu.1 hc hf]
theorem gWanted_new {cat : gCat} (cat' : gCat) {u : gU} (hu : gUOK cat u) {c f : Nat} {x : Int32} (hf : cat.1.length ≤ f) : gWanted cat' u c f x = 0 := by
  unfold gWanted
  rw [gRevs_nil hu hf]
  split <;> rfl
theorem gBring_up {cat cat' : gCat} (hl : gLe cat cat') {u : gU} (hu : gUOK cat u) {c : Nat} {x : Int32} (hc : c < 3) (h12 : cat.1.length ≤ 12) : ∀ n, n ≤ cat.1.length → gBring cat' u c x n = gBring cat u c x n
  | 0, _ => rfl
  | n + 1, hn => by
    have ih := gBring_up hl hu (x := x) hc h12 n (by omega)
    have hok := (gBring_ok (x := x) hu hc h12 n (by omega)).1
    unfold gBring
    rw [ih, gBring1_br, gBring1_br, gWanted_up hl hok hc (by omega)]
theorem gBring_new {cat cat' : gCat} (hl : gLe cat cat') {u : gU} (hu : gUOK cat u) {c : Nat} {x : Int32} (hc : c < 3) (h12 : cat.1.length ≤ 12) : ∀ n, cat.1.length + n ≤ 12 → gBring cat' u c x (cat.1.length + n) = gBring cat u c x cat.1.length
  | 0, _ => gBring_up hl hu hc h12 _ (Nat.le_refl _)
  | n + 1, hn => by
    have ih := gBring_new hl hu (x := x) hc h12 n (by omega)
    have hok := (gBring_ok (x := x) hu hc h12 _ (Nat.le_refl _)).1
    rw [show cat.1.length + (n + 1) = (cat.1.length + n) + 1 by omega, gBring.eq_2, ih, gBring1_br, gWanted_new cat' hok (by omega)]
    have hw := hok.2.2.2.2.2.2.2 c (cat.1.length + n) hc (by omega) (by omega)
    unfold gBr
    rw [hw]
    rfl
theorem gAcc_new {cat : gCat} {u : gU} (hu : gUOK cat u) {c l : Nat} (hc : c < 3) : ∀ n, cat.1.length + n ≤ 12 → gAcc u c l (cat.1.length + n) = gAcc u c l cat.1.length
  | 0, _ => rfl
  | n + 1, hn => by
    rw [show cat.1.length + (n + 1) = (cat.1.length + n) + 1 by omega, gAcc.eq_2]
    rw [hu.2.2.2.2.2.2.2 c (cat.1.length + n) hc (by omega) (by omega)]
    exact gAcc_new hu hc n (by omega)
theorem gSub_new {cat : gCat} {u u1 : gU} {c l : Nat} (hu : gUw cat u1) (hw : u1.2.2.2.2.2 = u.2.2.2.2.2) (hc : c < 3) (h12 : cat.1.length ≤ 12) (h2 : u1.2.1.length + (gAcc u c l cat.1.length).1 ≤ 48) : ∀ n, cat.1.length + n ≤ 12 → gSub u1 c l (cat.1.length + n) = gSub u1 c l cat.1.length
  | 0, _ => rfl
  | n + 1, hn => by
    have ih := gSub_new hu hw hc h12 h2 n (by omega)
    obtain ⟨a1, -, -, -, -⟩ := gSub_ok (l := l) (u := u) hu hw hc h12 cat.1.length (Nat.le_refl _) h2
    rw [show cat.1.length + (n + 1) = (cat.1.length + n) + 1 by omega, gSub.eq_2, ih]
    rw [a1.2.2.2.2.2.2 c (cat.1.length + n) hc (by omega) (by omega)]
theorem gRun_up {cat cat' : gCat} (hl : gLe cat cat') {u : gU} (hu : gUOK cat u) (h12 : cat'.1.length ≤ 12) {r : gRec} (hr : gRecOK cat u r) : gRun cat' u r = gRun cat u r ∧ gRecOK cat' u r := by
  obtain ⟨l1, l2⟩ := hl.len
  obtain ⟨m, hm⟩ : ∃ m, cat'.1.length = cat.1.length + m := ⟨cat'.1.length - cat.1.length, by omega⟩
  obtain ⟨k, a, b, c, e, x⟩ := r
  match k, hr with
  | 0, hr => exact ⟨rfl, hr.1, hr.2.1, Nat.le_trans hr.2.2 l2⟩
  | 1, hr => exact ⟨rfl, hr.1, Nat.lt_of_lt_of_le hr.2.1 l1, hr.2.2⟩
  | 2, hr => exact ⟨rfl, hr.1, Nat.lt_of_lt_of_le hr.2.1 l1, hr.2.2⟩
  | 3, hr => exact ⟨rfl, hr.1, Nat.lt_of_lt_of_le hr.2.1 l1, hr.2.2⟩
  | 4, hr => exact ⟨rfl, hr.1, Nat.lt_of_lt_of_le hr.2 l1⟩
  | 5, hr => exact ⟨rfl, hr.1, Nat.lt_of_lt_of_le hr.2.1 l1, hr.2.2⟩
  | 6, hr => exact ⟨rfl, hr.1, Nat.lt_of_lt_of_le hr.2.1 l1, hr.2.2⟩
  | 7, hr =>
    refine ⟨?_, hr⟩
    show (gBring cat' u a x cat'.1.length).1 = (gBring cat u a x cat.1.length).1
    rw [hm, gBring_new hl hu hr (by omega) m (by omega)]
  | 8, hr => exact ⟨rfl, hr.1, Nat.lt_of_lt_of_le hr.2.1 l1, Nat.lt_of_lt_of_le hr.2.2.1 l1, hr.2.2.2⟩
  | 9, hr => exact ⟨rfl, hr.1, Nat.lt_of_lt_of_le hr.2.1 l1, hr.2.2⟩
  | k + 10, hr =>
    obtain ⟨r0, r1, r2, r3, r4, r5, r6⟩ := hr
    refine ⟨?_, r0, r1, r2, r3, r4, ?_, ?_⟩
    · show gSub _ a b cat'.1.length = gSub _ a b cat.1.length
      rw [hm]
      exact gSub_new (u := u) hu.w rfl r1 (by omega) r6 m (by omega)
    · rw [hm, gAcc_new hu r1 m (by omega)]
      exact r5
    · rw [hm, gAcc_new hu r1 m (by omega)]
      exact r6
