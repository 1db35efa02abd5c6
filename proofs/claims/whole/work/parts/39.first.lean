/-! The first way in which LEFT becomes the path, found by trying. -/
def gMt : gT → gT → List Nat → Bool
  | [], p, ns => decide (p = []) && decide (ns = [])
  | c :: l, p, ns => if gWild c then (match ns with
      | [] => false
      | n :: ns => decide (n ≤ p.length) && decide (¬ (c = nI 42 ∧ nI 47 ∈ p.take n)) && gMt l (p.drop n) ns)
    else (match p with
      | [] => false
      | x :: p' => decide (x = c) && gMt l p' ns)
def gLx : List Nat → List Nat → Prop
  | a :: as, b :: bs => a < b ∨ (a = b ∧ gLx as bs)
  | _, _ => False
theorem gTry_first {f : Nat → Option (List Nat)} {j : Nat} {r : List Nat} (hj : f j = some r) : ∀ (n k : Nat), k ≤ j → j ≤ k + n → (∀ i, k ≤ i → i < j → f i = none) → gTry f n k = some (j :: r)
  | 0, k, h1, h2, h3 => by
    have : k = j := by omega
    subst this
    unfold gTry
    rw [hj]
    rfl
  | n + 1, k, h1, h2, h3 => by
    unfold gTry
    by_cases h9 : k = j
    · subst h9
      rw [hj]
    · rw [h3 k (Nat.le_refl _) (by omega)]
      exact gTry_first hj n (k + 1) (by omega) (by omega) (fun i hi hi2 => h3 i (by omega) hi2)
theorem gMt_fit : ∀ (L p : gT) (ns : List Nat), gFit L p = some ns → gMt L p ns = true
  | [], p, ns, h => by
    unfold gFit at h
    split at h
    · cases h
      rename_i hp
      rw [hp]
      rfl
    · cases h
  | c :: l, p, ns, h => by
    unfold gFit at h
    unfold gMt
    cases hw : gWild c with
    | true =>
      rw [hw] at h
      simp only [if_true] at h ⊢
      obtain ⟨j, r, rfl, h1, h2, h3⟩ := gTry_some _ _ _ h
      split at h3
      · cases h3
      · rename_i hs
        simp only [Bool.and_eq_true, decide_eq_true_eq]
        exact ⟨⟨by omega, hs⟩, gMt_fit l _ _ h3⟩
    | false =>
      rw [hw] at h
      simp only [Bool.false_eq_true, if_false] at h ⊢
      cases p with
      | nil => cases h
      | cons x p' =>
        simp only at h ⊢
        split at h
        · rename_i hx
          rw [decide_eq_true hx, Bool.true_and]
          exact gMt_fit l _ _ h
        · cases h
theorem gMt_first : ∀ (L p : gT) (ns : List Nat), gMt L p ns = true → (∀ ns', gLx ns' ns → gMt L p ns' = false) → gFit L p = some ns
  | [], p, ns, h, _ => by
    unfold gMt at h
    rw [Bool.and_eq_true, decide_eq_true_eq, decide_eq_true_eq] at h
    rw [h.1, h.2]
    rfl
  | c :: l, p, ns, h, hl => by
    unfold gFit
    unfold gMt at h hl
    cases hw : gWild c with
    | true =>
      rw [hw] at h hl
      simp only [if_true] at h hl ⊢
      cases ns with
      | nil => cases h
      | cons n r =>
        simp only [Bool.and_eq_true, decide_eq_true_eq] at h
        obtain ⟨⟨h1, h2⟩, h3⟩ := h
        have ih := gMt_first l (p.drop n) r h3 (fun r' hr' => by
          have := hl (n :: r') (Or.inr ⟨rfl, hr'⟩)
          simp only [decide_eq_true h1, decide_eq_true h2, Bool.true_and] at this
          exact this)
        refine gTry_first (by rw [if_neg h2]; exact ih) _ _ (Nat.zero_le _) (by omega) (fun i _ hi => ?_)
        split
        · rfl
        · rename_i hs
          cases hg : gFit l (p.drop i) with
          | none => rfl
          | some r0 =>
            have := hl (i :: r0) (Or.inl hi)
            simp only [decide_eq_true (show i ≤ p.length by omega), decide_eq_true hs, Bool.true_and] at this
            rw [gMt_fit l _ _ hg] at this
            cases this
    | false =>
      rw [hw] at h hl
      simp only [Bool.false_eq_true, if_false] at h hl ⊢
      cases p with
      | nil => cases h
      | cons x p' =>
        simp only [Bool.and_eq_true, decide_eq_true_eq] at h hl ⊢
        rw [if_pos h.1]
        refine gMt_first l p' ns h.2 (fun ns' hn => ?_)
        have := hl ns' hn
        rw [decide_eq_true h.1, Bool.true_and] at this
        exact this
theorem gMt_len : ∀ (L p : gT) (ns : List Nat), gMt L p ns = true → ns.length = (L.filter gWild).length ∧ ns.sum ≤ p.length
  | [], p, ns, h => by
    unfold gMt at h
    rw [Bool.and_eq_true, decide_eq_true_eq, decide_eq_true_eq] at h
    rw [h.1, h.2]
    exact ⟨rfl, Nat.le_refl _⟩
  | c :: l, p, ns, h => by
    unfold gMt at h
    cases hw : gWild c with
    | true =>
      rw [hw] at h
      simp only [if_true] at h
      cases ns with
      | nil => cases h
      | cons n r =>
        simp only [Bool.and_eq_true, decide_eq_true_eq] at h
        obtain ⟨⟨h1, h2⟩, h3⟩ := h
        obtain ⟨i1, i2⟩ := gMt_len l _ r h3
        rw [List.length_drop] at i2
        simp only [List.filter_cons, hw, if_true, List.length_cons, List.sum_cons]
        exact ⟨by omega, by omega⟩
    | false =>
      rw [hw] at h
      simp only [Bool.false_eq_true, if_false] at h
      cases p with
      | nil => cases h
      | cons x p' =>
        simp only [Bool.and_eq_true, decide_eq_true_eq] at h
        obtain ⟨i1, i2⟩ := gMt_len l p' ns h.2
        simp only [List.filter_cons, hw, Bool.false_eq_true, if_false, List.length_cons]
        exact ⟨i1, by omega⟩
/-- do the rows of these lengths make LEFT the path -/
def gFW (L p : gT) (one two : Nat) : Bool := gMt L p ([one, two].take (L.filter gWild).length) && ((decide (0 < (L.filter gWild).length) || decide (one = 0)) && (decide (1 < (L.filter gWild).length) || decide (two = 0)))
theorem gFW_iff {L p : gT} {one two : Nat} : gFW L p one two = true ↔ gMt L p ([one, two].take (L.filter gWild).length) = true ∧ (0 < (L.filter gWild).length ∨ one = 0) ∧ (1 < (L.filter gWild).length ∨ two = 0) := by
  unfold gFW
  simp only [Bool.and_eq_true, Bool.or_eq_true, decide_eq_true_eq]
theorem gFW_pair {L p : gT} {ns : List Nat} (hw : (L.filter gWild).length ≤ 2) (h : gMt L p ns = true) : ∃ o t, gFW L p o t = true ∧ ns = [o, t].take (L.filter gWild).length ∧ o + t ≤ p.length := by
  obtain ⟨h1, h2⟩ := gMt_len L p ns h
  generalize hm : (L.filter gWild).length = m at hw h1 ⊢
  match m, hw, ns, h1, h, h2, hm with
  | 0, _, [], _, h, _, hm => exact ⟨0, 0, gFW_iff.mpr ⟨by rw [hm]; exact h, Or.inr rfl, Or.inr rfl⟩, rfl, Nat.zero_le _⟩
  | 1, _, [a], _, h, h2, hm => exact ⟨a, 0, gFW_iff.mpr ⟨by rw [hm]; exact h, Or.inl (by omega), Or.inr rfl⟩, rfl, by simpa using h2⟩
  | 2, _, [a, b], _, h, h2, hm => exact ⟨a, b, gFW_iff.mpr ⟨by rw [hm]; exact h, Or.inl (by omega), Or.inl (by omega)⟩, rfl, by simpa using h2⟩
theorem gFW_none {L p : gT} (hw : (L.filter gWild).length ≤ 2) (h : ∀ o t, o + t ≤ p.length → gFW L p o t = false) : gFit L p = none := by
  cases hg : gFit L p with
  | none => rfl
  | some ns =>
    obtain ⟨o, t, h1, h2, h3⟩ := gFW_pair hw (gMt_fit L p ns hg)
    rw [h o t h3] at h1
    cases h1
theorem gFW_first {L p : gT} {one two : Nat} (hw : (L.filter gWild).length ≤ 2) (h : gFW L p one two = true) (hl : ∀ o t, o + t ≤ p.length → (o < one ∨ (o = one ∧ t < two)) → gFW L p o t = false) : gFit L p = some ([one, two].take (L.filter gWild).length) := by
  obtain ⟨h1, h2, h3⟩ := gFW_iff.mp h
  refine gMt_first L p _ h1 (fun ns hn => ?_)
  cases hg : gMt L p ns with
  | false => rfl
  | true =>
    obtain ⟨o, t, g1, g2, g3⟩ := gFW_pair hw hg
    rw [hl o t g3 ?_] at g1
    · cases g1
    obtain ⟨k1, k2, k3⟩ := gFW_iff.mp g1
    rw [g2] at hn
    generalize (L.filter gWild).length = m at hw h2 h3 k2 k3 hn
    match m, hw with
    | 0, _ => exact absurd hn id
    | 1, _ =>
      rcases hn with q | ⟨q, q2⟩
      · exact Or.inl q
      · exact absurd q2 id
    | 2, _ =>
      rcases hn with q | ⟨q, q2 | ⟨q2, q3⟩⟩
      · exact Or.inl q
      · exact Or.inr ⟨q, q2⟩
      · exact absurd q3 id
