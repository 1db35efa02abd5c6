/-! Switches, and numbers against 0. -/
theorem nI_eq0 {n : Nat} (h : n < 2 ^ 31) : nI n = 0 ↔ n = 0 := by
  rw [← nI_0, nI_eq h (by decide)]
theorem nI_0eq {n : Nat} (h : n < 2 ^ 31) : 0 = nI n ↔ 0 = n := by
  rw [← nI_0, nI_eq (by decide) h]
theorem nI_gt0 {n : Nat} (h : n < 2 ^ 31) : 0 < nI n ↔ 0 < n := by
  rw [← nI_0, nI_ltI (by decide) h]
theorem nI_le0 {n : Nat} (h : n < 2 ^ 31) : nI n ≤ 0 ↔ n = 0 := by
  rw [← nI_0, nI_leI h (by decide)]
  omega
theorem nI_ge0 {n : Nat} (h : n < 2 ^ 31) : 0 ≤ nI n := nI_pos' h
theorem zrun_no {me : zM} {d B : Nat} {Q : Option Value → zH → Prop} {cd : zCd} {S : List Nat} {n a rc rs : Nat} {L : List (Option Value)} {st : List Value} {h : zH} (hc : cd a = none) : zrun me d B Q cd S n a rc rs L st h = zw me d rc rs B a L st h Q := by
  cases n with
  | zero => rfl
  | succ n =>
    simp only [zrun, hc]
    split <;> rfl
theorem zw_switch {me : zM} {d rc rs B pc : Nat} {L : List (Option Value)} {st : List Value} {h : zH} {Q : Option Value → zH → Prop} {dflt lo hi : Int} {offs : Array Int} {len : Nat} {x : Int32} (hd : decode me.2.1 pc = .ok (.tableswitch dflt lo hi offs, len)) (a b : Nat) (tg : Nat → Nat) (td : Nat) (hlo : lo = (a : Int)) (hhi : hi = (b : Int)) (hb : b < 2 ^ 31) (ho : ∀ j, j ≤ b → a ≤ j → (offs[j - a]?).map (fun o => (pc : Int) + o) = some ((tg j : Nat) : Int)) (htd : (pc : Int) + dflt = (td : Int))
    (hin : ∀ j, a ≤ j → j ≤ b → x = nI j → zw me d rc rs B (tg j) L st h Q) (hout : (∀ j, a ≤ j → j ≤ b → x ≠ nI j) → zw me d rc rs B td L st h Q) : zw me d rc rs B pc L (.int x :: st) h Q := by
  subst hlo
  subst hhi
  by_cases hx : x.toInt < (a : Int) ∨ (b : Int) < x.toInt
  · refine zr_tableOut hd hx htd (hout (fun j h1 h2 e => ?_))
    subst e
    rw [nI_toInt (by omega)] at hx
    omega
  · have h0 : ¬ x < 0 := fun q => by
      have := Int32.lt_iff_toInt_lt.mp q
      simp at this
      omega
    obtain ⟨j, hj, rfl⟩ := nI_of h0
    rw [nI_toInt hj] at hx
    have h1 : a ≤ j := by omega
    have h2 : j ≤ b := by omega
    have hoj := ho j h2 h1
    cases hoff : offs[j - a]? with
    | none => rw [hoff] at hoj; cases hoj
    | some off =>
      rw [hoff] at hoj
      refine zr_tableIn hd (by rw [nI_toInt hj]; omega) (by rw [nI_toInt hj]; omega) ?_ (Option.some.inj hoj) (hin j h1 h2 rfl)
      rw [nI_toInt hj, show ((j : Int) - (a : Int)).toNat = j - a by omega]
      exact hoff
def tgM_again_25 : Nat → Nat := fun j => match j with
  | 0 => 80
  | 1 => 105
  | 2 => 135
  | 3 => 151
  | 4 => 167
  | 5 => 182
  | 6 => 197
  | 7 => 211
  | 8 => 231
  | 9 => 263
  | _ => 0
set_option maxRecDepth 20000 in
theorem swM_again_25 {d rc rs B : Nat} {L : List (Option Value)} {st : List Value} {h : zH} {Q : Option Value → zH → Prop} {x : Int32} (hin : ∀ j, 0 ≤ j → j ≤ 9 → x = nI j → zw (mM_again) d rc rs B (tgM_again_25 j) L st h Q) (hout : (∀ j, 0 ≤ j → j ≤ 9 → x ≠ nI j) → zw (mM_again) d rc rs B 283 L st h Q) : zw (mM_again) d rc rs B 25 L (.int x :: st) h Q :=
  zw_switch (dflt := 258) (lo := 0) (hi := 9) (offs := #[55, 80, 110, 126, 142, 157, 172, 186, 206, 238]) (len := 55) (show decode mM_again.2.1 25 = _ by decide +kernel) 0 9 tgM_again_25 283 rfl rfl (by decide) (by decide) (by decide) hin hout
def tgRev_tell_1 : Nat → Nat := fun j => match j with
  | 0 => 32
  | 1 => 37
  | 2 => 42
  | 3 => 55
  | _ => 0
set_option maxRecDepth 20000 in
theorem swRev_tell_1 {d rc rs B : Nat} {L : List (Option Value)} {st : List Value} {h : zH} {Q : Option Value → zH → Prop} {x : Int32} (hin : ∀ j, 0 ≤ j → j ≤ 3 → x = nI j → zw (mRev_tell) d rc rs B (tgRev_tell_1 j) L st h Q) (hout : (∀ j, 0 ≤ j → j ≤ 3 → x ≠ nI j) → zw (mRev_tell) d rc rs B 68 L st h Q) : zw (mRev_tell) d rc rs B 1 L (.int x :: st) h Q :=
  zw_switch (dflt := 67) (lo := 0) (hi := 3) (offs := #[31, 36, 41, 54]) (len := 31) (show decode mRev_tell.2.1 1 = _ by decide +kernel) 0 3 tgRev_tell_1 68 rfl rfl (by decide) (by decide) (by decide) hin hout
def tgWork_tell_19 : Nat → Nat := fun j => match j with
  | 1 => 52
  | 2 => 57
  | 3 => 62
  | 4 => 67
  | 5 => 72
  | _ => 0
set_option maxRecDepth 20000 in
theorem swWork_tell_19 {d rc rs B : Nat} {L : List (Option Value)} {st : List Value} {h : zH} {Q : Option Value → zH → Prop} {x : Int32} (hin : ∀ j, 1 ≤ j → j ≤ 5 → x = nI j → zw (mWork_tell) d rc rs B (tgWork_tell_19 j) L st h Q) (hout : (∀ j, 1 ≤ j → j ≤ 5 → x ≠ nI j) → zw (mWork_tell) d rc rs B 77 L st h Q) : zw (mWork_tell) d rc rs B 19 L (.int x :: st) h Q :=
  zw_switch (dflt := 58) (lo := 1) (hi := 5) (offs := #[33, 38, 43, 48, 53]) (len := 33) (show decode mWork_tell.2.1 19 = _ by decide +kernel) 1 5 tgWork_tell_19 77 rfl rfl (by decide) (by decide) (by decide) hin hout
def tgLaw_law_32 : Nat → Nat := fun j => match j with
  | 0 => 156
  | 1 => 181
  | 2 => 194
  | 3 => 207
  | 4 => 250
  | 5 => 319
  | 6 => 362
  | 7 => 405
  | 8 => 448
  | 9 => 491
  | 10 => 524
  | 11 => 557
  | 12 => 610
  | 13 => 653
  | 14 => 686
  | 15 => 709
  | 16 => 722
  | 17 => 735
  | 18 => 748
  | 19 => 771
  | 20 => 814
  | 21 => 847
  | 22 => 880
  | 23 => 923
  | 24 => 956
  | 25 => 989
  | 26 => 1032
  | _ => 0
set_option maxRecDepth 20000 in
theorem swLaw_law_32 {z : Nat × Nat × (Nat → Int32)} {d rc rs B : Nat} {L : List (Option Value)} {st : List Value} {h : zH} {Q : Option Value → zH → Prop} {x : Int32} (hin : ∀ j, 0 ≤ j → j ≤ 26 → x = nI j → zw (mLaw z) d rc rs B (tgLaw_law_32 j) L st h Q) (hout : (∀ j, 0 ≤ j → j ≤ 26 → x ≠ nI j) → zw (mLaw z) d rc rs B 1055 L st h Q) : zw (mLaw z) d rc rs B 32 L (.int x :: st) h Q :=
  zw_switch (dflt := 1023) (lo := 0) (hi := 26) (offs := #[124, 149, 162, 175, 218, 287, 330, 373, 416, 459, 492, 525, 578, 621, 654, 677, 690, 703, 716, 739, 782, 815, 848, 891, 924, 957, 1000]) (len := 124) (show decode code 32 = _ by decide +kernel) 0 26 tgLaw_law_32 1055 rfl rfl (by decide) (by decide) (by decide) hin hout
