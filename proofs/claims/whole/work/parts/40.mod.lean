/-! The reference: its object, its arrays. -/
def mO (M : Nat) (s : Nat → Int32) : List Value := [.int (s 0), .ref (M + 1), .int (s 1), .ref (M + 2), .ref (M + 3), .int (s 2), .ref (M + 4), .ref (M + 5), .ref (M + 6), .ref (M + 7), .int (s 3), .ref (M + 8), .ref (M + 9), .ref (M + 10), .ref (M + 11), .ref (M + 12), .int (s 4), .int (s 5), .ref (M + 13), .ref (M + 14), .ref (M + 15), .ref (M + 16), .ref (M + 17), .ref (M + 18), .int (s 6), .ref (M + 19), .ref (M + 20), .ref (M + 21), .ref (M + 22), .ref (M + 23), .int (s 7), .int (s 8), .ref (M + 24), .ref (M + 25), .ref (M + 26), .ref (M + 27), .ref (M + 28), .ref (M + 29), .ref (M + 30), .ref (M + 31), .ref (M + 32), .ref (M + 33), .ref (M + 34), .ref (M + 35), .ref (M + 36)]
theorem mO_0 (M : Nat) (s : Nat → Int32) : (mO M s)[0]? = some (.int (s 0)) := rfl
theorem mO_1 (M : Nat) (s : Nat → Int32) : (mO M s)[1]? = some (.ref (M + 1)) := rfl
theorem mO_2 (M : Nat) (s : Nat → Int32) : (mO M s)[2]? = some (.int (s 1)) := rfl
theorem mO_3 (M : Nat) (s : Nat → Int32) : (mO M s)[3]? = some (.ref (M + 2)) := rfl
theorem mO_4 (M : Nat) (s : Nat → Int32) : (mO M s)[4]? = some (.ref (M + 3)) := rfl
theorem mO_5 (M : Nat) (s : Nat → Int32) : (mO M s)[5]? = some (.int (s 2)) := rfl
theorem mO_6 (M : Nat) (s : Nat → Int32) : (mO M s)[6]? = some (.ref (M + 4)) := rfl
theorem mO_7 (M : Nat) (s : Nat → Int32) : (mO M s)[7]? = some (.ref (M + 5)) := rfl
theorem mO_8 (M : Nat) (s : Nat → Int32) : (mO M s)[8]? = some (.ref (M + 6)) := rfl
theorem mO_9 (M : Nat) (s : Nat → Int32) : (mO M s)[9]? = some (.ref (M + 7)) := rfl
theorem mO_10 (M : Nat) (s : Nat → Int32) : (mO M s)[10]? = some (.int (s 3)) := rfl
theorem mO_11 (M : Nat) (s : Nat → Int32) : (mO M s)[11]? = some (.ref (M + 8)) := rfl
theorem mO_12 (M : Nat) (s : Nat → Int32) : (mO M s)[12]? = some (.ref (M + 9)) := rfl
theorem mO_13 (M : Nat) (s : Nat → Int32) : (mO M s)[13]? = some (.ref (M + 10)) := rfl
theorem mO_14 (M : Nat) (s : Nat → Int32) : (mO M s)[14]? = some (.ref (M + 11)) := rfl
theorem mO_15 (M : Nat) (s : Nat → Int32) : (mO M s)[15]? = some (.ref (M + 12)) := rfl
theorem mO_16 (M : Nat) (s : Nat → Int32) : (mO M s)[16]? = some (.int (s 4)) := rfl
theorem mO_17 (M : Nat) (s : Nat → Int32) : (mO M s)[17]? = some (.int (s 5)) := rfl
theorem mO_18 (M : Nat) (s : Nat → Int32) : (mO M s)[18]? = some (.ref (M + 13)) := rfl
theorem mO_19 (M : Nat) (s : Nat → Int32) : (mO M s)[19]? = some (.ref (M + 14)) := rfl
theorem mO_20 (M : Nat) (s : Nat → Int32) : (mO M s)[20]? = some (.ref (M + 15)) := rfl
theorem mO_21 (M : Nat) (s : Nat → Int32) : (mO M s)[21]? = some (.ref (M + 16)) := rfl
theorem mO_22 (M : Nat) (s : Nat → Int32) : (mO M s)[22]? = some (.ref (M + 17)) := rfl
theorem mO_23 (M : Nat) (s : Nat → Int32) : (mO M s)[23]? = some (.ref (M + 18)) := rfl
theorem mO_24 (M : Nat) (s : Nat → Int32) : (mO M s)[24]? = some (.int (s 6)) := rfl
theorem mO_25 (M : Nat) (s : Nat → Int32) : (mO M s)[25]? = some (.ref (M + 19)) := rfl
theorem mO_26 (M : Nat) (s : Nat → Int32) : (mO M s)[26]? = some (.ref (M + 20)) := rfl
theorem mO_27 (M : Nat) (s : Nat → Int32) : (mO M s)[27]? = some (.ref (M + 21)) := rfl
theorem mO_28 (M : Nat) (s : Nat → Int32) : (mO M s)[28]? = some (.ref (M + 22)) := rfl
theorem mO_29 (M : Nat) (s : Nat → Int32) : (mO M s)[29]? = some (.ref (M + 23)) := rfl
theorem mO_30 (M : Nat) (s : Nat → Int32) : (mO M s)[30]? = some (.int (s 7)) := rfl
theorem mO_31 (M : Nat) (s : Nat → Int32) : (mO M s)[31]? = some (.int (s 8)) := rfl
theorem mO_32 (M : Nat) (s : Nat → Int32) : (mO M s)[32]? = some (.ref (M + 24)) := rfl
theorem mO_33 (M : Nat) (s : Nat → Int32) : (mO M s)[33]? = some (.ref (M + 25)) := rfl
theorem mO_34 (M : Nat) (s : Nat → Int32) : (mO M s)[34]? = some (.ref (M + 26)) := rfl
theorem mO_35 (M : Nat) (s : Nat → Int32) : (mO M s)[35]? = some (.ref (M + 27)) := rfl
theorem mO_36 (M : Nat) (s : Nat → Int32) : (mO M s)[36]? = some (.ref (M + 28)) := rfl
theorem mO_37 (M : Nat) (s : Nat → Int32) : (mO M s)[37]? = some (.ref (M + 29)) := rfl
theorem mO_38 (M : Nat) (s : Nat → Int32) : (mO M s)[38]? = some (.ref (M + 30)) := rfl
theorem mO_39 (M : Nat) (s : Nat → Int32) : (mO M s)[39]? = some (.ref (M + 31)) := rfl
theorem mO_40 (M : Nat) (s : Nat → Int32) : (mO M s)[40]? = some (.ref (M + 32)) := rfl
theorem mO_41 (M : Nat) (s : Nat → Int32) : (mO M s)[41]? = some (.ref (M + 33)) := rfl
theorem mO_42 (M : Nat) (s : Nat → Int32) : (mO M s)[42]? = some (.ref (M + 34)) := rfl
theorem mO_43 (M : Nat) (s : Nat → Int32) : (mO M s)[43]? = some (.ref (M + 35)) := rfl
theorem mO_44 (M : Nat) (s : Nat → Int32) : (mO M s)[44]? = some (.ref (M + 36)) := rfl
theorem mO_len (M : Nat) (s : Nat → Int32) : (mO M s).length = 45 := rfl
theorem mOs_0 (M : Nat) (s : Nat → Int32) (v : Int32) : (mO M s).set 0 (.int v) = mO M (va_up s 0 v) := rfl
theorem mOs_2 (M : Nat) (s : Nat → Int32) (v : Int32) : (mO M s).set 2 (.int v) = mO M (va_up s 1 v) := rfl
theorem mOs_5 (M : Nat) (s : Nat → Int32) (v : Int32) : (mO M s).set 5 (.int v) = mO M (va_up s 2 v) := rfl
theorem mOs_10 (M : Nat) (s : Nat → Int32) (v : Int32) : (mO M s).set 10 (.int v) = mO M (va_up s 3 v) := rfl
theorem mOs_16 (M : Nat) (s : Nat → Int32) (v : Int32) : (mO M s).set 16 (.int v) = mO M (va_up s 4 v) := rfl
theorem mOs_17 (M : Nat) (s : Nat → Int32) (v : Int32) : (mO M s).set 17 (.int v) = mO M (va_up s 5 v) := rfl
theorem mOs_24 (M : Nat) (s : Nat → Int32) (v : Int32) : (mO M s).set 24 (.int v) = mO M (va_up s 6 v) := rfl
theorem mOs_30 (M : Nat) (s : Nat → Int32) (v : Int32) : (mO M s).set 30 (.int v) = mO M (va_up s 7 v) := rfl
theorem mOs_31 (M : Nat) (s : Nat → Int32) (v : Int32) : (mO M s).set 31 (.int v) = mO M (va_up s 8 v) := rfl
/-- type and length of an array -/
def mTL : Nat → Nat × Nat
  | 1 => (1, 32)
  | 2 => (1, 144)
  | 3 => (0, 12)
  | 4 => (1, 120)
  | 5 => (1, 120)
  | 6 => (0, 10)
  | 7 => (0, 10)
  | 8 => (1, 864)
  | 9 => (0, 36)
  | 10 => (2, 36)
  | 11 => (0, 2)
  | 12 => (0, 2)
  | 13 => (0, 512)
  | 14 => (0, 512)
  | 15 => (0, 512)
  | 16 => (0, 512)
  | 17 => (0, 512)
  | 18 => (0, 12)
  | 19 => (0, 48)
  | 20 => (0, 48)
  | 21 => (0, 48)
  | 22 => (2, 48)
  | 23 => (2, 48)
  | 24 => (0, 144)
  | 25 => (0, 36)
  | 26 => (0, 36)
  | 27 => (0, 36)
  | 28 => (0, 36)
  | 29 => (0, 36)
  | 30 => (2, 36)
  | 31 => (0, 36)
  | 32 => (0, 36)
  | 33 => (0, 36)
  | 34 => (0, 36)
  | 35 => (0, 36)
  | 36 => (2, 36)
  | _ => (0, 0)
def pM (h : zH) (M : Nat) (s : Nat → Int32) (A : Nat → Nat → Int32) : Prop := h.2 M = some (zO 9 (mO M s)) ∧ ∀ k, 1 ≤ k → k ≤ 36 → h.2 (M + k) = some (zI (mTL k).1 (mTL k).2 (A k))
def xM (M : Nat) : Nat → Prop := fun b => M ≤ b ∧ b < M + 37
theorem pM.w {h : zH} {M : Nat} {s : Nat → Int32} {A : Nat → Nat → Int32} (hp : pM h M s A) {k : Nat} (h1 : 1 ≤ k) (f : Nat → Int32) : pM (zset h (M + k) (zI (mTL k).1 (mTL k).2 f)) M s (va_up A k f) := by
  refine ⟨(zset_o (by omega)).trans hp.1, fun j hj hj2 => ?_⟩
  by_cases h9 : j = k
  · rw [h9, va_up_self, zset_s]
  · rw [va_up_ne _ _ h9, zset_o (by omega)]
    exact hp.2 j hj hj2
theorem pM.o {h : zH} {M : Nat} {s : Nat → Int32} {A : Nat → Nat → Int32} (hp : pM h M s A) (s' : Nat → Int32) : pM (zset h M (zO 9 (mO M s'))) M s' A := by
  refine ⟨zset_s _ _ _, fun j hj hj2 => ?_⟩
  rw [zset_o (by omega)]
  exact hp.2 j hj hj2
theorem pM.kept {h h' : zH} {M : Nat} {s : Nat → Int32} {A : Nat → Nat → Int32} (hp : pM h M s A) (hf : ∀ b, xM M b → h'.2 b = h.2 b) : pM h' M s A := ⟨(hf _ ⟨by omega, by omega⟩).trans hp.1, fun k h1 h2 => (hf _ ⟨by omega, by omega⟩).trans (hp.2 k h1 h2)⟩
theorem pM.norev {h : zH} {M : Nat} {s : Nat → Int32} {A : Nat → Nat → Int32} (hp : pM h M s A) {b : Nat} {fs : List Value} (hb : h.2 b = some (zO 4 fs)) : ¬ xM M b := by
  intro q
  obtain ⟨q1, q2⟩ := q
  by_cases h9 : b = M
  · rw [h9, hp.1] at hb
    cases hb
  · have := hp.2 (b - M) (by omega) (by omega)
    rw [show M + (b - M) = b by omega, hb] at this
    cases this
theorem pM.kr {h h' : zH} {M : Nat} {s : Nat → Int32} {A : Nat → Nat → Int32} (hp : pM h M s A) (hz : zfr (xM M) h h') : zkr h h' := fun b fs hb => (hz.2 b (hp.norev hb)).trans hb
theorem xM_k (M : Nat) {k : Nat} (hk : k ≤ 36) : xM M (M + k) := ⟨by omega, by omega⟩
theorem pM.a1 {h : zH} {M : Nat} {s : Nat → Int32} {A : Nat → Nat → Int32} (hp : pM h M s A) : h.2 (M + 1) = some (zI 1 32 (A 1)) := hp.2 1 (Nat.le_of_ble_eq_true rfl) (Nat.le_of_ble_eq_true rfl)
theorem pM.w1 {h : zH} {M : Nat} {s : Nat → Int32} {A : Nat → Nat → Int32} (hp : pM h M s A) (f : Nat → Int32) : pM (zset h (M + 1) (zI 1 32 f)) M s (va_up A 1 f) := hp.w (Nat.le_of_ble_eq_true rfl) f
theorem pM.a2 {h : zH} {M : Nat} {s : Nat → Int32} {A : Nat → Nat → Int32} (hp : pM h M s A) : h.2 (M + 2) = some (zI 1 144 (A 2)) := hp.2 2 (Nat.le_of_ble_eq_true rfl) (Nat.le_of_ble_eq_true rfl)
theorem pM.w2 {h : zH} {M : Nat} {s : Nat → Int32} {A : Nat → Nat → Int32} (hp : pM h M s A) (f : Nat → Int32) : pM (zset h (M + 2) (zI 1 144 f)) M s (va_up A 2 f) := hp.w (Nat.le_of_ble_eq_true rfl) f
theorem pM.a3 {h : zH} {M : Nat} {s : Nat → Int32} {A : Nat → Nat → Int32} (hp : pM h M s A) : h.2 (M + 3) = some (zI 0 12 (A 3)) := hp.2 3 (Nat.le_of_ble_eq_true rfl) (Nat.le_of_ble_eq_true rfl)
theorem pM.w3 {h : zH} {M : Nat} {s : Nat → Int32} {A : Nat → Nat → Int32} (hp : pM h M s A) (f : Nat → Int32) : pM (zset h (M + 3) (zI 0 12 f)) M s (va_up A 3 f) := hp.w (Nat.le_of_ble_eq_true rfl) f
theorem pM.a4 {h : zH} {M : Nat} {s : Nat → Int32} {A : Nat → Nat → Int32} (hp : pM h M s A) : h.2 (M + 4) = some (zI 1 120 (A 4)) := hp.2 4 (Nat.le_of_ble_eq_true rfl) (Nat.le_of_ble_eq_true rfl)
theorem pM.w4 {h : zH} {M : Nat} {s : Nat → Int32} {A : Nat → Nat → Int32} (hp : pM h M s A) (f : Nat → Int32) : pM (zset h (M + 4) (zI 1 120 f)) M s (va_up A 4 f) := hp.w (Nat.le_of_ble_eq_true rfl) f
theorem pM.a5 {h : zH} {M : Nat} {s : Nat → Int32} {A : Nat → Nat → Int32} (hp : pM h M s A) : h.2 (M + 5) = some (zI 1 120 (A 5)) := hp.2 5 (Nat.le_of_ble_eq_true rfl) (Nat.le_of_ble_eq_true rfl)
theorem pM.w5 {h : zH} {M : Nat} {s : Nat → Int32} {A : Nat → Nat → Int32} (hp : pM h M s A) (f : Nat → Int32) : pM (zset h (M + 5) (zI 1 120 f)) M s (va_up A 5 f) := hp.w (Nat.le_of_ble_eq_true rfl) f
theorem pM.a6 {h : zH} {M : Nat} {s : Nat → Int32} {A : Nat → Nat → Int32} (hp : pM h M s A) : h.2 (M + 6) = some (zI 0 10 (A 6)) := hp.2 6 (Nat.le_of_ble_eq_true rfl) (Nat.le_of_ble_eq_true rfl)
theorem pM.w6 {h : zH} {M : Nat} {s : Nat → Int32} {A : Nat → Nat → Int32} (hp : pM h M s A) (f : Nat → Int32) : pM (zset h (M + 6) (zI 0 10 f)) M s (va_up A 6 f) := hp.w (Nat.le_of_ble_eq_true rfl) f
theorem pM.a7 {h : zH} {M : Nat} {s : Nat → Int32} {A : Nat → Nat → Int32} (hp : pM h M s A) : h.2 (M + 7) = some (zI 0 10 (A 7)) := hp.2 7 (Nat.le_of_ble_eq_true rfl) (Nat.le_of_ble_eq_true rfl)
theorem pM.w7 {h : zH} {M : Nat} {s : Nat → Int32} {A : Nat → Nat → Int32} (hp : pM h M s A) (f : Nat → Int32) : pM (zset h (M + 7) (zI 0 10 f)) M s (va_up A 7 f) := hp.w (Nat.le_of_ble_eq_true rfl) f
theorem pM.a8 {h : zH} {M : Nat} {s : Nat → Int32} {A : Nat → Nat → Int32} (hp : pM h M s A) : h.2 (M + 8) = some (zI 1 864 (A 8)) := hp.2 8 (Nat.le_of_ble_eq_true rfl) (Nat.le_of_ble_eq_true rfl)
theorem pM.w8 {h : zH} {M : Nat} {s : Nat → Int32} {A : Nat → Nat → Int32} (hp : pM h M s A) (f : Nat → Int32) : pM (zset h (M + 8) (zI 1 864 f)) M s (va_up A 8 f) := hp.w (Nat.le_of_ble_eq_true rfl) f
theorem pM.a9 {h : zH} {M : Nat} {s : Nat → Int32} {A : Nat → Nat → Int32} (hp : pM h M s A) : h.2 (M + 9) = some (zI 0 36 (A 9)) := hp.2 9 (Nat.le_of_ble_eq_true rfl) (Nat.le_of_ble_eq_true rfl)
theorem pM.w9 {h : zH} {M : Nat} {s : Nat → Int32} {A : Nat → Nat → Int32} (hp : pM h M s A) (f : Nat → Int32) : pM (zset h (M + 9) (zI 0 36 f)) M s (va_up A 9 f) := hp.w (Nat.le_of_ble_eq_true rfl) f
theorem pM.a10 {h : zH} {M : Nat} {s : Nat → Int32} {A : Nat → Nat → Int32} (hp : pM h M s A) : h.2 (M + 10) = some (zI 2 36 (A 10)) := hp.2 10 (Nat.le_of_ble_eq_true rfl) (Nat.le_of_ble_eq_true rfl)
theorem pM.w10 {h : zH} {M : Nat} {s : Nat → Int32} {A : Nat → Nat → Int32} (hp : pM h M s A) (f : Nat → Int32) : pM (zset h (M + 10) (zI 2 36 f)) M s (va_up A 10 f) := hp.w (Nat.le_of_ble_eq_true rfl) f
theorem pM.a11 {h : zH} {M : Nat} {s : Nat → Int32} {A : Nat → Nat → Int32} (hp : pM h M s A) : h.2 (M + 11) = some (zI 0 2 (A 11)) := hp.2 11 (Nat.le_of_ble_eq_true rfl) (Nat.le_of_ble_eq_true rfl)
theorem pM.w11 {h : zH} {M : Nat} {s : Nat → Int32} {A : Nat → Nat → Int32} (hp : pM h M s A) (f : Nat → Int32) : pM (zset h (M + 11) (zI 0 2 f)) M s (va_up A 11 f) := hp.w (Nat.le_of_ble_eq_true rfl) f
theorem pM.a12 {h : zH} {M : Nat} {s : Nat → Int32} {A : Nat → Nat → Int32} (hp : pM h M s A) : h.2 (M + 12) = some (zI 0 2 (A 12)) := hp.2 12 (Nat.le_of_ble_eq_true rfl) (Nat.le_of_ble_eq_true rfl)
theorem pM.w12 {h : zH} {M : Nat} {s : Nat → Int32} {A : Nat → Nat → Int32} (hp : pM h M s A) (f : Nat → Int32) : pM (zset h (M + 12) (zI 0 2 f)) M s (va_up A 12 f) := hp.w (Nat.le_of_ble_eq_true rfl) f
theorem pM.a13 {h : zH} {M : Nat} {s : Nat → Int32} {A : Nat → Nat → Int32} (hp : pM h M s A) : h.2 (M + 13) = some (zI 0 512 (A 13)) := hp.2 13 (Nat.le_of_ble_eq_true rfl) (Nat.le_of_ble_eq_true rfl)
theorem pM.w13 {h : zH} {M : Nat} {s : Nat → Int32} {A : Nat → Nat → Int32} (hp : pM h M s A) (f : Nat → Int32) : pM (zset h (M + 13) (zI 0 512 f)) M s (va_up A 13 f) := hp.w (Nat.le_of_ble_eq_true rfl) f
theorem pM.a14 {h : zH} {M : Nat} {s : Nat → Int32} {A : Nat → Nat → Int32} (hp : pM h M s A) : h.2 (M + 14) = some (zI 0 512 (A 14)) := hp.2 14 (Nat.le_of_ble_eq_true rfl) (Nat.le_of_ble_eq_true rfl)
theorem pM.w14 {h : zH} {M : Nat} {s : Nat → Int32} {A : Nat → Nat → Int32} (hp : pM h M s A) (f : Nat → Int32) : pM (zset h (M + 14) (zI 0 512 f)) M s (va_up A 14 f) := hp.w (Nat.le_of_ble_eq_true rfl) f
theorem pM.a15 {h : zH} {M : Nat} {s : Nat → Int32} {A : Nat → Nat → Int32} (hp : pM h M s A) : h.2 (M + 15) = some (zI 0 512 (A 15)) := hp.2 15 (Nat.le_of_ble_eq_true rfl) (Nat.le_of_ble_eq_true rfl)
theorem pM.w15 {h : zH} {M : Nat} {s : Nat → Int32} {A : Nat → Nat → Int32} (hp : pM h M s A) (f : Nat → Int32) : pM (zset h (M + 15) (zI 0 512 f)) M s (va_up A 15 f) := hp.w (Nat.le_of_ble_eq_true rfl) f
theorem pM.a16 {h : zH} {M : Nat} {s : Nat → Int32} {A : Nat → Nat → Int32} (hp : pM h M s A) : h.2 (M + 16) = some (zI 0 512 (A 16)) := hp.2 16 (Nat.le_of_ble_eq_true rfl) (Nat.le_of_ble_eq_true rfl)
theorem pM.w16 {h : zH} {M : Nat} {s : Nat → Int32} {A : Nat → Nat → Int32} (hp : pM h M s A) (f : Nat → Int32) : pM (zset h (M + 16) (zI 0 512 f)) M s (va_up A 16 f) := hp.w (Nat.le_of_ble_eq_true rfl) f
theorem pM.a17 {h : zH} {M : Nat} {s : Nat → Int32} {A : Nat → Nat → Int32} (hp : pM h M s A) : h.2 (M + 17) = some (zI 0 512 (A 17)) := hp.2 17 (Nat.le_of_ble_eq_true rfl) (Nat.le_of_ble_eq_true rfl)
theorem pM.w17 {h : zH} {M : Nat} {s : Nat → Int32} {A : Nat → Nat → Int32} (hp : pM h M s A) (f : Nat → Int32) : pM (zset h (M + 17) (zI 0 512 f)) M s (va_up A 17 f) := hp.w (Nat.le_of_ble_eq_true rfl) f
theorem pM.a18 {h : zH} {M : Nat} {s : Nat → Int32} {A : Nat → Nat → Int32} (hp : pM h M s A) : h.2 (M + 18) = some (zI 0 12 (A 18)) := hp.2 18 (Nat.le_of_ble_eq_true rfl) (Nat.le_of_ble_eq_true rfl)
theorem pM.w18 {h : zH} {M : Nat} {s : Nat → Int32} {A : Nat → Nat → Int32} (hp : pM h M s A) (f : Nat → Int32) : pM (zset h (M + 18) (zI 0 12 f)) M s (va_up A 18 f) := hp.w (Nat.le_of_ble_eq_true rfl) f
theorem pM.a19 {h : zH} {M : Nat} {s : Nat → Int32} {A : Nat → Nat → Int32} (hp : pM h M s A) : h.2 (M + 19) = some (zI 0 48 (A 19)) := hp.2 19 (Nat.le_of_ble_eq_true rfl) (Nat.le_of_ble_eq_true rfl)
theorem pM.w19 {h : zH} {M : Nat} {s : Nat → Int32} {A : Nat → Nat → Int32} (hp : pM h M s A) (f : Nat → Int32) : pM (zset h (M + 19) (zI 0 48 f)) M s (va_up A 19 f) := hp.w (Nat.le_of_ble_eq_true rfl) f
theorem pM.a20 {h : zH} {M : Nat} {s : Nat → Int32} {A : Nat → Nat → Int32} (hp : pM h M s A) : h.2 (M + 20) = some (zI 0 48 (A 20)) := hp.2 20 (Nat.le_of_ble_eq_true rfl) (Nat.le_of_ble_eq_true rfl)
theorem pM.w20 {h : zH} {M : Nat} {s : Nat → Int32} {A : Nat → Nat → Int32} (hp : pM h M s A) (f : Nat → Int32) : pM (zset h (M + 20) (zI 0 48 f)) M s (va_up A 20 f) := hp.w (Nat.le_of_ble_eq_true rfl) f
theorem pM.a21 {h : zH} {M : Nat} {s : Nat → Int32} {A : Nat → Nat → Int32} (hp : pM h M s A) : h.2 (M + 21) = some (zI 0 48 (A 21)) := hp.2 21 (Nat.le_of_ble_eq_true rfl) (Nat.le_of_ble_eq_true rfl)
theorem pM.w21 {h : zH} {M : Nat} {s : Nat → Int32} {A : Nat → Nat → Int32} (hp : pM h M s A) (f : Nat → Int32) : pM (zset h (M + 21) (zI 0 48 f)) M s (va_up A 21 f) := hp.w (Nat.le_of_ble_eq_true rfl) f
theorem pM.a22 {h : zH} {M : Nat} {s : Nat → Int32} {A : Nat → Nat → Int32} (hp : pM h M s A) : h.2 (M + 22) = some (zI 2 48 (A 22)) := hp.2 22 (Nat.le_of_ble_eq_true rfl) (Nat.le_of_ble_eq_true rfl)
theorem pM.w22 {h : zH} {M : Nat} {s : Nat → Int32} {A : Nat → Nat → Int32} (hp : pM h M s A) (f : Nat → Int32) : pM (zset h (M + 22) (zI 2 48 f)) M s (va_up A 22 f) := hp.w (Nat.le_of_ble_eq_true rfl) f
theorem pM.a23 {h : zH} {M : Nat} {s : Nat → Int32} {A : Nat → Nat → Int32} (hp : pM h M s A) : h.2 (M + 23) = some (zI 2 48 (A 23)) := hp.2 23 (Nat.le_of_ble_eq_true rfl) (Nat.le_of_ble_eq_true rfl)
theorem pM.w23 {h : zH} {M : Nat} {s : Nat → Int32} {A : Nat → Nat → Int32} (hp : pM h M s A) (f : Nat → Int32) : pM (zset h (M + 23) (zI 2 48 f)) M s (va_up A 23 f) := hp.w (Nat.le_of_ble_eq_true rfl) f
theorem pM.a24 {h : zH} {M : Nat} {s : Nat → Int32} {A : Nat → Nat → Int32} (hp : pM h M s A) : h.2 (M + 24) = some (zI 0 144 (A 24)) := hp.2 24 (Nat.le_of_ble_eq_true rfl) (Nat.le_of_ble_eq_true rfl)
theorem pM.w24 {h : zH} {M : Nat} {s : Nat → Int32} {A : Nat → Nat → Int32} (hp : pM h M s A) (f : Nat → Int32) : pM (zset h (M + 24) (zI 0 144 f)) M s (va_up A 24 f) := hp.w (Nat.le_of_ble_eq_true rfl) f
theorem pM.a25 {h : zH} {M : Nat} {s : Nat → Int32} {A : Nat → Nat → Int32} (hp : pM h M s A) : h.2 (M + 25) = some (zI 0 36 (A 25)) := hp.2 25 (Nat.le_of_ble_eq_true rfl) (Nat.le_of_ble_eq_true rfl)
theorem pM.w25 {h : zH} {M : Nat} {s : Nat → Int32} {A : Nat → Nat → Int32} (hp : pM h M s A) (f : Nat → Int32) : pM (zset h (M + 25) (zI 0 36 f)) M s (va_up A 25 f) := hp.w (Nat.le_of_ble_eq_true rfl) f
theorem pM.a26 {h : zH} {M : Nat} {s : Nat → Int32} {A : Nat → Nat → Int32} (hp : pM h M s A) : h.2 (M + 26) = some (zI 0 36 (A 26)) := hp.2 26 (Nat.le_of_ble_eq_true rfl) (Nat.le_of_ble_eq_true rfl)
theorem pM.w26 {h : zH} {M : Nat} {s : Nat → Int32} {A : Nat → Nat → Int32} (hp : pM h M s A) (f : Nat → Int32) : pM (zset h (M + 26) (zI 0 36 f)) M s (va_up A 26 f) := hp.w (Nat.le_of_ble_eq_true rfl) f
theorem pM.a27 {h : zH} {M : Nat} {s : Nat → Int32} {A : Nat → Nat → Int32} (hp : pM h M s A) : h.2 (M + 27) = some (zI 0 36 (A 27)) := hp.2 27 (Nat.le_of_ble_eq_true rfl) (Nat.le_of_ble_eq_true rfl)
theorem pM.w27 {h : zH} {M : Nat} {s : Nat → Int32} {A : Nat → Nat → Int32} (hp : pM h M s A) (f : Nat → Int32) : pM (zset h (M + 27) (zI 0 36 f)) M s (va_up A 27 f) := hp.w (Nat.le_of_ble_eq_true rfl) f
theorem pM.a28 {h : zH} {M : Nat} {s : Nat → Int32} {A : Nat → Nat → Int32} (hp : pM h M s A) : h.2 (M + 28) = some (zI 0 36 (A 28)) := hp.2 28 (Nat.le_of_ble_eq_true rfl) (Nat.le_of_ble_eq_true rfl)
theorem pM.w28 {h : zH} {M : Nat} {s : Nat → Int32} {A : Nat → Nat → Int32} (hp : pM h M s A) (f : Nat → Int32) : pM (zset h (M + 28) (zI 0 36 f)) M s (va_up A 28 f) := hp.w (Nat.le_of_ble_eq_true rfl) f
theorem pM.a29 {h : zH} {M : Nat} {s : Nat → Int32} {A : Nat → Nat → Int32} (hp : pM h M s A) : h.2 (M + 29) = some (zI 0 36 (A 29)) := hp.2 29 (Nat.le_of_ble_eq_true rfl) (Nat.le_of_ble_eq_true rfl)
theorem pM.w29 {h : zH} {M : Nat} {s : Nat → Int32} {A : Nat → Nat → Int32} (hp : pM h M s A) (f : Nat → Int32) : pM (zset h (M + 29) (zI 0 36 f)) M s (va_up A 29 f) := hp.w (Nat.le_of_ble_eq_true rfl) f
theorem pM.a30 {h : zH} {M : Nat} {s : Nat → Int32} {A : Nat → Nat → Int32} (hp : pM h M s A) : h.2 (M + 30) = some (zI 2 36 (A 30)) := hp.2 30 (Nat.le_of_ble_eq_true rfl) (Nat.le_of_ble_eq_true rfl)
theorem pM.w30 {h : zH} {M : Nat} {s : Nat → Int32} {A : Nat → Nat → Int32} (hp : pM h M s A) (f : Nat → Int32) : pM (zset h (M + 30) (zI 2 36 f)) M s (va_up A 30 f) := hp.w (Nat.le_of_ble_eq_true rfl) f
theorem pM.a31 {h : zH} {M : Nat} {s : Nat → Int32} {A : Nat → Nat → Int32} (hp : pM h M s A) : h.2 (M + 31) = some (zI 0 36 (A 31)) := hp.2 31 (Nat.le_of_ble_eq_true rfl) (Nat.le_of_ble_eq_true rfl)
theorem pM.w31 {h : zH} {M : Nat} {s : Nat → Int32} {A : Nat → Nat → Int32} (hp : pM h M s A) (f : Nat → Int32) : pM (zset h (M + 31) (zI 0 36 f)) M s (va_up A 31 f) := hp.w (Nat.le_of_ble_eq_true rfl) f
theorem pM.a32 {h : zH} {M : Nat} {s : Nat → Int32} {A : Nat → Nat → Int32} (hp : pM h M s A) : h.2 (M + 32) = some (zI 0 36 (A 32)) := hp.2 32 (Nat.le_of_ble_eq_true rfl) (Nat.le_of_ble_eq_true rfl)
theorem pM.w32 {h : zH} {M : Nat} {s : Nat → Int32} {A : Nat → Nat → Int32} (hp : pM h M s A) (f : Nat → Int32) : pM (zset h (M + 32) (zI 0 36 f)) M s (va_up A 32 f) := hp.w (Nat.le_of_ble_eq_true rfl) f
theorem pM.a33 {h : zH} {M : Nat} {s : Nat → Int32} {A : Nat → Nat → Int32} (hp : pM h M s A) : h.2 (M + 33) = some (zI 0 36 (A 33)) := hp.2 33 (Nat.le_of_ble_eq_true rfl) (Nat.le_of_ble_eq_true rfl)
theorem pM.w33 {h : zH} {M : Nat} {s : Nat → Int32} {A : Nat → Nat → Int32} (hp : pM h M s A) (f : Nat → Int32) : pM (zset h (M + 33) (zI 0 36 f)) M s (va_up A 33 f) := hp.w (Nat.le_of_ble_eq_true rfl) f
theorem pM.a34 {h : zH} {M : Nat} {s : Nat → Int32} {A : Nat → Nat → Int32} (hp : pM h M s A) : h.2 (M + 34) = some (zI 0 36 (A 34)) := hp.2 34 (Nat.le_of_ble_eq_true rfl) (Nat.le_of_ble_eq_true rfl)
theorem pM.w34 {h : zH} {M : Nat} {s : Nat → Int32} {A : Nat → Nat → Int32} (hp : pM h M s A) (f : Nat → Int32) : pM (zset h (M + 34) (zI 0 36 f)) M s (va_up A 34 f) := hp.w (Nat.le_of_ble_eq_true rfl) f
theorem pM.a35 {h : zH} {M : Nat} {s : Nat → Int32} {A : Nat → Nat → Int32} (hp : pM h M s A) : h.2 (M + 35) = some (zI 0 36 (A 35)) := hp.2 35 (Nat.le_of_ble_eq_true rfl) (Nat.le_of_ble_eq_true rfl)
theorem pM.w35 {h : zH} {M : Nat} {s : Nat → Int32} {A : Nat → Nat → Int32} (hp : pM h M s A) (f : Nat → Int32) : pM (zset h (M + 35) (zI 0 36 f)) M s (va_up A 35 f) := hp.w (Nat.le_of_ble_eq_true rfl) f
theorem pM.a36 {h : zH} {M : Nat} {s : Nat → Int32} {A : Nat → Nat → Int32} (hp : pM h M s A) : h.2 (M + 36) = some (zI 2 36 (A 36)) := hp.2 36 (Nat.le_of_ble_eq_true rfl) (Nat.le_of_ble_eq_true rfl)
theorem pM.w36 {h : zH} {M : Nat} {s : Nat → Int32} {A : Nat → Nat → Int32} (hp : pM h M s A) (f : Nat → Int32) : pM (zset h (M + 36) (zI 2 36 f)) M s (va_up A 36 f) := hp.w (Nat.le_of_ble_eq_true rfl) f
/-! What the numbers in them mean. -/
def mBuf (s : Nat → Int32) (A : Nat → Nat → Int32) (l : gT) : Prop := s 0 = nI l.length ∧ l.length ≤ 32 ∧ (∀ i c, l[i]? = some c → A 1 i = c) ∧ ∀ c ∈ l, zch c
def mPath (A : Nat → Nat → Int32) (f : Nat) (p : gT) : Prop := A 3 f = nI p.length ∧ (∀ i c, p[i]? = some c → A 2 (12 * f + i) = c) ∧ ∀ c ∈ p, zch c
def mLine (A : Nat → Nat → Int32) (l : Nat) (ln : gLine) : Prop := A 6 l = nI ln.2.1.length ∧ A 7 l = nI ln.2.2.length ∧ (∀ i c, ln.2.1[i]? = some c → A 4 (12 * l + i) = c) ∧ (∀ i c, ln.2.2[i]? = some c → A 5 (12 * l + i) = c) ∧ ∀ c ∈ ln.2.2, zch c
def mCat (s : Nat → Int32) (A : Nat → Nat → Int32) (cat : gCat) : Prop := s 1 = nI cat.1.length ∧ s 2 = nI cat.2.length ∧ (∀ f p, cat.1[f]? = some p → mPath A f p) ∧ ∀ l ln, cat.2[l]? = some ln → mLine A l ln
def mPl1 (A : Nat → Nat → Int32) (k : Nat) (o : Option gT) : Prop := match o with
  | none => A 9 k = - nI 1
  | some t => A 9 k = nI t.length ∧ t.length ≤ 24 ∧ ∀ i c, t[i]? = some c → A 8 (24 * k + i) = c
def mLook (A : Nat → Nat → Int32) (cat : gCat) (v : Nat → Nat) : Prop := ∀ c f, c < 3 → f < cat.1.length → mPl1 A (12 * c + f) (gPlace cat v c f) ∧ A 10 (12 * c + f) = gB (gShown cat v c f)
def mPl (s : Nat → Int32) (A : Nat → Nat → Int32) (cat : gCat) (v : Nat → Nat) : Prop := s 3 = nI 0 ∨ (s 3 = nI 1 ∧ mLook A cat v)
def mRec (s : Nat → Int32) (A : Nat → Nat → Int32) (n k : Nat) (rs : Nat → gRec) : Prop := s 4 = nI n ∧ s 5 = nI k ∧ ∀ j, j < n → A 13 j = (gCode (rs j)).1 ∧ A 14 j = (gCode (rs j)).2.1 ∧ A 15 j = (gCode (rs j)).2.2.1 ∧ A 16 j = (gCode (rs j)).2.2.2.1 ∧ A 17 j = (gCode (rs j)).2.2.2.2
def mRv (A : Nat → Nat → Int32) (i : Nat) (r : gRev) : Prop := A 19 i = nI r.1 ∧ A 20 i = nI r.2.1 ∧ A 22 i = gB r.2.2.2.1 ∧ A 23 i = gB r.2.2.2.2 ∧ (r.2.2.2.1 = false → A 21 i = r.2.2.1) ∧ (r.2.2.2.1 = true → r.2.2.1 = 0)
def mOw (x y : Int32) (o : Option (Nat × Nat)) : Prop := match o with
  | none => x = nI 0
  | some z => x = nI (z.1 + 1) ∧ y = nI z.2
def mCr (x y b : Int32) (o : Option (Nat × Nat × Bool)) : Prop := match o with
  | none => x = nI 0
  | some z => x = nI (z.1 + 1) ∧ y = nI z.2.1 ∧ b = gB z.2.2
def gKd (w : gWork) : Nat := match w.2.2 with
  | none => 0
  | some q => q.1
def mOp (A : Nat → Nat → Int32) (k : Nat) (q : gOpn) : Prop := A 28 k = nI q.2.1 ∧ A 29 k = nI q.2.2.1 ∧ A 30 k = gB q.2.2.2.1 ∧ A 31 k = nI q.2.2.2.2.1 ∧ mOw (A 32 k) (A 33 k) q.2.2.2.2.2.1 ∧ mCr (A 34 k) (A 35 k) (A 36 k) q.2.2.2.2.2.2
def mW (A : Nat → Nat → Int32) (k : Nat) (w : gWork) : Prop := A 25 k = nI w.1 ∧ A 26 k = w.2.1 ∧ A 27 k = nI (gKd w) ∧ ∀ q, w.2.2 = some q → mOp A k q
def mU (s : Nat → Int32) (A : Nat → Nat → Int32) (u : gU) : Prop := (∀ i, i < 12 → A 18 i = nI (u.1 i)) ∧ s 6 = nI u.2.1.length ∧ (∀ i r, u.2.1[i]? = some r → mRv A i r) ∧ s 7 = nI u.2.2.1 ∧ s 8 = nI u.2.2.2.1 ∧ (∀ i, i < 144 → A 24 i = nI (u.2.2.2.2.1 i)) ∧ ∀ k, k < 36 → mW A k (u.2.2.2.2.2 k)
def mR (s : Nat → Int32) (A : Nat → Nat → Int32) (S : gS) (rs : Nat → gRec) : Prop := mBuf s A S.1 ∧ mCat s A S.2.1 ∧ mPl s A S.2.1 S.2.2.1.1 ∧ mRec s A S.2.2.2.1 S.2.2.2.2.1 rs ∧ mU s A S.2.2.1
theorem mBuf.kept {s s' : Nat → Int32} {A A' : Nat → Nat → Int32} {l : gT} (h : mBuf s A l) (h0 : s' 0 = s 0) (h1 : A' 1 = A 1) : mBuf s' A' l := by
  unfold mBuf at h ⊢
  rw [h0, h1]
  exact h
theorem mCat.kept {s s' : Nat → Int32} {A A' : Nat → Nat → Int32} {cat : gCat} (h : mCat s A cat) (h1 : s' 1 = s 1) (h2 : s' 2 = s 2) (hA : ∀ k, 2 ≤ k → k ≤ 7 → A' k = A k) : mCat s' A' cat := by
  unfold mCat mPath mLine at h ⊢
  rw [h1, h2, hA 2 (by omega) (by omega), hA 3 (by omega) (by omega), hA 4 (by omega) (by omega), hA 5 (by omega) (by omega), hA 6 (by omega) (by omega), hA 7 (by omega) (by omega)]
  exact h
theorem mPl1.kept {A A' : Nat → Nat → Int32} {k : Nat} {o : Option gT} (h : mPl1 A k o) (h8 : A' 8 = A 8) (h9 : A' 9 = A 9) : mPl1 A' k o := by
  unfold mPl1 at h ⊢
  rw [h8, h9]
  exact h
theorem mPl.kept {s s' : Nat → Int32} {A A' : Nat → Nat → Int32} {cat : gCat} {v : Nat → Nat} (h : mPl s A cat v) (h3 : s' 3 = s 3) (hA : ∀ k, 8 ≤ k → k ≤ 10 → A' k = A k) : mPl s' A' cat v := by
  unfold mPl mLook at h ⊢
  rw [h3, hA 10 (by omega) (by omega)]
  rcases h with h | ⟨h1, h2⟩
  · exact Or.inl h
  · exact Or.inr ⟨h1, fun c f hc hf => ⟨(h2 c f hc hf).1.kept (hA 8 (by omega) (by omega)) (hA 9 (by omega) (by omega)), (h2 c f hc hf).2⟩⟩
theorem mRec.kept {s s' : Nat → Int32} {A A' : Nat → Nat → Int32} {n k : Nat} {rs : Nat → gRec} (h : mRec s A n k rs) (h4 : s' 4 = s 4) (h5 : s' 5 = s 5) (hA : ∀ k, 13 ≤ k → k ≤ 17 → A' k = A k) : mRec s' A' n k rs := by
  unfold mRec at h ⊢
  rw [h4, h5, hA 13 (by omega) (by omega), hA 14 (by omega) (by omega), hA 15 (by omega) (by omega), hA 16 (by omega) (by omega), hA 17 (by omega) (by omega)]
  exact h
theorem mRv.kept {A A' : Nat → Nat → Int32} {i : Nat} {r : gRev} (h : mRv A i r) (hA : ∀ k, 19 ≤ k → k ≤ 23 → A' k i = A k i) : mRv A' i r := by
  unfold mRv at h ⊢
  rw [hA 19 (by omega) (by omega), hA 20 (by omega) (by omega), hA 21 (by omega) (by omega), hA 22 (by omega) (by omega), hA 23 (by omega) (by omega)]
  exact h
theorem mW.kept {A A' : Nat → Nat → Int32} {i : Nat} {w : gWork} (h : mW A i w) (hA : ∀ k, 25 ≤ k → k ≤ 36 → A' k i = A k i) : mW A' i w := by
  unfold mW mOp at h ⊢
  rw [hA 25 (by omega) (by omega), hA 26 (by omega) (by omega), hA 27 (by omega) (by omega), hA 28 (by omega) (by omega), hA 29 (by omega) (by omega), hA 30 (by omega) (by omega), hA 31 (by omega) (by omega), hA 32 (by omega) (by omega), hA 33 (by omega) (by omega), hA 34 (by omega) (by omega), hA 35 (by omega) (by omega), hA 36 (by omega) (by omega)]
  exact h
theorem mU.kept {s s' : Nat → Int32} {A A' : Nat → Nat → Int32} {u : gU} (h : mU s A u) (h6 : s' 6 = s 6) (h7 : s' 7 = s 7) (h8 : s' 8 = s 8) (hA : ∀ k, 18 ≤ k → k ≤ 36 → A' k = A k) : mU s' A' u := by
  obtain ⟨e1, e2, e3, e4, e5, e6, e7⟩ := h
  refine ⟨?_, h6.trans e2, fun i r hr => (e3 i r hr).kept (fun k h1 h2 => by rw [hA k (by omega) (by omega)]), h7.trans e4, h8.trans e5, ?_, fun k hk => (e7 k hk).kept (fun j h1 h2 => by rw [hA j (by omega) (by omega)])⟩
  · rw [hA 18 (by omega) (by omega)]
    exact e1
  · rw [hA 24 (by omega) (by omega)]
    exact e6
/-- only arrays of works, and these only at k, changed -/
def mAt (k : Nat) (A A' : Nat → Nat → Int32) : Prop := (∀ a, a < 25 → A' a = A a) ∧ ∀ a j, j ≠ k → A' a j = A a j
theorem mAt.rf (k : Nat) (A : Nat → Nat → Int32) : mAt k A A := ⟨fun _ _ => rfl, fun _ _ _ => rfl⟩
theorem mAt.up {k : Nat} {A A' : Nat → Nat → Int32} (h : mAt k A A') {a : Nat} (ha : 25 ≤ a) (x : Int32) : mAt k A (va_up A' a (upd (A' a) k x)) := by
  refine ⟨fun b hb => ?_, fun b j hj => ?_⟩
  · rw [va_up_ne _ _ (by omega)]
    exact h.1 b hb
  · by_cases h9 : b = a
    · rw [h9, va_up_self, pk_un hj]
      exact h.2 a j hj
    · rw [va_up_ne _ _ h9]
      exact h.2 b j hj
theorem mAt.tr {k : Nat} {A A' A2 : Nat → Nat → Int32} (h : mAt k A A') (h2 : mAt k A' A2) : mAt k A A2 := ⟨fun a ha => (h2.1 a ha).trans (h.1 a ha), fun a j hj => (h2.2 a j hj).trans (h.2 a j hj)⟩
theorem mU.at {s : Nat → Int32} {A A' : Nat → Nat → Int32} {u : gU} {i j : Nat} {w : gWork} (h : mU s A u) (ha : mAt (12 * i + j) A A') (hw : mW A' (12 * i + j) w) : mU s A' (gSetW u i j w) := by
  obtain ⟨e1, e2, e3, e4, e5, e6, e7⟩ := h
  refine ⟨?_, e2, fun i r hr => (e3 i r hr).kept (fun k h1 h2 => by rw [ha.1 k (by omega)]), e4, e5, ?_, fun k hk => ?_⟩
  · rw [ha.1 18 (by omega)]
    exact e1
  · rw [ha.1 24 (by omega)]
    exact e6
  · show mW A' k (va_up u.2.2.2.2.2 (12 * i + j) w k)
    by_cases h9 : k = 12 * i + j
    · rw [h9, va_up_self]
      exact hw
    · rw [va_up_ne _ _ h9]
      exact (e7 k hk).kept (fun a _ _ => ha.2 a k h9)
/-- what is asked behind a call of the reference -/
def zM2 (M : Nat) (h : zH) (Q : Option Value → zH → Prop) (a : gA) : Prop := ∀ h' s' A' rs', pM h' M s' A' → mR s' A' a.2 rs' → gIV a.2 rs' → zfr (xM M) h h' → Q (some (.int a.1)) h'
theorem zM2.rf {M : Nat} {h : zH} {Q : Option Value → zH → Prop} {S : gS} {x : Int32} {s : Nat → Int32} {A : Nat → Nat → Int32} {rs : Nat → gRec} (q : zM2 M h Q (x, S)) (hp : pM h M s A) (hr : mR s A S rs) (hv : gIV S rs) : Q (some (.int x)) h := q h s A rs hp hr hv zfr.rf
theorem zM2.go {M : Nat} {h h1 : zH} {Q : Option Value → zH → Prop} {a : gA} (q : zM2 M h Q a) (z : zfr (xM M) h h1) : zM2 M h1 Q a := fun h' s' A' rs' p r v z' => q h' s' A' rs' p r v (z.tr z')
