/-! PURE 30: numbers below 2 to the 31 as Nat, and what the functions are made of. -/
theorem qI_toInt {a : Nat} (h : a < 2147483648) : (nI a).toInt = (a : Int) := by
  unfold nI
  rw [Int32.toInt_ofNat_of_lt (by omega)]
theorem qI_toNat {a : Nat} (h : a < 2147483648) : (nI a).toNatClampNeg = a := by
  show (nI a).toInt.toNat = a
  rw [qI_toInt h]; rfl
theorem qI_add (a b : Nat) : nI a + nI b = nI (a + b) := by
  unfold nI; exact (Int32.ofNat_add a b).symm
theorem qI_add_lit (a k : Nat) : nI a + (no_index (OfNat.ofNat k) : Int32) = nI (a + OfNat.ofNat k) := qI_add a k
theorem qI_lit_add (a k : Nat) : (no_index (OfNat.ofNat k) : Int32) + nI a = nI (OfNat.ofNat k + a) := qI_add k a
theorem qI_sub {a b : Nat} (h : b ≤ a) : nI a - nI b = nI (a - b) := by
  have h1 : nI (a - b) + nI b = nI a := by rw [qI_add, Nat.sub_add_cancel h]
  rw [← h1]; grind
theorem qI_sub_lit {a k : Nat} (h : OfNat.ofNat k ≤ a) : nI a - (no_index (OfNat.ofNat k) : Int32) = nI (a - OfNat.ofNat k) := qI_sub (b := k) h
theorem qI_add_neg1 {a : Nat} (h : 1 ≤ a) : nI a + (-1 : Int32) = nI (a - 1) := by
  have := qI_sub (a := a) (b := 1) h
  rw [← this]; show nI a + -1 = nI a - 1; grind
theorem qI_mul (a b : Nat) : nI a * nI b = nI (a * b) := by
  unfold nI; exact (Int32.ofNat_mul a b).symm
theorem qI_lt {a b : Nat} (ha : a < 2147483648) (hb : b < 2147483648) : (nI a < nI b) = (a < b) := by
  rw [Int32.lt_iff_toInt_lt, qI_toInt ha, qI_toInt hb]; exact propext Int.ofNat_lt
theorem qI_le {a b : Nat} (ha : a < 2147483648) (hb : b < 2147483648) : (nI a ≤ nI b) = (a ≤ b) := by
  rw [Int32.le_iff_toInt_le, qI_toInt ha, qI_toInt hb]; exact propext Int.ofNat_le
theorem qI_eq {a b : Nat} (ha : a < 2147483648) (hb : b < 2147483648) : (nI a = nI b) = (a = b) := by
  rw [← Int32.toInt_inj, qI_toInt ha, qI_toInt hb]; exact propext Int.ofNat_inj
theorem qI_lt_lit {a k : Nat} (ha : a < 2147483648) (hb : OfNat.ofNat k < 2147483648) : (nI a < (no_index (OfNat.ofNat k) : Int32)) = (a < OfNat.ofNat k) := qI_lt ha hb
theorem qI_lit_lt {a k : Nat} (ha : a < 2147483648) (hb : OfNat.ofNat k < 2147483648) : ((no_index (OfNat.ofNat k) : Int32) < nI a) = (OfNat.ofNat k < a) := qI_lt hb ha
theorem qI_le_lit {a k : Nat} (ha : a < 2147483648) (hb : OfNat.ofNat k < 2147483648) : (nI a ≤ (no_index (OfNat.ofNat k) : Int32)) = (a ≤ OfNat.ofNat k) := qI_le ha hb
theorem qI_lit_le {a k : Nat} (ha : a < 2147483648) (hb : OfNat.ofNat k < 2147483648) : ((no_index (OfNat.ofNat k) : Int32) ≤ nI a) = (OfNat.ofNat k ≤ a) := qI_le hb ha
theorem qI_eq_lit {a k : Nat} (ha : a < 2147483648) (hb : OfNat.ofNat k < 2147483648) : (nI a = (no_index (OfNat.ofNat k) : Int32)) = (a = OfNat.ofNat k) := qI_eq ha hb
theorem qI_lit_eq {a k : Nat} (ha : a < 2147483648) (hb : OfNat.ofNat k < 2147483648) : ((no_index (OfNat.ofNat k) : Int32) = nI a) = (OfNat.ofNat k = a) := qI_eq hb ha
theorem qI_ne_neg1 {a : Nat} (ha : a < 2147483648) : (nI a = (-1 : Int32)) = False := by
  apply eq_false
  intro h
  have := congrArg Int32.toInt h
  rw [qI_toInt ha] at this
  have h2 : ((-1 : Int32)).toInt = -1 := by decide
  omega
theorem gd_nI {a N : Nat} (h : a < N) (ha : a < 2147483648) : gd (nI a) N = true := by
  unfold gd
  apply decide_eq_true
  rw [qI_toNat ha]
  rintro (h1 | h1)
  · rw [qI_lt_lit ha (by decide)] at h1; exact Nat.not_lt_zero _ h1
  · omega
theorem gd_lit {k N : Nat} (h : OfNat.ofNat k < N) (ha : OfNat.ofNat k < 2147483648) : gd (no_index (OfNat.ofNat k) : Int32) N = true := gd_nI (a := k) h ha
theorem qI_lit_toNat {k : Nat} (h : OfNat.ofNat k < 2147483648) : ((no_index (OfNat.ofNat k) : Int32)).toNatClampNeg = OfNat.ofNat k := qI_toNat (a := k) h
theorem gu_t {α : Type} (x : Option α) : gu true x = x := rfl
theorem bd_s {α β : Type} (a : α) (k : α → Option β) : bd (some a) k = k a := rfl
theorem lt_e {α β : Type} (x : α) (k : α → β) : lt_ x k = k x := rfl
theorem ox_n {α β : Type} (x : β) (k : α → β) : ox none x k = x := rfl
theorem ox_s {α β : Type} (a : α) (x : β) (k : α → β) : ox (some a) x k = k a := rfl
theorem zb_0 : zb 0 = true := rfl
theorem zb_1 : zb 1 = true := rfl
theorem qI_inj {a b : Nat} (ha : a < 2147483648) (hb : b < 2147483648) (h : nI a = nI b) : a = b := by rwa [qI_eq ha hb] at h
theorem qI_of {x : Int32} (h : 0 ≤ x) : ∃ a, a < 2147483648 ∧ x = nI a := by
  refine ⟨x.toNatClampNeg, ?_, ?_⟩
  · have := x.toInt_lt; show x.toInt.toNat < _; omega
  · have h0 : 0 ≤ x.toInt := by have := Int32.le_iff_toInt_le.mp h; simpa using this
    have h1 := x.toInt_lt
    apply Int32.toInt_inj.mp
    have hh : x.toNatClampNeg = x.toInt.toNat := rfl
    rw [qI_toInt (by rw [hh]; omega), hh]; omega
theorem upd_same (f : Nat → Int32) (k : Nat) (x : Int32) : upd f k x k = x := by simp [upd]
theorem upd_ne (f : Nat → Int32) {k j : Nat} (x : Int32) (h : j ≠ k) : upd f k x j = f j := by simp [upd, h]
theorem updL_same (f : Nat → Int64) (k : Nat) (x : Int64) : vp_updL f k x k = x := by simp [vp_updL]
theorem updL_ne (f : Nat → Int64) {k j : Nat} (x : Int64) (h : j ≠ k) : vp_updL f k x j = f j := by simp [vp_updL, h]
