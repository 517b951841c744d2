/-! PURE 32: rows of digits to a base, as Nat. -/
def vl (B : Nat) (d : Nat → Nat) : Nat → Nat
  | 0 => 0
  | k + 1 => vl B d k + d k * B ^ k
theorem vl_lt {B : Nat} {d : Nat → Nat} : ∀ (k : Nat), (∀ j, j < k → d j < B) → vl B d k < B ^ k
  | 0, _ => by simp [vl]
  | k + 1, h => by
    have h1 := vl_lt k (fun j hj => h j (by omega))
    have h2 : d k + 1 ≤ B := h k (by omega)
    have h3 : (d k + 1) * B ^ k ≤ B * B ^ k := Nat.mul_le_mul_right _ h2
    have h4 : B ^ (k + 1) = B * B ^ k := by rw [Nat.pow_succ, Nat.mul_comm]
    have h5 : (d k + 1) * B ^ k = d k * B ^ k + B ^ k := by rw [Nat.add_mul, Nat.one_mul]
    unfold vl
    omega
theorem vl_congr {B : Nat} {d e : Nat → Nat} : ∀ (k : Nat), (∀ j, j < k → d j = e j) → vl B d k = vl B e k
  | 0, _ => rfl
  | k + 1, h => by
    unfold vl
    rw [vl_congr k (fun j hj => h j (by omega)), h k (by omega)]
theorem vl_zero {B : Nat} {d : Nat → Nat} : ∀ (k : Nat), (∀ j, j < k → d j = 0) → vl B d k = 0
  | 0, _ => rfl
  | k + 1, h => by
    unfold vl
    rw [vl_zero k (fun j hj => h j (by omega)), h k (by omega), Nat.zero_mul]
theorem vl_top {B : Nat} {d : Nat → Nat} {k : Nat} (h : d k ≠ 0) : B ^ k ≤ vl B d (k + 1) := by
  unfold vl
  have : 1 * B ^ k ≤ d k * B ^ k := Nat.mul_le_mul_right _ (by omega)
  omega
theorem vl_split {B : Nat} {d : Nat → Nat} (i : Nat) : ∀ (m : Nat), vl B d (i + m) = vl B d i + B ^ i * vl B (fun j => d (i + j)) m
  | 0 => by simp [vl]
  | m + 1 => by
    have h := vl_split (B := B) (d := d) i m
    show vl B d (i + m) + d (i + m) * B ^ (i + m) = vl B d i + B ^ i * (vl B (fun j => d (i + j)) m + d (i + m) * B ^ m)
    rw [h, Nat.pow_add, Nat.mul_add]
    have : d (i + m) * (B ^ i * B ^ m) = B ^ i * (d (i + m) * B ^ m) := by
      rw [← Nat.mul_assoc, ← Nat.mul_assoc, Nat.mul_comm (d (i + m))]
    omega
theorem vl_head {B : Nat} {d : Nat → Nat} (m : Nat) : vl B d (m + 1) = d 0 + B * vl B (fun j => d (j + 1)) m := by
  have := vl_split (B := B) (d := d) 1 m
  rw [Nat.add_comm 1 m] at this
  rw [this]
  have h2 : vl B d 1 = d 0 := by simp [vl]
  have h3 : vl B (fun j => d (1 + j)) m = vl B (fun j => d (j + 1)) m := vl_congr m (fun j _ => by rw [Nat.add_comm])
  rw [h2, h3, Nat.pow_one]
/-- two rows of the same length: told apart by the highest place that differs -/
theorem vl_cmp {B : Nat} {d e : Nat → Nat} {i k : Nat} (hi : i < k) (hd : ∀ j, j < k → d j < B) (hij : ∀ j, i < j → j < k → d j = e j) (h : d i < e i) : vl B d k < vl B e k := by
  obtain ⟨m, rfl⟩ : ∃ m, k = (i + 1) + m := ⟨k - (i + 1), by omega⟩
  rw [vl_split, vl_split (d := e)]
  have h1 : vl B (fun j => d (i + 1 + j)) m = vl B (fun j => e (i + 1 + j)) m := vl_congr m (fun j hj => hij _ (by omega) (by omega))
  have h2 := vl_lt (B := B) (d := d) i (fun j hj => hd j (by omega))
  have h3 : (d i + 1) * B ^ i ≤ e i * B ^ i := Nat.mul_le_mul_right _ h
  have h5 : (d i + 1) * B ^ i = d i * B ^ i + B ^ i := by rw [Nat.add_mul, Nat.one_mul]
  have h4 : vl B d (i + 1) < vl B e (i + 1) := by unfold vl; omega
  rw [h1]; omega
theorem vl_len {B : Nat} {u w v : Nat} (hB : 1 < B) (h1 : v < B ^ u) (h2 : 0 < w → B ^ (w - 1) ≤ v) : w ≤ u := by
  by_cases h : w ≤ u
  · exact h
  · have h3 : B ^ u ≤ B ^ (w - 1) := Nat.pow_le_pow_right (by omega) (by omega)
    have := h2 (by omega)
    omega
/-- one step of a row times f with what is carried -/
theorem vl_step {B f c x q r P rest : Nat} (h : c + f * x = q * B + r) : P * (c + f * (x + B * rest)) = P * r + P * B * (q + f * rest) := by
  have h1 : f * (x + B * rest) = f * x + f * (B * rest) := Nat.mul_add ..
  have h2 : c + f * (x + B * rest) = r + B * (q + f * rest) := by
    rw [h1, ← Nat.add_assoc, h, Nat.mul_add, Nat.mul_comm B q, Nat.mul_left_comm f B rest]; omega
  rw [h2, Nat.mul_add, Nat.mul_assoc]
theorem pow_step (B i : Nat) : B ^ (i + 1) = B ^ i * B := Nat.pow_succ ..
/-- a row d of u places of v, the highest not 0 -/
def Row (B : Nat) (d : Nat → Nat) (u v : Nat) : Prop := vl B d u = v ∧ (∀ j, j < u → d j < B) ∧ (0 < u → B ^ (u - 1) ≤ v)
theorem Row.lt {B : Nat} {d : Nat → Nat} {u v : Nat} (h : Row B d u v) : v < B ^ u := by rw [← h.1]; exact vl_lt u h.2.1
theorem Row.len {B : Nat} {d e : Nat → Nat} {u w v x : Nat} (hB : 1 < B) (h : Row B d u v) (g : Row B e w x) (hx : x ≤ v) : w ≤ u :=
  vl_len hB h.lt (fun h0 => Nat.le_trans (g.2.2 h0) hx)
theorem Row.zero {B : Nat} {d : Nat → Nat} {u v : Nat} (hB : 1 < B) (h : Row B d u v) : (u = 0) = (v = 0) := by
  apply propext
  constructor
  · rintro rfl; exact h.1.symm
  · rintro rfl
    by_cases h0 : 0 < u
    · have := h.2.2 h0
      have h1 : 0 < B ^ (u - 1) := Nat.pow_pos (by omega)
      omega
    · omega
theorem Row.congr {B : Nat} {d e : Nat → Nat} {u v : Nat} (h : Row B d u v) (he : ∀ j, j < u → d j = e j) : Row B e u v :=
  ⟨by rw [← vl_congr u he]; exact h.1, fun j hj => by rw [← he j hj]; exact h.2.1 j hj, h.2.2⟩
/-- zeros at the top may go -/
theorem Row.drop {B : Nat} {d : Nat → Nat} {v : Nat} : ∀ (u : Nat), vl B d u = v → (∀ j, j < u → d j < B) → ∃ w, w ≤ u ∧ Row B d w v ∧ (∀ j, w ≤ j → j < u → d j = 0) ∧ (0 < w → d (w - 1) ≠ 0)
  | 0, h, _ => ⟨0, Nat.le_refl _, ⟨h, fun j hj => absurd hj (by omega), fun h0 => absurd h0 (by omega)⟩, fun j _ hj => absurd hj (by omega), fun h0 => absurd h0 (by omega)⟩
  | u + 1, h, hd => by
    by_cases h0 : d u = 0
    · obtain ⟨w, h1, h2, h3, h4⟩ := Row.drop (v := v) u (by rw [← h]; show _ = vl B d u + d u * B ^ u; rw [h0, Nat.zero_mul]; rfl) (fun j hj => hd j (by omega))
      refine ⟨w, by omega, h2, fun j hj hj2 => ?_, h4⟩
      by_cases hju : j = u
      · rw [hju]; exact h0
      · exact h3 j hj (by omega)
    · exact ⟨u + 1, Nat.le_refl _, ⟨h, hd, fun _ => by rw [← h]; exact vl_top h0⟩, fun j h1 h2 => absurd h2 (by omega), fun _ => h0⟩
