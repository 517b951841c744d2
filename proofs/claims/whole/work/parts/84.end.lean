/-! PURE 84: the end. -/
theorem law_loop {n L : Nat} {xs : Nat → Int32} (hn : 100000 ≤ n) (hL : L ≤ 3072) : ∀ (k x : Nat) (cs : CS) (ms : MS) (O : Nat → Int64), x ≤ L → L < x + 6 * k → Inv n cs ms → f_law_23 n L xs k cs ms O (nI x) = some 1 := by
  intro k
  induction k with
  | zero => intro x cs ms O h1 h2 _; omega
  | succ k ih =>
    intro x cs ms O h1 h2 h3
    show fb_law_23 n L xs (f_law_23 n L xs k) cs ms O (nI x) = some 1
    exact law_step hn hL h1 (fun h6 cs ms O hI => ih (x + 6) cs ms O h6 (by omega) hI) h3
theorem src_0 {n : Nat} (hn : 100000 ≤ n) {Z Ms : Nat → Int32} : Src n 0 Z 0 Ms := by
  intro S_count S_cutShort Sc
  refine ⟨0, 0, Sc, ?_, ⟨by omega, by omega, by omega, fun i _ => ?_, fun i _ h => absurd h (by omega)⟩, fun j h => absurd h (by omega), Or.inl rfl, Or.inl ⟨rfl, rfl⟩⟩
  · obtain ⟨n', hn'⟩ : ∃ n', n = n' + 1 := ⟨n - 1, by omega⟩
    unfold f_X6_fill f_X6_fill_0
    have : f_X6_fill_15 n Z n 0 0 Sc (nI 0) 0 0 = f_X6_fill_15 n Z (n' + 1) 0 0 Sc (nI 0) 0 0 := by rw [← hn']
    rw [this]
    show fb_X6_fill_15 n _ Z 0 0 Sc (nI 0) 0 0 = _
    unfold fb_X6_fill_15
    rw [if_pos (by decide)]
    rfl
  · rw [lk_out (by omega), lk_out (by omega)]; rfl
theorem law_n {n L : Nat} {xs : Nat → Int32} (hn : 100000 ≤ n) (hL : L ≤ 3072) : f_law n L xs = some 1 := by
  obtain ⟨pc, pC, pS, gc, gC, gS, h1, h2, h3⟩ := e_init hn
  unfold f_law
  rw [h1, bd_s]
  exact law_loop hn hL 600 0 _ _ _ (Nat.zero_le _) (by omega) ⟨0, 0, 0, 0, 0, 0, by omega, by omega, by omega, by omega, by omega, by omega, rfl, rfl, fun i h => absurd h (by omega), rfl, rfl, src_0 hn, rfl, rfl, rfl, rfl, fun i h _ => absurd h (by omega), h2, h3⟩
theorem law_all (L : Nat) (xs : Nat → Int32) (hL : L ≤ 3072) : ∃ n, f_law n L xs = some 1 := ⟨100000, law_n (Nat.le_refl _) hL⟩
theorem i_vc : Claimed_1_1 ∧ Claimed_1_2 := i_of_law law_all
