/-! PURE 67: white space and comments. -/
def ln (L : Nat → Int32) : Nat → Nat → Nat
  | 0, i => i
  | m + 1, i => if L i = 10 ∨ L i = 13 then i else ln L m (i + 1)
theorem ln_le {L : Nat → Int32} : ∀ (m i : Nat), i ≤ ln L m i ∧ ln L m i ≤ i + m
  | 0, i => ⟨Nat.le_refl _, Nat.le_refl _⟩
  | m + 1, i => by
    have ih := ln_le (L := L) m (i + 1)
    unfold ln; split <;> omega
def ss (L : Nat → Int32) : Nat → Nat → Option Nat
  | 0, _ => none
  | m + 1, i => if L i = 42 ∧ L (i + 1) = 47 then some (i + 2) else ss L m (i + 1)
theorem ss_le {c : Nat} {Sc : Nat → Int32} : ∀ (m i e : Nat), i + m = c → ss (lk c Sc) m i = some e → i < e ∧ e ≤ c
  | 0, i, e, _, h => by simp [ss] at h
  | m + 1, i, e, hm, h => by
    unfold ss at h
    by_cases c1 : lk c Sc i = 42 ∧ lk c Sc (i + 1) = 47
    · rw [if_pos c1] at h
      have := pos_of c1.2 (by decide)
      injection h with h; omega
    · rw [if_neg c1] at h
      have := ss_le m (i + 1) e (by omega) h
      omega
section
variable {S_cutShort : Int32} {Sc Ms : Nat → Int32}
theorem e_behindLine {n c i : Nat} (hn : 100000 ≤ n) (hc : c ≤ 81920) (hi : i ≤ c) : f_X4_behindLine n (nI i) (nI c) S_cutShort Sc = some (nI (ln (lk c Sc) (c - i) i)) := by
  have loop : ∀ (m k i : Nat), i + m = c → m < k → f_X4_behindLine_2 n (nI c) S_cutShort Sc k (nI i) = some (nI (ln (lk c Sc) m i)) := by
    intro m
    induction m with
    | zero =>
      intro k i hm hk
      obtain ⟨k, rfl⟩ : ∃ k', k = k' + 1 := ⟨k - 1, by omega⟩
      unfold f_X4_behindLine_2 fb_X4_behindLine_2
      rw [e_count, bd_s, if_pos (by rw [qI_le (by omega) (by omega)]; omega)]
      rfl
    | succ m ih =>
      intro k i hm hk
      obtain ⟨k, rfl⟩ : ∃ k', k = k' + 1 := ⟨k - 1, by omega⟩
      unfold f_X4_behindLine_2 fb_X4_behindLine_2 ln
      rw [e_count, bd_s, if_neg (by rw [qI_le (by omega) (by omega)]; omega), e_look hc (by omega), bd_s, e_isLineEnd, bd_s]
      simp only [lt_e]
      by_cases c1 : lk c Sc i = 10 ∨ lk c Sc i = 13
      · rw [if_pos c1, if_pos c1, if_neg (by decide)]
      · rw [if_neg c1, if_neg c1, if_pos rfl, show nI i + 1 = nI (i + 1) from qI_add i 1]
        exact ih k (i + 1) (by omega) (by omega)
  exact loop (c - i) n i (by omega) (by omega)
theorem e_starSlash {n c i : Nat} (hn : 100000 ≤ n) (hc : c ≤ 81920) (hi : i ≤ c) : f_X4_behindStarAndSlash n (nI i) (nI c) S_cutShort Sc = some (match ss (lk c Sc) (c - i) i with | none => -1 | some e => nI e) := by
  have loop : ∀ (m k i : Nat), i + m = c → m < k → f_X4_behindStarAndSlash_2 n (nI c) S_cutShort Sc k (nI i) = some (match ss (lk c Sc) m i with | none => -1 | some e => nI e) := by
    intro m
    induction m with
    | zero =>
      intro k i hm hk
      obtain ⟨k, rfl⟩ : ∃ k', k = k' + 1 := ⟨k - 1, by omega⟩
      unfold f_X4_behindStarAndSlash_2 fb_X4_behindStarAndSlash_2
      rw [e_count, bd_s, if_pos (by rw [qI_le (by omega) (by omega)]; omega)]
      rfl
    | succ m ih =>
      intro k i hm hk
      obtain ⟨k, rfl⟩ : ∃ k', k = k' + 1 := ⟨k - 1, by omega⟩
      unfold f_X4_behindStarAndSlash_2 fb_X4_behindStarAndSlash_2 f_X4_behindStarAndSlash_45 ss
      rw [e_count, bd_s, if_neg (by rw [qI_le (by omega) (by omega)]; omega), e_look hc (by omega), bd_s, show nI i + 1 = nI (i + 1) from qI_add i 1, show nI i + 2 = nI (i + 2) from qI_add i 2, e_look hc (by omega), bd_s]
      simp only [lt_e]
      have nx := ih k (i + 1) (by omega) (by omega)
      by_cases c1 : lk c Sc i = 42
      · rw [if_pos c1]
        by_cases c2 : lk c Sc (i + 1) = 47
        · rw [if_pos c2, if_pos ⟨c1, c2⟩]
        · rw [if_neg c2, if_neg (fun h => c2 h.2)]; exact nx
      · rw [if_neg c1, if_neg (fun h => c1 h.1)]; exact nx
  exact loop (c - i) n i (by omega) (by omega)
variable {M_came M_size M_at M_laid M_tokens M_looked M_thrown M_wrong M_kind M_good : Int32} {M_value : Int64}
def Cut (c len : Nat) (Ms : Nat → Int32) : Prop := len = c ∨ (len = c + 1 ∧ Ms c = -2)
theorem e_more85 {n p c len : Nat} {r0 : Int32 → Option (Int32 × Int32)} (hS : See p c len Sc Ms) (hC : Cut c len Ms) : ∀ (m k i : Nat), i + m = c → p ≤ i → m < k → f_X11_more_85 n r0 M_came M_size (nI len) M_laid M_tokens M_looked M_thrown M_wrong M_kind M_value M_good Ms k (nI i) = r0 (nI (ln (lk c Sc) m i)) := by
  have hc := hS.1
  have hl := hS.2.1
  have hcl := hS.2.2.1
  intro m
  induction m with
  | zero =>
    intro k i hm hp hk
    obtain ⟨k, rfl⟩ : ∃ k', k = k' + 1 := ⟨k - 1, by omega⟩
    unfold f_X11_more_85 fb_X11_more_85 f_X11_more_260 ln
    rcases hC with h | ⟨h1, h2⟩
    · rw [if_pos (by rw [qI_le (by omega) (by omega)]; omega)]
    · have hi : i = c := by omega
      rw [if_neg (by rw [qI_le (by omega) (by omega)]; omega), gd_nI (by omega) (by omega), qI_toNat (by omega), hi, h2]
      rfl
  | succ m ih =>
    intro k i hm hp hk
    obtain ⟨k, rfl⟩ : ∃ k', k = k' + 1 := ⟨k - 1, by omega⟩
    have hMs : Ms i = lk c Sc i := by rw [lk_in (by omega)]; exact hS.2.2.2.2 i hp (by omega)
    have hnn : ¬ lk c Sc i = -2 := by
      intro h
      have := hS.2.2.2.1 i hp
      rw [lk_in (show i < len by omega), hMs, h] at this
      exact absurd this (by decide)
    unfold f_X11_more_85 fb_X11_more_85 f_X11_more_260 ln
    rw [if_neg (by rw [qI_le (by omega) (by omega)]; omega), gd_nI (by omega) (by omega), qI_toNat (by omega), hMs]
    simp only [gu_t, lt_e]
    by_cases c1 : lk c Sc i = 10
    · rw [if_pos c1, if_pos (Or.inl c1)]
    · rw [if_neg c1]
      by_cases c2 : lk c Sc i = 13
      · rw [if_pos c2, if_pos (Or.inr c2)]
      · rw [if_neg c2, if_neg hnn, if_neg (by rintro (h | h); exact c1 h; exact c2 h), show nI i + 1 = nI (i + 1) from qI_add i 1]
        exact ih k (i + 1) (by omega) (by omega) (by omega)
theorem e_more179 {n p c len : Nat} {r0 : Int32 → Option (Int32 × Int32)} (hS : See p c len Sc Ms) (hC : Cut c len Ms) : ∀ (m k i : Nat), i + m = c → p ≤ i → m < k → f_X11_more_179 n r0 M_came M_size (nI len) M_laid M_tokens M_looked M_thrown M_wrong M_kind M_value M_good Ms k M_at (nI i) = (match ss (lk c Sc) m i with | none => some (1, M_at) | some e => r0 (nI e)) := by
  have hc := hS.1
  have hl := hS.2.1
  have hcl := hS.2.2.1
  intro m
  induction m with
  | zero =>
    intro k i hm hp hk
    obtain ⟨k, rfl⟩ : ∃ k', k = k' + 1 := ⟨k - 1, by omega⟩
    unfold f_X11_more_179 fb_X11_more_179 f_X11_more_227 ss
    rcases hC with h | ⟨h1, h2⟩
    · rw [if_pos (by rw [qI_le (by omega) (by omega)]; omega), if_pos (by rw [qI_le (by omega) (by omega)]; omega)]
    · have hi : i = c := by omega
      have hno : ¬ nI len ≤ nI i := by rw [qI_le (by omega) (by omega)]; omega
      rw [if_neg hno, if_neg hno, gd_nI (by omega) (by omega), qI_toNat (by omega), hi, h2]
      rfl
  | succ m ih =>
    intro k i hm hp hk
    obtain ⟨k, rfl⟩ : ∃ k', k = k' + 1 := ⟨k - 1, by omega⟩
    have hMs : Ms i = lk c Sc i := by rw [lk_in (by omega)]; exact hS.2.2.2.2 i hp (by omega)
    have hnn : ¬ lk c Sc i = -2 := by
      intro h
      have := hS.2.2.2.1 i hp
      rw [lk_in (show i < len by omega), hMs, h] at this
      exact absurd this (by decide)
    have hno : ¬ nI len ≤ nI i := by rw [qI_le (by omega) (by omega)]; omega
    unfold f_X11_more_179 fb_X11_more_179 f_X11_more_227 f_X11_more_221 f_X11_more_260 ss
    rw [if_neg hno, if_neg hno, gd_nI (by omega) (by omega), qI_toNat (by omega), hMs, show nI i + 1 = nI (i + 1) from qI_add i 1, show nI i + 2 = nI (i + 2) from qI_add i 2, e_see (by omega) (by omega), bd_s]
    simp only [gu_t, lt_e]
    rw [if_neg hnn, if_neg hnn]
    have nx := ih k (i + 1) (by omega) (by omega) (by omega)
    have q47 : (lk len Ms (i + 1) = 47) = (lk c Sc (i + 1) = 47) := hS.eq (by omega) (by decide)
    by_cases c1 : lk c Sc i = 42
    · rw [if_pos c1]
      by_cases c2 : lk c Sc (i + 1) = 47
      · rw [if_pos (by rw [q47]; exact c2), if_pos ⟨c1, c2⟩]
      · rw [if_neg (by rw [q47]; exact c2), if_neg (fun h => c2 h.2)]; exact nx
    · rw [if_neg c1, if_neg (fun h => c1 h.1)]; exact nx
theorem e_white {n c len : Nat} (hn : 100000 ≤ n) (hC : Cut c len Ms) : ∀ (d p k k' : Nat), p + d = c → See p c len Sc Ms → d < k → d < k' →
    ∃ (W r : Int32) (t : Nat), f_X4_behindWhite_2 n (nI c) S_cutShort Sc k (nI p) = some W ∧ f_X11_more_0 n M_came M_size (nI len) M_laid M_tokens M_looked M_thrown M_wrong M_kind M_value M_good Ms k' (nI p) = some (r, nI t) ∧ p ≤ t ∧
      ((W = -1 ∧ r = 1 ∧ t < c ∧ lk c Sc t = 47 ∧ lk c Sc (t + 1) = 42) ∨ (W = nI t ∧ t ≤ c ∧ (t = c → r = if len = c then 0 else 1) ∧ (t < c → r = 1 ∧ ¬ bl (lk c Sc t) ∧ ¬ (lk c Sc t = 47 ∧ lk c Sc (t + 1) = 42) ∧ ¬ (lk c Sc t = 47 ∧ lk c Sc (t + 1) = 47)))) := by
  intro d
  induction d using Nat.strongRecOn with
  | _ d ih =>
    intro p k k' hd hS hk hk'
    have hc := hS.1
    have hl := hS.2.1
    have hcl := hS.2.2.1
    obtain ⟨k, rfl⟩ : ∃ j, k = j + 1 := ⟨k - 1, by omega⟩
    obtain ⟨k', rfl⟩ : ∃ j, k' = j + 1 := ⟨k' - 1, by omega⟩
    by_cases hd0 : d = 0
    · have hp : p = c := by omega
      unfold f_X4_behindWhite_2 fb_X4_behindWhite_2 f_X11_more_0 fb_X11_more_0
      rw [if_neg (by rw [qI_ne_neg1 (by omega)]; exact fun h => h), e_count, bd_s, if_pos (by rw [qI_le (by omega) (by omega)]; omega)]
      rcases hC with h | ⟨h1, h2⟩
      · rw [if_pos (by rw [qI_le (by omega) (by omega)]; omega)]
        exact ⟨_, _, p, rfl, rfl, Nat.le_refl _, Or.inr ⟨rfl, by omega, fun _ => by rw [if_pos h], fun h => absurd h (by omega)⟩⟩
      · rw [if_neg (by rw [qI_le (by omega) (by omega)]; omega), gd_nI (by omega) (by omega), qI_toNat (by omega), hp, h2]
        refine ⟨_, 1, c, rfl, rfl, Nat.le_refl _, Or.inr ⟨rfl, by omega, fun _ => by rw [if_neg (by omega)], fun h => absurd h (by omega)⟩⟩
    · have hpc : p < c := by omega
      have hMs : Ms p = lk c Sc p := by rw [lk_in (by omega)]; exact hS.2.2.2.2 p (Nat.le_refl _) (by omega)
      -- what goes on at q
      have go : ∀ q, p < q → q ≤ c → ∃ (W r : Int32) (t : Nat), f_X4_behindWhite_2 n (nI c) S_cutShort Sc k (nI q) = some W ∧ f_X11_more_0 n M_came M_size (nI len) M_laid M_tokens M_looked M_thrown M_wrong M_kind M_value M_good Ms k' (nI q) = some (r, nI t) ∧ p ≤ t ∧
      ((W = -1 ∧ r = 1 ∧ t < c ∧ lk c Sc t = 47 ∧ lk c Sc (t + 1) = 42) ∨ (W = nI t ∧ t ≤ c ∧ (t = c → r = if len = c then 0 else 1) ∧ (t < c → r = 1 ∧ ¬ bl (lk c Sc t) ∧ ¬ (lk c Sc t = 47 ∧ lk c Sc (t + 1) = 42) ∧ ¬ (lk c Sc t = 47 ∧ lk c Sc (t + 1) = 47)))) := by
        intro q h1 h2
        obtain ⟨W, r, t, a1, a2, a3, a4⟩ := ih (c - q) (by omega) q k k' (by omega) (hS.up (by omega)) (by omega) (by omega)
        exact ⟨W, r, t, a1, a2, by omega, a4⟩
      unfold f_X4_behindWhite_2 fb_X4_behindWhite_2 f_X11_more_0 fb_X11_more_0
      unfold f_X4_behindWhite_102 f_X4_behindWhite_76 f_X4_behindWhite_102 f_X11_more_51 f_X11_more_260
      rw [if_neg (by rw [qI_ne_neg1 (by omega)]; exact fun h => h), e_count, bd_s, if_neg (by rw [qI_le (by omega) (by omega)]; omega)]
      rw [e_look hc (by omega), bd_s, show nI p + 1 = nI (p + 1) from qI_add p 1, show nI p + 2 = nI (p + 2) from qI_add p 2, e_look hc (by omega), bd_s]
      have hno : ¬ nI len ≤ nI p := by rw [qI_le (by omega) (by omega)]; omega
      rw [if_neg hno, gd_nI (by omega) (by omega), qI_toNat (by omega), hMs, gu_t]
      simp only [lt_e]
      rw [e_see (by omega) (by omega), bd_s]
      rcases e_isBlank (n := n) (lk c Sc p) with ⟨hb, h1⟩ | ⟨hb, h1⟩
      · rw [h1, bd_s, if_neg (by decide)]
        have hbl : ∀ (α : Type) (A B : α), (if lk c Sc p = 32 then A else if lk c Sc p = 9 then A else if lk c Sc p = 10 then A else if lk c Sc p = 12 then A else if lk c Sc p = 13 then A else B) = A := by
          intro α A B
          unfold bl at hb
          repeat' split
          all_goals first | rfl | skip
          exfalso
          rcases hb with h | h | h | h | h <;> contradiction
        rw [hbl]
        exact go (p + 1) (by omega) (by omega)
      · have hbl : ∀ (α : Type) (A B : α), (if lk c Sc p = 32 then A else if lk c Sc p = 9 then A else if lk c Sc p = 10 then A else if lk c Sc p = 12 then A else if lk c Sc p = 13 then A else B) = B := by
          intro α A B
          unfold bl at hb
          rw [if_neg (fun h => hb (Or.inl h)), if_neg (fun h => hb (Or.inr (Or.inl h))), if_neg (fun h => hb (Or.inr (Or.inr (Or.inr (Or.inl h))))), if_neg (fun h => hb (Or.inr (Or.inr (Or.inl h)))), if_neg (fun h => hb (Or.inr (Or.inr (Or.inr (Or.inr h)))))]
        rw [h1, bd_s, if_pos rfl, hbl]
        unfold f_X11_more_151
        rw [show nI p + 1 = nI (p + 1) from qI_add p 1, show nI p + 2 = nI (p + 2) from qI_add p 2, e_see (by omega) (by omega), bd_s]
        simp only [lt_e]
        have q47 : (lk len Ms (p + 1) = 47) = (lk c Sc (p + 1) = 47) := hS.eq (by omega) (by decide)
        have q42 : (lk len Ms (p + 1) = 42) = (lk c Sc (p + 1) = 42) := hS.eq (by omega) (by decide)
        simp only [q47, q42]
        by_cases c1 : lk c Sc p = 47
        · simp only [if_pos c1]
          by_cases c2 : lk c Sc (p + 1) = 47
          · have hin := pos_of c2 (by decide)
            rw [if_pos c2, if_pos c2, e_behindLine hn hc (by omega), bd_s, e_more85 hS hC (c - p) n p (by omega) (Nat.le_refl _) (by omega)]
            have hln : ln (lk c Sc) (c - p) p = ln (lk c Sc) (c - (p + 2)) (p + 2) := by
              obtain ⟨m, hm⟩ : ∃ m, c - p = m + 2 := ⟨c - p - 2, by omega⟩
              rw [hm, show c - (p + 2) = m from by omega]
              show (if lk c Sc p = 10 ∨ lk c Sc p = 13 then p else if lk c Sc (p + 1) = 10 ∨ lk c Sc (p + 1) = 13 then p + 1 else ln (lk c Sc) m (p + 1 + 1)) = _
              rw [if_neg (by rw [c1]; decide), if_neg (by rw [c2]; decide)]
            rw [hln]
            have := ln_le (L := lk c Sc) (c - (p + 2)) (p + 2)
            exact go _ (by omega) (by omega)
          · rw [if_neg c2, if_neg c2]
            by_cases c3 : lk c Sc (p + 1) = 42
            · have hin := pos_of c3 (by decide)
              rw [if_pos c3, if_pos c3, e_starSlash hn hc (by omega), bd_s, e_more179 hS hC (c - (p + 2)) n (p + 2) (by omega) (by omega) (by omega)]
              cases hss : ss (lk c Sc) (c - (p + 2)) (p + 2) with
              | none =>
                simp only []
                obtain ⟨k, rfl⟩ : ∃ j, k = j + 1 := ⟨k - 1, by omega⟩
                unfold f_X4_behindWhite_2 fb_X4_behindWhite_2
                rw [if_pos rfl]
                exact ⟨-1, 1, p, rfl, rfl, Nat.le_refl _, Or.inl ⟨rfl, rfl, hpc, c1, c3⟩⟩
              | some e =>
                simp only []
                have := ss_le (Sc := Sc) _ _ _ (by omega) hss
                exact go e (by omega) (by omega)
            · rw [if_neg c3, if_neg c3]
              exact ⟨_, _, p, rfl, rfl, Nat.le_refl _, Or.inr ⟨rfl, by omega, fun h => absurd h (by omega), fun _ => ⟨rfl, hb, fun h => c3 h.2, fun h => c2 h.2⟩⟩⟩
        · simp only [if_neg c1]
          exact ⟨_, _, p, rfl, rfl, Nat.le_refl _, Or.inr ⟨rfl, by omega, fun h => absurd h (by omega), fun _ => ⟨rfl, hb, fun h => c1 h.1, fun h => c1 h.1⟩⟩⟩
end
