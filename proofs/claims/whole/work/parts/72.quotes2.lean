/-! PURE 72: taking a character, taking a string. -/
theorem nar_c {v : Nat} (h : v < 65536) : vp_nar .char (((nI v).toUInt32 % 65536).toInt32) = nI v := by
  have h1 : (((nI v).toUInt32 % 65536).toInt32) = nI v := by
    apply Int32.toBitVec_inj.mp
    apply BitVec.eq_of_toNat_eq
    show ((nI v).toUInt32 % 65536).toNat = (nI v).toUInt32.toNat
    rw [UInt32.toNat_mod]
    have : (nI v).toUInt32.toNat = v := ul_nI (by omega)
    rw [this]
    exact Nat.mod_eq_of_lt h
  rw [h1]
  show (nI v).toUInt32.toUInt16.toUInt32.toInt32 = nI v
  apply Int32.toBitVec_inj.mp
  apply BitVec.eq_of_toNat_eq
  show (nI v).toUInt32.toUInt16.toUInt32.toNat = (nI v).toUInt32.toNat
  have h2 : (nI v).toUInt32.toNat = v := ul_nI (by omega)
  rw [UInt16.toNat_toUInt32, UInt32.toNat_toUInt16, h2]
  omega
section
variable {M_came M_size M_at M_laid M_tokens M_looked M_thrown M_wrong M_kind M_good S_cutShort Q_character F_kind F_start F_behind : Int32} {M_value F_says : Int64} {Ms : Nat → Int32} {n c len p tk : Nat}
theorem e_takeCharacter {Sc : Nat → Int32} (hn : 100000 ≤ n) (hS : See p c len Sc Ms) (hp : p < c) (hR : ∀ j, j < c → Sc j < 65536) :
    (∃ (e : Nat) (sy : Int64) (Q' : Int32), p < e ∧ e ≤ c ∧ f_X3_takeCharacter n (nI p) Q_character (nI c) S_cutShort Sc F_kind F_says F_start F_behind = some (1, Q', 65, sy, nI p, nI e) ∧ f_X11_quoted n M_came M_size (nI len) (nI p) M_laid M_tokens M_looked M_thrown M_wrong M_kind M_value M_good Ms = some (nI e, 65, sy, 1)) ∨
    (∃ (Q' a b : Int32) (v : Int64), f_X3_takeCharacter n (nI p) Q_character (nI c) S_cutShort Sc F_kind F_says F_start F_behind = some (0, Q', F_kind, F_says, F_start, F_behind) ∧ f_X11_quoted n M_came M_size (nI len) (nI p) M_laid M_tokens M_looked M_thrown M_wrong M_kind M_value M_good Ms = some (a, b, v, 0)) := by
  have hc := hS.1
  have hl := hS.2.1
  have hcl := hS.2.2.1
  unfold f_X3_takeCharacter f_X3_takeCharacter_0 f_X11_quoted f_X11_quoted_0 f_X11_quoted_48 f_X11_quoted_49
  rw [show nI p + 1 = nI (p + 1) from qI_add p 1, e_look hc (by omega), bd_s]
  simp only [lt_e]
  by_cases c1 : lk c Sc (p + 1) = 39
  · -- nothing in quotes
    right
    rw [if_pos c1]
    have hin := pos_of c1 (by decide)
    have hch : f_X11_character n 39 M_came M_size (nI len) (nI (p + 1)) M_laid M_tokens M_looked M_thrown M_wrong M_kind M_value M_good Ms = some (-1, nI (p + 1)) := by
      unfold f_X11_character f_X11_character_0
      rw [e_see (by omega) (by omega), bd_s]
      have : lk len Ms (p + 1) = 39 := by rw [hS.eq (by omega) (by decide)]; exact c1
      rw [this]; rfl
    rw [hch, bd_s]
    exact ⟨_, _, _, _, rfl, rfl⟩
  · rw [if_neg c1]
    rcases e_one (n := n) (i := p + 1) (q := 39) (S_cutShort := S_cutShort) (Q_character := Q_character) (M_came := M_came) (M_size := M_size) (M_laid := M_laid) (M_tokens := M_tokens) (M_looked := M_looked) (M_thrown := M_thrown) (M_wrong := M_wrong) (M_kind := M_kind) (M_value := M_value) (M_good := M_good) hn hS (by omega) (by omega) hR c1 (by decide) with ⟨j, v, a1, a2, a3, a4, a5⟩ | ⟨w, a, a1, a2⟩
    · rw [a4, bd_s, a5, bd_s, if_neg (by rw [qI_ne_neg1 (by omega)]; exact fun h => h), e_look hc (by omega), bd_s]
      have hng : ¬ (lg_cmp (nI v).toInt64 0 < 0) := by rw [cmp0_neg, qI_toInt64 (by omega), show (0 : Int64) = qL 0 from rfl, qL_lt (by omega) (by decide)]; omega
      rw [if_neg (show ¬ (lg_cmp ((nI v, nI j) : Int32 × Int32).fst.toInt64 0 < 0) from hng)]
      rw [e_see (by omega) (by omega), bd_s]
      have h39 : (lk len Ms j = 39) = (lk c Sc j = 39) := hS.eq (by omega) (by decide)
      rw [show nI j + 1 = nI (j + 1) from qI_add j 1, zb_1, zb_0, gu_t, gu_t]
      by_cases c2 : lk c Sc j = 39
      · left
        have := pos_of c2 (by decide)
        unfold f_X1_set f_X1_set_0
        rw [if_pos c2, if_pos (by rw [h39]; exact c2), bd_s]
        exact ⟨j + 1, _, _, by omega, by omega, rfl, rfl⟩
      · right
        rw [if_neg c2, if_neg (by rw [h39]; exact c2)]
        exact ⟨_, _, _, _, rfl, rfl⟩
    · right
      rw [a1, bd_s, a2, bd_s, if_pos rfl, if_pos (show lg_cmp ((-1, a) : Int32 × Int32).fst.toInt64 0 < 0 from (by decide : lg_cmp (Int32.toInt64 (-1)) 0 < 0)), zb_0, gu_t]
      exact ⟨_, _, _, _, rfl, rfl⟩
/-- the reference goes on to the end of a string that is too long, or stops: it is not good -/
theorem row_bad {i : Nat} {lo x : Int32} {Ml : Nat → Int32} (k : Nat) : f_X11_row_18 n M_came M_size (nI len) M_tokens M_looked M_thrown M_wrong Ms (k + 1) (nI i) lo 66 M_value 0 Ml x = some (nI i + 1, lo, 66, x.toInt64, 0, Ml) := by
  unfold f_X11_row_18 fb_X11_row_18 f_X11_row_83 f_X11_row_112 f_X11_row_113
  rw [if_pos rfl]
  simp only [lt_e]
  rw [if_pos trivial, zb_0, gu_t]
theorem row_long {Sc : Nat → Int32} (hn : 100000 ≤ n) (hR : ∀ j, j < c → Sc j < 65536) {lo : Int32} {Ml : Nat → Int32} : ∀ (d i x k : Nat), i + d = c → See i c len Sc Ms → 4000 < x → x + d < 200000 → d + 1 < k → ∃ (a : Int32) (v : Int64), f_X11_row_18 n M_came M_size (nI len) M_tokens M_looked M_thrown M_wrong Ms k (nI i) lo 66 M_value 1 Ml (nI x) = some (a, lo, 66, v, 0, Ml) := by
  intro d
  induction d using Nat.strongRecOn with
  | _ d ih =>
    intro i x k hd hS hx hxd hk
    have hc := hS.1
    have hl := hS.2.1
    have hcl := hS.2.2.1
    obtain ⟨k, rfl⟩ : ∃ k', k = k' + 1 := ⟨k - 1, by omega⟩
    show ∃ (a : Int32) (v : Int64), fb_X11_row_18 n _ M_came M_size (nI len) M_tokens M_looked M_thrown M_wrong Ms (nI i) lo 66 M_value 1 Ml (nI x) = some (a, lo, 66, v, 0, Ml)
    unfold fb_X11_row_18 f_X11_row_83 f_X11_row_112 f_X11_row_113 f_X11_row_55 f_X11_row_77
    rw [if_neg (by decide), e_see (by omega) (by omega), bd_s, show nI i + 1 = nI (i + 1) from qI_add i 1, show nI x + 1 = nI (x + 1) from qI_add x 1]
    simp only [lt_e]
    have h34 : (lk len Ms i = 34) = (lk c Sc i = 34) := hS.eq (by omega) (by decide)
    have h4k : (4000 : Int32) < nI x := by rw [show (4000 : Int32) = nI 4000 from rfl, qI_lt (by omega) (by omega)]; omega
    by_cases c1 : lk c Sc i = 34
    · rw [if_pos (by rw [h34]; exact c1), if_neg (by decide), if_pos h4k, zb_0, gu_t]
      exact ⟨_, _, rfl⟩
    · rw [if_neg (by rw [h34]; exact c1)]
      rcases e_one (n := n) (i := i) (q := 34) (S_cutShort := 0) (Q_character := 0) (M_came := M_came) (M_size := M_size) (M_laid := lo) (M_tokens := M_tokens) (M_looked := M_looked) (M_thrown := M_thrown) (M_wrong := M_wrong) (M_kind := 66) (M_value := M_value) (M_good := 1) hn hS (Nat.le_refl _) (by omega) hR c1 (by decide) with ⟨j, v, a1, a2, a3, a4, a5⟩ | ⟨w, a, a1, a2⟩
      · rw [a5, bd_s, if_neg (by rw [show (0 : Int32) = nI 0 from rfl, qI_lt (by omega) (by omega)]; omega), zb_1, gu_t, if_neg (by decide), if_pos h4k]
        exact ih (c - j) (by omega) j (x + 1) k (by omega) (hS.up (by omega)) (by omega) (by omega) (by omega)
      · rw [a2, bd_s, if_pos (show ((-1, a) : Int32 × Int32).fst < 0 from (by decide : (-1 : Int32) < 0)), zb_0, gu_t, if_pos trivial]
        obtain ⟨k, rfl⟩ : ∃ k', k = k' + 1 := ⟨k - 1, by omega⟩
        refine ⟨a + 1, (nI (x + 1)).toInt64, ?_⟩
        unfold f_X11_row_18 fb_X11_row_18 f_X11_row_83 f_X11_row_112 f_X11_row_113
        rw [if_pos rfl]
        simp only [lt_e]
        rw [if_pos trivial, zb_0, gu_t]
end
