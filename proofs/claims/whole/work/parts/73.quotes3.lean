/-! PURE 73: taking a string. -/
theorem See.put {p c len k : Nat} {Sc Ms : Nat → Int32} {x : Int32} (h : See p c len Sc Ms) (hk : k < p) : See p c len (upd Sc k x) Ms := by
  refine ⟨h.1, h.2.1, h.2.2.1, fun i hi => ?_, fun i hi hc => ?_⟩
  · rw [h.2.2.2.1 i hi]
    unfold lk
    split
    · rw [upd_ne _ _ (by omega)]
    · rfl
  · rw [upd_ne _ _ (by omega)]; exact h.2.2.2.2 i hi hc
section
variable {M_came M_size M_looked M_thrown M_wrong S_cutShort F_kind F_start F_behind : Int32} {M_value F_says : Int64} {Ms : Nat → Int32} {n c len tk : Nat}
theorem e_put {i v : Nat} {Sc : Nat → Int32} (hc : c ≤ 81920) (hi : i < c) (hv : v < 65536) : f_X6_put n (nI i) (nI v) (nI c) S_cutShort Sc = some (upd Sc i (nI v)) := by
  unfold f_X6_put f_X6_put_0
  rw [if_neg (by rw [show (0 : Int32) = nI 0 from rfl, qI_lt (by omega) (by omega)]; omega), if_neg (by rw [qI_le (by omega) (by omega)]; omega)]
  simp only [lt_e]
  rw [gd_nI (by omega) (by omega), gu_t, qI_toNat (by omega), nar_c hv]
theorem e_str_loop {S0 : Nat} (hn : 100000 ≤ n) (htk : tk ≤ 8193) : ∀ (d i K k k' lo : Nat) (Sc Ml : Nat → Int32) (Q : Int32), i + d = c → See i c len Sc Ms → (∀ j, j < c → Sc j < 65536) → S0 + K ≤ i → K ≤ 4001 → lo ≤ i → d + 3 < k → d + 3 < k' →
    (∃ (e Kf lo' : Nat) (Sc' Ml' : Nat → Int32) (Q' : Int32), i < e ∧ e ≤ c ∧ K ≤ Kf ∧ Kf ≤ 4000 ∧ S0 + Kf < e ∧ f_X3_takeString_9 n (nI c) S_cutShort k Q Sc F_kind F_says F_start F_behind (nI S0) (nI i) (nI K) = some (1, Q', Sc', 66, (nI Kf).toInt64, nI S0, nI e) ∧ f_X11_row_18 n M_came M_size (nI len) (nI tk) M_looked M_thrown M_wrong Ms k' (nI i) (nI lo) 66 M_value 1 Ml (nI K) = some (nI e, nI lo', 66, (nI Kf).toInt64, 1, Ml') ∧ See e c len Sc' Ms ∧ (∀ j, j < c → Sc' j < 65536) ∧ (∀ j, j < S0 + K → Sc' j = Sc j) ∧ Laid tk lo (Kf - K) (fun j => Sc' (S0 + K + j)) Ml Ml' lo') ∨
    (∃ (Sc' Ml' : Nat → Int32) (Q' a lo' : Int32) (v : Int64), f_X3_takeString_9 n (nI c) S_cutShort k Q Sc F_kind F_says F_start F_behind (nI S0) (nI i) (nI K) = some (0, Q', Sc', F_kind, F_says, F_start, F_behind) ∧ f_X11_row_18 n M_came M_size (nI len) (nI tk) M_looked M_thrown M_wrong Ms k' (nI i) (nI lo) 66 M_value 1 Ml (nI K) = some (a, lo', 66, v, 0, Ml') ∧ (∀ j, j < S0 + K → Sc' j = Sc j) ∧ ∀ j, j < lo → Ml' j = Ml j) := by
  intro d
  induction d using Nat.strongRecOn with
  | _ d ih =>
    intro i K k k' lo Sc Ml Q hd hS hR hSK hK hlo hk hk'
    have hc := hS.1
    have hl := hS.2.1
    have hcl := hS.2.2.1
    obtain ⟨k, rfl⟩ : ∃ j, k = j + 1 := ⟨k - 1, by omega⟩
    have q4k : ((4000 : Int32) < nI K) = (4000 < K) := qI_lit_lt (by omega) (by decide)
    by_cases cK : 4000 < K
    · -- too long
      right
      obtain ⟨a, v, h1⟩ := row_long (n := n) (M_came := M_came) (M_size := M_size) (M_tokens := nI tk) (M_looked := M_looked) (M_thrown := M_thrown) (M_wrong := M_wrong) (M_value := M_value) (lo := nI lo) (Ml := Ml) hn hR d i K k' hd hS cK (by omega) (by omega)
      refine ⟨Sc, Ml, Q, a, nI lo, v, ?_, h1, fun j _ => rfl, fun j _ => rfl⟩
      unfold f_X3_takeString_9 fb_X3_takeString_9
      rw [if_pos (by rw [q4k]; exact cK)]
    · obtain ⟨k', rfl⟩ : ∃ j, k' = j + 1 := ⟨k' - 1, by omega⟩
      have h34 : (lk len Ms i = 34) = (lk c Sc i = 34) := hS.eq (by omega) (by decide)
      have hk4 : ¬ (4000 : Int32) < nI K := by rw [q4k]; exact cK
      by_cases c1 : lk c Sc i = 34
      · -- its end
        left
        have hin := pos_of c1 (by decide)
        refine ⟨i + 1, K, lo, Sc, Ml, Q, by omega, by omega, Nat.le_refl _, by omega, by omega, ?_, ?_, hS.up (by omega), hR, fun j _ => rfl, ?_⟩
        · unfold f_X3_takeString_9 fb_X3_takeString_9 f_X1_set f_X1_set_0
          rw [if_neg hk4, e_look hc (by omega), bd_s, if_pos c1, bd_s, show nI i + 1 = nI (i + 1) from qI_add i 1]
        · unfold f_X11_row_18 fb_X11_row_18 f_X11_row_83 f_X11_row_113
          rw [if_neg (by decide), e_see (by omega) (by omega), bd_s, if_pos (by rw [h34]; exact c1)]
          simp only [lt_e]
          rw [if_neg (by decide), if_neg hk4, zb_1, gu_t, show nI i + 1 = nI (i + 1) from qI_add i 1]
        · refine ⟨by rw [Nat.sub_self]; split <;> omega, fun j _ => rfl, fun _ j hj => absurd hj (by omega)⟩
      · have own : f_X3_takeString_9 n (nI c) S_cutShort (k + 1) Q Sc F_kind F_says F_start F_behind (nI S0) (nI i) (nI K) = (bd (f_X3_behindOne n (nI i) Q (nI c) S_cutShort Sc) fun qu4 => if qu4.1 = -1 then some (0, qu4.2, Sc, F_kind, F_says, F_start, F_behind) else (bd (f_X6_put n (nI (S0 + K)) qu4.2 (nI c) S_cutShort Sc) fun u8 => f_X3_takeString_9 n (nI c) S_cutShort k qu4.2 u8 F_kind F_says F_start F_behind (nI S0) qu4.1 (nI (K + 1)))) := by
          show fb_X3_takeString_9 n _ (nI c) S_cutShort Q Sc F_kind F_says F_start F_behind (nI S0) (nI i) (nI K) = _
          unfold fb_X3_takeString_9
          rw [if_neg hk4, e_look hc (by omega), bd_s, if_neg c1, qI_add]
          simp only [lt_e]
          rw [show nI K + 1 = nI (K + 1) from qI_add K 1]
        have ref : f_X11_row_18 n M_came M_size (nI len) (nI tk) M_looked M_thrown M_wrong Ms (k' + 1) (nI i) (nI lo) 66 M_value 1 Ml (nI K) = (bd (f_X11_character n 34 M_came M_size (nI len) (nI i) (nI lo) (nI tk) M_looked M_thrown M_wrong 66 M_value 1 Ms) fun qu4 => if qu4.1 < 0 then f_X11_row_18 n M_came M_size (nI len) (nI tk) M_looked M_thrown M_wrong Ms k' qu4.2 (nI lo) 66 M_value 0 Ml (nI (K + 1)) else (bd (f_X11_letter n qu4.1 M_came M_size (nI len) qu4.2 (nI lo) (nI tk) M_looked M_thrown M_wrong 66 M_value 1 Ml) fun u4 => f_X11_row_18 n M_came M_size (nI len) (nI tk) M_looked M_thrown M_wrong Ms k' qu4.2 u4.1 66 M_value 1 u4.2 (nI (K + 1)))) := by
          show fb_X11_row_18 n _ M_came M_size (nI len) (nI tk) M_looked M_thrown M_wrong Ms (nI i) (nI lo) 66 M_value 1 Ml (nI K) = _
          unfold fb_X11_row_18 f_X11_row_55 f_X11_row_77
          rw [if_neg (by decide), e_see (by omega) (by omega), bd_s, if_neg (by rw [h34]; exact c1)]
          simp only [lt_e]
          rw [zb_1, zb_0, show nI K + 1 = nI (K + 1) from qI_add K 1]
          simp only [gu_t, if_neg hk4, if_neg (show ¬ (1 : Int32) = 0 by decide), if_true]
        rw [own, ref]
        rcases e_one (n := n) (i := i) (q := 34) (S_cutShort := S_cutShort) (Q_character := Q) (M_came := M_came) (M_size := M_size) (M_laid := nI lo) (M_tokens := nI tk) (M_looked := M_looked) (M_thrown := M_thrown) (M_wrong := M_wrong) (M_kind := 66) (M_value := M_value) (M_good := 1) hn hS (Nat.le_refl _) (by omega) hR c1 (by decide) with ⟨j, v, a1, a2, a3, a4, a5⟩ | ⟨w, a, a1, a2⟩
        · rw [a4, bd_s, a5, bd_s]
          simp only []
          rw [if_neg (by rw [qI_ne_neg1 (by omega)]; exact fun h => h), e_put hc (by omega) a3, bd_s, if_neg (by rw [show (0 : Int32) = nI 0 from rfl, qI_lt (by omega) (by omega)]; omega), e_letter htk (by omega), bd_s]
          simp only []
          have hS1 : See j c len (upd Sc (S0 + K) (nI v)) Ms := (hS.up (by omega)).put (by omega)
          have hR1 : ∀ x, x < c → upd Sc (S0 + K) (nI v) x < 65536 := by
            intro x hx
            by_cases hxe : x = S0 + K
            · rw [hxe, upd_same, show (65536 : Int32) = nI 65536 from rfl, qI_lt (by omega) (by omega)]; exact a3
            · rw [upd_ne _ _ hxe]; exact hR x hx
          have := ih (c - j) (by omega) j (K + 1) k k' (if tk < 8192 then lo + 1 else lo) (upd Sc (S0 + K) (nI v)) (if tk < 8192 then upd Ml lo (nI v) else Ml) (nI v) (by omega) hS1 hR1 (by omega) (by omega) (by split <;> omega) (by omega) (by omega)
          rcases this with ⟨e, Kf, lo', Sc', Ml', Q', b1, b2, b3, b4, b5, b6, b7, b8, b9, b10, b11⟩ | ⟨Sc', Ml', Q', a', lo', v', b1, b2, b3, b4⟩
          · left
            refine ⟨e, Kf, lo', Sc', Ml', Q', by omega, b2, by omega, b4, b5, b6, b7, b8, b9, ?_, ?_⟩
            · intro x hx
              rw [b10 x (by omega), upd_ne _ _ (by omega)]
            · obtain ⟨l1, l2, l3⟩ := b11
              have hScK : Sc' (S0 + K) = nI v := by rw [b10 _ (by omega), upd_same]
              by_cases ct : tk < 8192
              · rw [if_pos ct] at l1 l2 l3
                rw [if_pos ct] at l1 l2
                refine ⟨by rw [if_pos ct]; omega, ?_, ?_⟩
                · intro x hx
                  rw [l2 x (by omega), upd_ne _ _ (by omega)]
                · intro _ x hx
                  by_cases hx0 : x = 0
                  · rw [hx0, Nat.add_zero, l2 lo (by omega), upd_same]; exact hScK.symm
                  · have := l3 ct (x - 1) (by omega)
                    rw [show lo + 1 + (x - 1) = lo + x from by omega] at this
                    rw [this]
                    show Sc' (S0 + (K + 1) + (x - 1)) = Sc' (S0 + K + x)
                    rw [show S0 + (K + 1) + (x - 1) = S0 + K + x from by omega]
              · rw [if_neg ct] at l1 l2 l3
                rw [if_neg ct] at l1 l2
                exact ⟨by rw [if_neg ct]; exact l1, l2, fun h => absurd h ct⟩
          · right
            refine ⟨Sc', Ml', Q', a', lo', v', b1, b2, ?_, ?_⟩
            · intro x hx
              rw [b3 x (by omega), upd_ne _ _ (by omega)]
            · intro x hx
              by_cases ct : tk < 8192
              · rw [if_pos ct] at b4
                rw [if_pos ct] at b4
                rw [b4 x (by omega), upd_ne _ _ (by omega)]
              · rw [if_neg ct] at b4
                rw [if_neg ct] at b4
                exact b4 x hx
        · right
          rw [a1, bd_s, a2, bd_s]
          simp only []
          rw [if_pos trivial, if_pos (by decide)]
          obtain ⟨k', rfl⟩ : ∃ j, k' = j + 1 := ⟨k' - 1, by omega⟩
          refine ⟨Sc, Ml, w, a + 1, nI lo, (nI (K + 1)).toInt64, rfl, ?_, fun j _ => rfl, fun j _ => rfl⟩
          unfold f_X11_row_18 fb_X11_row_18 f_X11_row_83 f_X11_row_112 f_X11_row_113
          rw [if_pos rfl]
          simp only [lt_e]
          rw [if_pos trivial, zb_0, gu_t]
theorem e_takeString {p lo : Nat} {Sc Ml : Nat → Int32} {Q M_kind : Int32} (hn : 100000 ≤ n) (htk : tk ≤ 8193) (hS : See p c len Sc Ms) (hp : p < c) (hR : ∀ j, j < c → Sc j < 65536) (hlo : lo ≤ p) :
    (∃ (e K lo' : Nat) (Sc' Ml' : Nat → Int32) (Q' : Int32), p < e ∧ e ≤ c ∧ K ≤ 4000 ∧ p + 1 + K < e ∧ f_X3_takeString n (nI p) Q (nI c) S_cutShort Sc F_kind F_says F_start F_behind = some (1, Q', Sc', 66, (nI K).toInt64, nI (p + 1), nI e) ∧ f_X11_row n M_came M_size (nI len) (nI p) (nI lo) (nI tk) M_looked M_thrown M_wrong M_kind M_value 1 Ms Ml = some (nI e, nI lo', 66, (nI K).toInt64, 1, Ml') ∧ See e c len Sc' Ms ∧ (∀ j, j < c → Sc' j < 65536) ∧ (∀ j, j < p + 1 → Sc' j = Sc j) ∧ Laid tk lo K (fun j => Sc' (p + 1 + j)) Ml Ml' lo') ∨
    (∃ (Sc' Ml' : Nat → Int32) (Q' a lo' kd : Int32) (v : Int64), f_X3_takeString n (nI p) Q (nI c) S_cutShort Sc F_kind F_says F_start F_behind = some (0, Q', Sc', F_kind, F_says, F_start, F_behind) ∧ f_X11_row n M_came M_size (nI len) (nI p) (nI lo) (nI tk) M_looked M_thrown M_wrong M_kind M_value 1 Ms Ml = some (a, lo', kd, v, 0, Ml') ∧ (∀ j, j < p + 1 → Sc' j = Sc j) ∧ ∀ j, j < lo → Ml' j = Ml j) := by
  unfold f_X3_takeString f_X3_takeString_0 f_X11_row f_X11_row_0
  simp only [lt_e]
  rw [show nI p + 1 = nI (p + 1) from qI_add p 1]
  have hc := hS.1
  have := e_str_loop (n := n) (c := c) (len := len) (tk := tk) (S0 := p + 1) (Ms := Ms) (M_came := M_came) (M_size := M_size) (M_looked := M_looked) (M_thrown := M_thrown) (M_wrong := M_wrong) (S_cutShort := S_cutShort) (F_kind := F_kind) (F_start := F_start) (F_behind := F_behind) (M_value := M_value) (F_says := F_says) hn htk (c - (p + 1)) (p + 1) 0 n n lo Sc Ml Q (by omega) (hS.up (by omega)) hR (by omega) (by omega) (by omega) (by omega) (by omega)
  rcases this with ⟨e, Kf, lo', Sc', Ml', Q', b1, b2, b3, b4, b5, b6, b7, b8, b9, b10, b11⟩ | ⟨Sc', Ml', Q', a', lo', v', b1, b2, b3, b4⟩
  · left; exact ⟨e, Kf, lo', Sc', Ml', Q', by omega, b2, b4, b5, b6, b7, b8, b9, b10, b11⟩
  · right; exact ⟨Sc', Ml', Q', a', lo', 66, v', b1, b2, b3, b4⟩
end
