/-! PURE 74: a token. -/
section
variable {M_came M_size M_looked M_thrown M_wrong M_kind M_good : Int32} {M_value : Int64} {Sc Ms Ml : Nat → Int32} {V_laid V_gone V_fiveMany V_partMany V_length V_thrown V_were V_none V_beyond V_aMany V_bMany V_leftMany V_rightMany V_twos V_at V_digits V_power V_good : Int32} {Vt Va Vb Vl Vr : Nat → Int32} {S_cutShort P_count G_count F_kind F_start F_behind B_used E_used Q_character N_base N_first N_significandEnd N_exponentEnd : Int32} {F_says R_bits : Int64} {Pc Ps Gc Gs Bl El : Nat → Int32} {n c len p tk lo : Nat}
def Good (c len p tk lo : Nat) (Sc Ms Ml : Nat → Int32) (kd : Int32) (sy : Int64) (st e lo' : Nat) (Sc' Ml' : Nat → Int32) : Prop :=
  p < e ∧ e ≤ c ∧ See e c len Sc' Ms ∧ (∀ j, j < c → Sc' j < 65536) ∧ (∀ j, j < p → Sc' j = Sc j) ∧ p ≤ st ∧ 0 ≤ kd ∧
  ∃ K : Nat, st + K ≤ e ∧ Laid tk lo K (fun j => Sc' (st + j)) Ml Ml' lo' ∧ ((kd ≤ 60 ∨ kd = 66) → sy = (nI K).toInt64) ∧ (¬ (kd ≤ 60 ∨ kd = 66) → K = 0)
theorem Laid_0 {src : Nat → Int32} : Laid tk lo 0 src Ml Ml lo := ⟨by split <;> omega, fun j _ => rfl, fun _ j hj => absurd hj (by omega)⟩
theorem e_token (hn : 100000 ≤ n) (hS : See p c len Sc Ms) (hp : p < c) (hR : ∀ j, j < c → Sc j < 65536) (hP : Tab kwL P_count Pc Ps) (hG : Tab sgL G_count Gc Gs) (htk : tk ≤ 8193) (hlo : lo ≤ p) (hcm : ¬ (lk c Sc p = 47 ∧ lk c Sc (p + 1) = 42)) :
    (∃ (kd : Int32) (sy : Int64) (st e lo' : Nat) (Sc' Ml' : Nat → Int32), Good c len p tk lo Sc Ms Ml kd sy st e lo' Sc' Ml' ∧ (∃ q, f_X4_take_0 n (nI c) S_cutShort P_count Pc Ps G_count Gc Gs Sc F_kind F_says F_start F_behind N_base N_first N_significandEnd N_exponentEnd B_used Bl R_bits E_used El Q_character (nI p) = some (1, Sc', kd, sy, nI st, nI e, q)) ∧ ∃ q', f_X11_token_0 n M_came M_size (nI len) (nI tk) M_looked M_thrown M_wrong Ms V_laid V_gone V_fiveMany V_partMany (nI p) (nI lo) M_kind M_value M_good Ml V_length V_thrown V_were V_none V_beyond V_aMany V_bMany V_leftMany V_rightMany V_twos V_at V_digits V_power V_good Vt Va Vb Vl Vr = some (nI e, nI lo', kd, sy, 1, Ml', q')) ∨
    (∃ (Sc' Ml' : Nat → Int32), (∀ j, j < p → Sc' j = Sc j) ∧ (∀ j, j < lo → Ml' j = Ml j) ∧ (∃ q, f_X4_take_0 n (nI c) S_cutShort P_count Pc Ps G_count Gc Gs Sc F_kind F_says F_start F_behind N_base N_first N_significandEnd N_exponentEnd B_used Bl R_bits E_used El Q_character (nI p) = some (0, Sc', q)) ∧ ∃ a lo' kd v q', f_X11_token_0 n M_came M_size (nI len) (nI tk) M_looked M_thrown M_wrong Ms V_laid V_gone V_fiveMany V_partMany (nI p) (nI lo) M_kind M_value M_good Ml V_length V_thrown V_were V_none V_beyond V_aMany V_bMany V_leftMany V_rightMany V_twos V_at V_digits V_power V_good Vt Va Vb Vl Vr = some (a, lo', kd, v, 0, Ml', q')) := by
  have hc := hS.1
  have hl := hS.2.1
  have hcl := hS.2.2.1
  have hM : lk len Ms p = lk c Sc p := by rw [lk_in (show p < len by omega), lk_in hp]; exact hS.2.2.2.2 p (Nat.le_refl _) hp
  unfold f_X4_take_0 f_X11_token_0
  rw [e_look hc (by omega), bd_s, e_see (by omega) (by omega), bd_s, hM]
  -- numbers
  have num : (dv (lk c Sc p) < 10 ∨ (lk c Sc p = 46 ∧ dv (lk c Sc (p + 1)) < 10)) →
    (∃ (kd : Int32) (sy : Int64) (st e lo' : Nat) (Sc' Ml' : Nat → Int32), Good c len p tk lo Sc Ms Ml kd sy st e lo' Sc' Ml' ∧ (∃ q, f_X4_take_58 n (nI c) S_cutShort P_count Pc Ps G_count Gc Gs Sc F_kind F_says F_start F_behind N_base N_first N_significandEnd N_exponentEnd B_used Bl R_bits E_used El Q_character (nI p) = some (1, Sc', kd, sy, nI st, nI e, q)) ∧ ∃ q', f_X11_token_66 n M_came M_size (nI len) (nI tk) M_looked M_thrown M_wrong Ms V_laid V_gone V_fiveMany V_partMany (nI p) (nI lo) M_kind 0 1 Ml V_length V_thrown V_were V_none V_beyond V_aMany V_bMany V_leftMany V_rightMany V_twos V_at V_digits V_power V_good Vt Va Vb Vl Vr = some (nI e, nI lo', kd, sy, 1, Ml', q')) ∨
    (∃ (Sc' Ml' : Nat → Int32), (∀ j, j < p → Sc' j = Sc j) ∧ (∀ j, j < lo → Ml' j = Ml j) ∧ (∃ q, f_X4_take_58 n (nI c) S_cutShort P_count Pc Ps G_count Gc Gs Sc F_kind F_says F_start F_behind N_base N_first N_significandEnd N_exponentEnd B_used Bl R_bits E_used El Q_character (nI p) = some (0, Sc', q)) ∧ ∃ a lo' kd v q', f_X11_token_66 n M_came M_size (nI len) (nI tk) M_looked M_thrown M_wrong Ms V_laid V_gone V_fiveMany V_partMany (nI p) (nI lo) M_kind 0 1 Ml V_length V_thrown V_were V_none V_beyond V_aMany V_bMany V_leftMany V_rightMany V_twos V_at V_digits V_power V_good Vt Va Vb Vl Vr = some (a, lo', kd, v, 0, Ml', q')) := by
    intro hst
    obtain ⟨g, kd, sy, s, b, q, at', kd', val, q', a1, a2, a3, a4⟩ := e_number (n := n) (c := c) (len := len) (fr := p) (M_came := M_came) (M_size := M_size) (M_laid := nI lo) (M_tokens := nI tk) (M_looked := M_looked) (M_thrown := M_thrown) (M_wrong := M_wrong) (M_kind := M_kind) (M_value := 0) (V_laid := V_laid) (V_gone := V_gone) (V_fiveMany := V_fiveMany) (V_partMany := V_partMany) (V_length := V_length) (V_thrown := V_thrown) (V_were := V_were) (V_none := V_none) (V_beyond := V_beyond) (V_aMany := V_aMany) (V_bMany := V_bMany) (V_leftMany := V_leftMany) (V_rightMany := V_rightMany) (V_twos := V_twos) (V_at := V_at) (V_digits := V_digits) (V_power := V_power) (V_good := V_good) (Vt := Vt) (Va := Va) (Vb := Vb) (Vl := Vl) (Vr := Vr) (S_cutShort := S_cutShort) (P_count := P_count) (G_count := G_count) (F_kind := F_kind) (F_start := F_start) (F_behind := F_behind) (B_used := B_used) (E_used := E_used) (Q_character := Q_character) (N_base := N_base) (N_first := N_first) (N_significandEnd := N_significandEnd) (N_exponentEnd := N_exponentEnd) (F_says := F_says) (R_bits := R_bits) (Pc := Pc) (Ps := Ps) (Gc := Gc) (Gs := Gs) (Bl := Bl) (El := El) hn hS hp hst
    rw [a1]
    unfold f_X11_token_66
    rw [a2, bd_s]
    rcases a3 with h | h
    · right
      rw [h]
      exact ⟨Sc, Ml, fun j _ => rfl, fun j _ => rfl, ⟨_, rfl⟩, _, _, _, _, _, rfl⟩
    · left
      obtain ⟨b1, b2, b3, b4, b5, e, b6, b7, b8⟩ := a4 h
      rw [h, b1, b2, b3, b4, b6]
      have hk : ¬ (kd ≤ 60 ∨ kd = 66) := by rcases b5 with h | h | h | h <;> rw [h] <;> decide
      have hk0 : 0 ≤ kd := by rcases b5 with h | h | h | h <;> rw [h] <;> decide
      exact ⟨kd, sy, p, e, lo, Sc, Ml, ⟨b7, b8, hS.up (by omega), hR, fun j _ => rfl, Nat.le_refl _, hk0, 0, by omega, Laid_0, fun h => absurd h hk, fun _ => rfl⟩, ⟨_, rfl⟩, _, rfl⟩
  -- the rest
  have rest : ¬ lr (lk c Sc p) → ¬ dv (lk c Sc p) < 10 → 
    (∃ (kd : Int32) (sy : Int64) (st e lo' : Nat) (Sc' Ml' : Nat → Int32), Good c len p tk lo Sc Ms Ml kd sy st e lo' Sc' Ml' ∧ (∃ q, f_X4_take_89 n (nI c) S_cutShort P_count Pc Ps G_count Gc Gs Sc F_kind F_says F_start F_behind N_base N_first N_significandEnd N_exponentEnd B_used Bl R_bits E_used El Q_character (nI p) (lk c Sc p) = some (1, Sc', kd, sy, nI st, nI e, q)) ∧ ∃ q', f_X11_token_73 n M_came M_size (nI len) (nI tk) M_looked M_thrown M_wrong Ms V_laid V_gone V_fiveMany V_partMany (nI p) (nI lo) M_kind 0 1 Ml V_length V_thrown V_were V_none V_beyond V_aMany V_bMany V_leftMany V_rightMany V_twos V_at V_digits V_power V_good Vt Va Vb Vl Vr (lk c Sc p) = some (nI e, nI lo', kd, sy, 1, Ml', q')) ∨
    (∃ (Sc' Ml' : Nat → Int32), (∀ j, j < p → Sc' j = Sc j) ∧ (∀ j, j < lo → Ml' j = Ml j) ∧ (∃ q, f_X4_take_89 n (nI c) S_cutShort P_count Pc Ps G_count Gc Gs Sc F_kind F_says F_start F_behind N_base N_first N_significandEnd N_exponentEnd B_used Bl R_bits E_used El Q_character (nI p) (lk c Sc p) = some (0, Sc', q)) ∧ ∃ a lo' kd v q', f_X11_token_73 n M_came M_size (nI len) (nI tk) M_looked M_thrown M_wrong Ms V_laid V_gone V_fiveMany V_partMany (nI p) (nI lo) M_kind 0 1 Ml V_length V_thrown V_were V_none V_beyond V_aMany V_bMany V_leftMany V_rightMany V_twos V_at V_digits V_power V_good Vt Va Vb Vl Vr (lk c Sc p) = some (a, lo', kd, v, 0, Ml', q')) := by
    intro h1 h2
    unfold f_X4_take_89 f_X11_token_73
    simp only [lt_e]
    by_cases c1 : lk c Sc p = 39
    · rw [if_pos c1, if_pos c1]
      rcases e_takeCharacter (n := n) (S_cutShort := S_cutShort) (Q_character := Q_character) (F_kind := F_kind) (F_start := F_start) (F_behind := F_behind) (F_says := F_says) (M_came := M_came) (M_size := M_size) (M_laid := nI lo) (M_tokens := nI tk) (M_looked := M_looked) (M_thrown := M_thrown) (M_wrong := M_wrong) (M_kind := M_kind) (M_value := 0) (M_good := 1) hn hS hp hR with ⟨e, sy, Q', a1, a2, a3, a4⟩ | ⟨Q', a, b, v, a3, a4⟩
      · left
        rw [a3, bd_s, a4, bd_s]
        simp only [zb_1, gu_t]
        exact ⟨65, sy, p, e, lo, Sc, Ml, ⟨a1, a2, hS.up (by omega), hR, fun j _ => rfl, Nat.le_refl _, by decide, 0, by omega, Laid_0, fun h => absurd h (by decide), fun _ => rfl⟩, ⟨_, rfl⟩, _, rfl⟩
      · right
        rw [a3, bd_s, a4, bd_s]
        simp only [zb_0, gu_t]
        exact ⟨Sc, Ml, fun j _ => rfl, fun j _ => rfl, ⟨_, rfl⟩, _, _, _, _, _, rfl⟩
    · rw [if_neg c1, if_neg c1]
      by_cases c2 : lk c Sc p = 34
      · rw [if_pos c2, if_pos c2]
        rcases e_takeString (n := n) (c := c) (len := len) (tk := tk) (p := p) (lo := lo) (Sc := Sc) (Ml := Ml) (Ms := Ms) (Q := Q_character) (S_cutShort := S_cutShort) (F_kind := F_kind) (F_start := F_start) (F_behind := F_behind) (F_says := F_says) (M_came := M_came) (M_size := M_size) (M_looked := M_looked) (M_thrown := M_thrown) (M_wrong := M_wrong) (M_kind := M_kind) (M_value := 0) hn htk hS hp hR hlo with ⟨e, K, lo', Sc', Ml', Q', a1, a2, a3, a4, a5, a6, a7, a8, a9, a10⟩ | ⟨Sc', Ml', Q', a, lo', kd, v, a1, a2, a3, a4⟩
        · left
          rw [a5, bd_s, a6, bd_s]
          simp only [zb_1, gu_t]
          exact ⟨66, (nI K).toInt64, p + 1, e, lo', Sc', Ml', ⟨a1, a2, a7, a8, fun j hj => a9 j (by omega), by omega, by decide, K, by omega, a10, fun _ => rfl, fun h => absurd (Or.inr rfl) h⟩, ⟨_, rfl⟩, _, rfl⟩
        · right
          rw [a1, bd_s, a2, bd_s]
          simp only [zb_0, gu_t]
          exact ⟨Sc', Ml', fun j hj => a3 j (by omega), a4, ⟨_, rfl⟩, _, _, _, _, _, rfl⟩
      · rw [if_neg c2, if_neg c2]
        have h128 : (if lk c Sc p = 47 then (bd (f_X11_see n (nI p + 1) M_came M_size (nI len) (nI p) (nI lo) (nI tk) M_looked M_thrown M_wrong M_kind 0 1 Ms) fun o1 => if o1 = 42 then (some (nI p, nI lo, M_kind, (0 : Int64), (0 : Int32), Ml, V_length, V_thrown, V_were, V_none, V_beyond, V_aMany, V_bMany, V_leftMany, V_rightMany, V_twos, V_at, V_digits, V_power, V_good, Vt, Va, Vb, Vl, Vr)) else (f_X11_token_128 n M_came M_size (nI len) (nI tk) M_looked M_thrown M_wrong Ms V_laid V_gone V_fiveMany V_partMany (nI p) (nI lo) M_kind 0 1 Ml V_length V_thrown V_were V_none V_beyond V_aMany V_bMany V_leftMany V_rightMany V_twos V_at V_digits V_power V_good Vt Va Vb Vl Vr)) else (f_X11_token_128 n M_came M_size (nI len) (nI tk) M_looked M_thrown M_wrong Ms V_laid V_gone V_fiveMany V_partMany (nI p) (nI lo) M_kind 0 1 Ml V_length V_thrown V_were V_none V_beyond V_aMany V_bMany V_leftMany V_rightMany V_twos V_at V_digits V_power V_good Vt Va Vb Vl Vr)) = f_X11_token_128 n M_came M_size (nI len) (nI tk) M_looked M_thrown M_wrong Ms V_laid V_gone V_fiveMany V_partMany (nI p) (nI lo) M_kind 0 1 Ml V_length V_thrown V_were V_none V_beyond V_aMany V_bMany V_leftMany V_rightMany V_twos V_at V_digits V_power V_good Vt Va Vb Vl Vr := by
          by_cases c3 : lk c Sc p = 47
          · rw [if_pos c3, show nI p + 1 = nI (p + 1) from qI_add p 1, e_see (by omega) (by omega), bd_s, if_neg]
            rw [hS.eq (by omega) (by decide)]
            exact fun h => hcm ⟨c3, h⟩
          · rw [if_neg c3]
        rw [h128]
        unfold f_X11_token_128
        rcases e_sign (n := n) (c := c) (len := len) (p := p) (S_cutShort := S_cutShort) (F_kind := F_kind) (F_start := F_start) (F_behind := F_behind) (F_says := F_says) (cnt := G_count) (Pc := Gc) (Ps := Gs) (M_came := M_came) (M_size := M_size) (M_laid := nI lo) (M_tokens := nI tk) (M_looked := M_looked) (M_thrown := M_thrown) (M_wrong := M_wrong) (M_kind := M_kind) (M_value := 0) (M_good := 1) hn hS (by omega) hG with ⟨a1, a, b, a2⟩ | ⟨k, e, a1, a2, a3, a4, a5⟩
        · right
          rw [a1, bd_s, a2, bd_s]
          simp only [zb_0, gu_t]
          exact ⟨Sc, Ml, fun j _ => rfl, fun j _ => rfl, ⟨_, rfl⟩, _, _, _, _, _, rfl⟩
        · left
          rw [a4, bd_s, a5, bd_s]
          simp only [zb_1, gu_t]
          have hk60 : ¬ (nI (70 + k) ≤ 60 ∨ nI (70 + k) = 66) := by
            rw [show (60 : Int32) = nI 60 from rfl, show (66 : Int32) = nI 66 from rfl, qI_le (by omega) (by omega), qI_eq (by omega) (by omega)]; omega
          exact ⟨nI (70 + k), 0, p, e, lo, Sc, Ml, ⟨a2, a3, hS.up (by omega), hR, fun j _ => rfl, Nat.le_refl _, by rw [show (0 : Int32) = nI 0 from rfl, qI_le (by omega) (by omega)]; omega, 0, by omega, Laid_0, fun h => absurd h hk60, fun _ => rfl⟩, ⟨_, rfl⟩, _, rfl⟩
  rcases e_isLetter (n := n) (lk c Sc p) with ⟨hL, h1⟩ | ⟨hL, h1⟩
  · -- a name
    rcases e_isNamePart (n := n) (lk c Sc p) with ⟨_, h2⟩ | ⟨h, _⟩
    · have hnd : ¬ dv (lk c Sc p) < 10 := by
        rw [dv_10]
        intro h
        unfold lr at hL
        rcases hL with g | g | g | g <;> grind
      rw [h1, bd_s, if_neg (by decide), h2, bd_s, if_neg (by decide), e_isDecimal, if_neg hnd, bd_s, if_pos rfl]
      obtain ⟨g, kd, e, lo', Ml', a1, a2, a3, a4, a5, a6, a7⟩ := e_name (n := n) (c := c) (len := len) (p := p) (tk := tk) (lo := lo) (Sc := Sc) (Ms := Ms) (Ml := Ml) (cnt := P_count) (Pc := Pc) (Ps := Ps) (S_cutShort := S_cutShort) (F_kind := F_kind) (F_start := F_start) (F_behind := F_behind) (F_says := F_says) (M_came := M_came) (M_size := M_size) (M_looked := M_looked) (M_thrown := M_thrown) (M_wrong := M_wrong) (M_kind := M_kind) (M_good := 1) (M_value := 0) hn hS hp (Or.inl hL) hP htk hlo
      rw [a3, bd_s, a4, bd_s]
      simp only [lt_e]
      rcases a5 with h | h
      · right
        rw [h]
        simp only [zb_0, gu_t]
        exact ⟨Sc, Ml', fun j _ => rfl, a6.2.1, ⟨_, rfl⟩, _, _, _, _, _, rfl⟩
      · left
        rw [h]
        simp only [zb_1, gu_t]
        have hk0 : 0 ≤ kd := by have := a7.1; grind
        exact ⟨kd, (nI (e - p)).toInt64, p, e, lo', Sc, Ml', ⟨a1, a2, hS.up (by omega), hR, fun j _ => rfl, Nat.le_refl _, hk0, e - p, by omega, a6, fun _ => rfl, fun h => absurd (Or.inl a7.2) h⟩, ⟨_, rfl⟩, _, rfl⟩
    · exact absurd (Or.inl hL) h
  · rw [h1, bd_s, if_pos rfl, show (10 : Int32) = nI 10 from rfl, e_digit _ (by decide), bd_s]
    -- the own side comes to the same fork
    have own29 : (bd (f_X4_isNamePart n (lk c Sc p)) fun o2 => if o2 = 0 then (f_X4_take_29 n (nI c) S_cutShort P_count Pc Ps G_count Gc Gs Sc F_kind F_says F_start F_behind N_base N_first N_significandEnd N_exponentEnd B_used Bl R_bits E_used El Q_character (nI p) (lk c Sc p)) else (bd (f_X9_isDecimal n (lk c Sc p)) fun o3 => if o3 = 0 then (bd (f_X4_takeName n (nI p) (nI c) S_cutShort Sc F_kind F_says F_start F_behind P_count Pc Ps) fun qu6 => lt_ qu6.1 fun r7 => lt_ qu6.2 fun u6 => gu (zb r7) (some (r7, Sc, u6.1, u6.2.1, u6.2.2.1, u6.2.2.2, N_base, N_first, N_significandEnd, N_exponentEnd, B_used, Bl, R_bits, E_used, El, Q_character))) else (f_X4_take_29 n (nI c) S_cutShort P_count Pc Ps G_count Gc Gs Sc F_kind F_says F_start F_behind N_base N_first N_significandEnd N_exponentEnd B_used Bl R_bits E_used El Q_character (nI p) (lk c Sc p)))) = f_X4_take_29 n (nI c) S_cutShort P_count Pc Ps G_count Gc Gs Sc F_kind F_says F_start F_behind N_base N_first N_significandEnd N_exponentEnd B_used Bl R_bits E_used El Q_character (nI p) (lk c Sc p) := by
      rcases e_isNamePart (n := n) (lk c Sc p) with ⟨h, h2⟩ | ⟨h, h2⟩
      · have hd : dv (lk c Sc p) < 10 := by rcases h with g | g; exact absurd g hL; exact g
        rw [h2, bd_s, if_neg (by decide), e_isDecimal, if_pos hd, bd_s, if_neg (by decide)]
      · rw [h2, bd_s, if_pos rfl]
    rw [own29]
    unfold f_X4_take_29
    rw [e_isDecimal, bd_s]
    by_cases c1 : dv (lk c Sc p) < 10
    · rw [if_pos c1, if_pos c1, if_neg (by decide), if_pos (by rw [show (0 : Int32) = nI 0 from rfl, qI_le (by omega) (by omega)]; omega)]
      exact num (Or.inl c1)
    · rw [if_neg c1, if_neg c1, if_pos rfl, if_neg (show ¬ (0 : Int32) ≤ -1 by decide), show nI p + 1 = nI (p + 1) from qI_add p 1, e_look hc (by omega), bd_s, e_isDecimal, bd_s, e_see (by omega) (by omega), bd_s, e_digit _ (by decide), bd_s, hS.dv (by omega)]
      by_cases c2 : lk c Sc p = 46
      · rw [if_pos c2, if_pos c2]
        by_cases c3 : dv (lk c Sc (p + 1)) < 10
        · rw [if_pos c3, if_pos c3, if_neg (by decide), if_neg (by rw [show (0 : Int32) = nI 0 from rfl, qI_lt (by omega) (by omega)]; omega)]
          exact num (Or.inr ⟨c2, c3⟩)
        · rw [if_neg c3, if_neg c3, if_pos rfl, if_pos (by decide)]
          exact rest hL c1
      · rw [if_neg c2, if_neg c2]
        exact rest hL c1
/-- where the translation was cut short: no token -/
theorem e_token_cut (hn : 100000 ≤ n) (hS : See c c len Sc Ms) (hlen : len = c + 1) (h2 : Ms c = -2) (hG : Tab sgL G_count Gc Gs) : ∃ a lo' kd v q', f_X11_token_0 n M_came M_size (nI len) (nI tk) M_looked M_thrown M_wrong Ms V_laid V_gone V_fiveMany V_partMany (nI c) (nI lo) M_kind M_value M_good Ml V_length V_thrown V_were V_none V_beyond V_aMany V_bMany V_leftMany V_rightMany V_twos V_at V_digits V_power V_good Vt Va Vb Vl Vr = some (a, lo', kd, v, 0, Ml, q') := by
  have hc := hS.1
  have hl := hS.2.1
  unfold f_X11_token_0
  have hM : lk len Ms c = -2 := by rw [lk_in (by omega), h2]
  rw [e_see (by omega) (by omega), bd_s, hM]
  have h1 : f_X11_isLetter n (-2) = some 0 := by
    rcases e_isLetter (n := n) (-2) with ⟨h, _⟩ | ⟨_, h⟩
    · unfold lr at h; exact absurd h (by decide)
    · exact h
  rw [h1, bd_s, if_pos rfl, show (10 : Int32) = nI 10 from rfl, e_digit _ (by decide), bd_s, if_neg (by decide), if_neg (by decide)]
  unfold f_X11_token_73 f_X11_token_128
  rw [if_neg (by decide), if_neg (by decide), if_neg (by decide)]
  rcases e_sign (n := n) (c := c) (len := len) (p := c) (S_cutShort := 0) (F_kind := 0) (F_start := 0) (F_behind := 0) (F_says := 0) (cnt := G_count) (Pc := Gc) (Ps := Gs) (M_came := M_came) (M_size := M_size) (M_laid := nI lo) (M_tokens := nI tk) (M_looked := M_looked) (M_thrown := M_thrown) (M_wrong := M_wrong) (M_kind := M_kind) (M_value := 0) (M_good := 1) hn hS (by omega) hG with ⟨a1, a, b, a2⟩ | ⟨k, e, a1, a2, a3, a4, a5⟩
  · rw [a2, bd_s]
    exact ⟨_, _, _, _, _, rfl⟩
  · omega
/-- where a comment is not closed: no token -/
theorem e_token_com (hS : See p c len Sc Ms) (hp : p < c) (h1 : lk c Sc p = 47) (h2 : lk c Sc (p + 1) = 42) : ∃ a lo' kd v q', f_X11_token_0 n M_came M_size (nI len) (nI tk) M_looked M_thrown M_wrong Ms V_laid V_gone V_fiveMany V_partMany (nI p) (nI lo) M_kind M_value M_good Ml V_length V_thrown V_were V_none V_beyond V_aMany V_bMany V_leftMany V_rightMany V_twos V_at V_digits V_power V_good Vt Va Vb Vl Vr = some (a, lo', kd, v, 0, Ml, q') := by
  have hc := hS.1
  have hl := hS.2.1
  unfold f_X11_token_0
  have hM : lk len Ms p = 47 := by rw [hS.eq (Nat.le_refl _) (by decide)]; exact h1
  have hM2 : lk len Ms (p + 1) = 42 := by rw [hS.eq (by omega) (by decide)]; exact h2
  rw [e_see (by omega) (by omega), bd_s, hM]
  have h3 : f_X11_isLetter n 47 = some 0 := by
    rcases e_isLetter (n := n) 47 with ⟨h, _⟩ | ⟨_, h⟩
    · unfold lr at h; exact absurd h (by decide)
    · exact h
  rw [h3, bd_s, if_pos rfl, show (10 : Int32) = nI 10 from rfl, e_digit _ (by decide), bd_s, if_neg (by decide), if_neg (by decide)]
  unfold f_X11_token_73
  rw [if_neg (by decide), if_neg (by decide), if_pos rfl, show nI p + 1 = nI (p + 1) from qI_add p 1, e_see (by omega) (by omega), bd_s, hM2, if_pos rfl]
  exact ⟨_, _, _, _, _, rfl⟩
end
