/-! ===== write ===== -/
def z_by (x : Int64) (j : Nat) : Nat := z_u x / 2 ^ (8 * j) % 256
theorem z_by_lt (x : Int64) (j : Nat) : z_by x j < 256 := Nat.mod_lt _ (by decide)
theorem z_and255 (v : Int64) : z_u (v &&& (255 : Int64)) = z_u v % 256 := by
  have e : z_u (255 : Int64) = 2 ^ 8 - 1 := by decide +kernel
  rw [z_u_and, e, Nat.and_two_pow_sub_one_eq_mod]
theorem z_toI {v : Int64} {m : Nat} (h : z_u v = m) : v.toInt32 = nI m := by
  rw [z_u_lN v, h]
  exact lN_i m
theorem z_nar {m : Nat} (h : m < 65536) : vp_nar .char (nI m) = nI m := by
  unfold vp_nar
  rw [(pk_charN h).1]
theorem zm_byteAt (x : Int64) {j : Nat} (hj : j < 8) : zf_S_byteAt x (nI j) = some (nI (z_by x j)) := by
  unfold zf_S_byteAt
  have e1 : (8 : Int32) * nI j = nI (8 * j) := pk_mul 8 j
  rw [e1]
  have e2 : z_u ((x.toUInt64 >>> ((nI (8 * j)).toInt64.toUInt64 &&& Int64.toUInt64 63)).toInt64 &&& (255 : Int64)) = z_by x j := by
    rw [z_and255, z_u_ushr, z_shu (8 * j) (by omega)]
    rfl
  rw [z_toI e2, pk_char, pk_tn (by have := z_by_lt x j; omega), Nat.mod_eq_of_lt (by have := z_by_lt x j; omega)]
  exact z_gc_in (z_nar (by have := z_by_lt x j; omega))
theorem z_bt_sshr2 (w : Int64) {k i : Nat} (hk : k + i < 64) : z_bt (w >>> ((nI k).toInt64 &&& 63)) i = z_bt w (k + i) := by
  have h : (w >>> ((nI k).toInt64 &&& 63)).toBitVec.getLsbD i = w.toBitVec.getLsbD (k + i) := by
    rw [Int64.toBitVec_shiftRight]
    show (w.toBitVec.sshiftRight (((nI k).toInt64 &&& 63).toBitVec.smod 64).toNat).getLsbD i = _
    rw [z_shs k (by omega), BitVec.getLsbD_sshiftRight]
    simp [hk, show i < 64 by omega]
  exact h
theorem zm_byteOf (x : Int64) {j : Nat} (hj : j < 8) : zf_Q_byteOf x (nI j) = some (nI (z_by x j)) := by
  unfold zf_Q_byteOf
  have e1 : (8 : Int32) * nI j = nI (8 * j) := pk_mul 8 j
  rw [e1]
  have e2 : z_u ((x >>> ((nI (8 * j)).toInt64 &&& 63)) &&& (255 : Int64)) = z_by x j := by
    rw [z_and255]
    unfold z_by
    apply Nat.eq_of_testBit_eq
    intro i
    rw [show 256 = 2 ^ 8 from rfl, Nat.testBit_mod_two_pow, Nat.testBit_mod_two_pow, Nat.testBit_div_two_pow]
    by_cases hi : i < 8
    · have := z_bt_sshr2 x (k := 8 * j) (i := i) (by omega)
      unfold z_bt at this
      rw [this, Nat.add_comm]
    · rw [decide_eq_false hi]
      rfl
  rw [z_toI e2]
/-- how many of the bytes from i on are characters; none if one can't stand in a text -/
def z_cc (b : Nat → Nat) : Nat → Nat → Option Nat
  | 0, _ => some 0
  | m + 1, i => if b i = 0 then z_cc b m (i + 1) else if b i < 32 ∨ 126 < b i then none else (z_cc b m (i + 1)).map (· + 1)
/-- the text behind them -/
def z_ap (b : Nat → Nat) : Nat → Nat → (Nat → Int32) → Nat → (Nat → Int32) × Nat
  | 0, _, f, L => (f, L)
  | m + 1, i, f, L => if b i = 0 then z_ap b m (i + 1) f L else z_ap b m (i + 1) (upd f L (nI (b i))) (L + 1)
theorem z_b_0 {b : Nat} (h : b < 256) : (nI b = 0) ↔ b = 0 := nI_eq (b := 0) (by omega) (by decide)
theorem z_b_32 {b : Nat} (h : b < 256) : (nI b < 32) ↔ b < 32 := nI_ltI (b := 32) (by omega) (by decide)
theorem z_b_126 {b : Nat} (h : b < 256) : (nI b ≤ 126) ↔ b ≤ 126 := nI_leI (b := 126) (by omega) (by decide)
theorem z_le8 {i : Nat} (h : i < 2 ^ 31) : ((8 : Int32) ≤ nI i) ↔ 8 ≤ i := nI_leI (a := 8) (by decide) h
theorem zm_cc_loop (x : Int64) : ∀ m i n c, i + m = 8 → m < n → zf_S_countCharacters_4 n x (nI c) (nI i) = some (match z_cc (z_by x) m i with | none => -1 | some t => nI (c + t)) := by
  intro m
  induction m with
  | zero =>
    intro i n c hi0 hn
    obtain ⟨n, rfl⟩ : ∃ n', n = n' + 1 := ⟨n - 1, by omega⟩
    rw [zf_S_countCharacters_4, if_pos ((z_le8 (by omega)).mpr (by omega))]
    rfl
  | succ m ih =>
    intro i n c hi0 hn
    obtain ⟨n, rfl⟩ : ∃ n', n = n' + 1 := ⟨n - 1, by omega⟩
    have hb := z_by_lt x i
    rw [zf_S_countCharacters_4, if_neg (fun q => absurd ((z_le8 (by omega)).mp q) (by omega)), zm_byteAt x (by omega), z_b1_of, show nI i + (1 : Int32) = nI (i + 1) from nI_1 i, show nI c + (1 : Int32) = nI (c + 1) from nI_1 c]
    simp only [z_b_0 hb, z_b_32 hb, z_b_126 hb]
    unfold z_cc
    by_cases h0 : z_by x i = 0
    · simp only [if_pos h0]
      exact ih (i + 1) n c (by omega) (by omega)
    simp only [if_neg h0]
    by_cases h1 : z_by x i < 32
    · simp only [if_pos h1, if_pos (show z_by x i < 32 ∨ 126 < z_by x i from Or.inl h1)]
    simp only [if_neg h1]
    by_cases h2 : z_by x i ≤ 126
    · simp only [if_pos h2, if_neg (show ¬ (z_by x i < 32 ∨ 126 < z_by x i) by omega)]
      rw [ih (i + 1) n (c + 1) (by omega) (by omega)]
      cases z_cc (z_by x) m (i + 1) with
      | none => rfl
      | some t => show some (nI (c + 1 + t)) = some (nI (c + (t + 1))); rw [show c + 1 + t = c + (t + 1) by omega]
    · simp only [if_neg h2, if_pos (show z_by x i < 32 ∨ 126 < z_by x i by omega)]
theorem zm_rc_loop (x : Int64) (Qs : Int32) (Qt : Nat → Int32) : ∀ m i n c, i + m = 8 → m < n → zf_Q_write_5 n x (nI c) (nI i) Qs Qt = match z_cc (z_by x) m i with | none => some (0, Qs, Qt) | some t => if Qs + nI (c + t) ≤ 240 then zf_Q_write_77 z_FU x 0 Qs Qt else some (0, Qs, Qt) := by
  intro m
  induction m with
  | zero =>
    intro i n c hi0 hn
    obtain ⟨n, rfl⟩ : ∃ n', n = n' + 1 := ⟨n - 1, by omega⟩
    rw [zf_Q_write_5, if_pos ((z_le8 (by omega)).mpr (by omega)), z_gb0]
    rfl
  | succ m ih =>
    intro i n c hi0 hn
    obtain ⟨n, rfl⟩ : ∃ n', n = n' + 1 := ⟨n - 1, by omega⟩
    have hb := z_by_lt x i
    rw [zf_Q_write_5, if_neg (fun q => absurd ((z_le8 (by omega)).mp q) (by omega)), zm_byteOf x (by omega), z_b1_of]
    unfold zf_Q_write_41 zf_Q_write_52
    rw [show nI i + (1 : Int32) = nI (i + 1) from nI_1 i, show nI c + (1 : Int32) = nI (c + 1) from nI_1 c, show nI c + (0 : Int32) = nI c from nI_add c 0, z_gb0]
    simp only [z_b_0 hb, z_b_32 hb, z_b_126 hb]
    unfold z_cc
    by_cases h0 : z_by x i = 0
    · simp only [if_pos h0]
      exact ih (i + 1) n c (by omega) (by omega)
    simp only [if_neg h0]
    by_cases h1 : z_by x i < 32
    · simp only [if_pos h1, if_pos (show z_by x i < 32 ∨ 126 < z_by x i from Or.inl h1)]
    simp only [if_neg h1]
    by_cases h2 : z_by x i ≤ 126
    · simp only [if_pos h2, if_neg (show ¬ (z_by x i < 32 ∨ 126 < z_by x i) by omega)]
      rw [ih (i + 1) n (c + 1) (by omega) (by omega)]
      cases z_cc (z_by x) m (i + 1) with
      | none => rfl
      | some t =>
        show (if Qs + nI (c + 1 + t) ≤ 240 then _ else _) = if Qs + nI (c + (t + 1)) ≤ 240 then _ else _
        rw [show c + 1 + t = c + (t + 1) by omega]
    · simp only [if_neg h2, if_pos (show z_by x i < 32 ∨ 126 < z_by x i by omega)]
theorem zm_ap_loop (x : Int64) : ∀ m i n L f t, i + m = 8 → m < n → z_cc (z_by x) m i = some t → L + t ≤ 240 → zf_S_append_27 n x (nI i) f (nI L) = some (1, (z_ap (z_by x) m i f L).1, nI (z_ap (z_by x) m i f L).2) := by
  intro m
  induction m with
  | zero =>
    intro i n L f t hi0 hn hc hL
    obtain ⟨n, rfl⟩ : ∃ n', n = n' + 1 := ⟨n - 1, by omega⟩
    rw [zf_S_append_27, if_pos ((z_le8 (by omega)).mpr (by omega)), z_gb1]
    rfl
  | succ m ih =>
    intro i n L f t hi0 hn hc hL
    obtain ⟨n, rfl⟩ : ∃ n', n = n' + 1 := ⟨n - 1, by omega⟩
    have hb := z_by_lt x i
    rw [zf_S_append_27, if_neg (fun q => absurd ((z_le8 (by omega)).mp q) (by omega)), zm_byteAt x (by omega), z_b1_of, show nI i + (1 : Int32) = nI (i + 1) from nI_1 i, show nI L + (1 : Int32) = nI (L + 1) from nI_1 L]
    simp only [z_b_0 hb]
    unfold z_cc at hc
    unfold z_ap
    by_cases h0 : z_by x i = 0
    · rw [if_pos h0] at hc ⊢
      rw [if_pos h0]
      exact ih (i + 1) n L f t (by omega) (by omega) hc hL
    rw [if_neg h0] at hc ⊢
    rw [if_neg h0]
    split at hc
    · cases hc
    cases hq : z_cc (z_by x) m (i + 1) with
    | none => rw [hq] at hc; cases hc
    | some t' =>
      rw [hq] at hc
      have ht : t' + 1 = t := Option.some.inj hc
      rw [z_gd_n (by omega) (by decide), nI_clamp (by omega), z_nar (by omega)]
      exact ih (i + 1) n (L + 1) _ t' (by omega) (by omega) hq (by omega)
theorem zm_rp_loop (x : Int64) : ∀ m i n L f t, i + m = 8 → m < n → z_cc (z_by x) m i = some t → L + t ≤ 240 → zf_Q_write_77 n x (nI i) (nI L) f = some (1, nI (z_ap (z_by x) m i f L).2, (z_ap (z_by x) m i f L).1) := by
  intro m
  induction m with
  | zero =>
    intro i n L f t hi0 hn hc hL
    obtain ⟨n, rfl⟩ : ∃ n', n = n' + 1 := ⟨n - 1, by omega⟩
    rw [zf_Q_write_77, if_pos ((z_le8 (by omega)).mpr (by omega)), z_gb1]
    rfl
  | succ m ih =>
    intro i n L f t hi0 hn hc hL
    obtain ⟨n, rfl⟩ : ∃ n', n = n' + 1 := ⟨n - 1, by omega⟩
    have hb := z_by_lt x i
    rw [zf_Q_write_77, if_neg (fun q => absurd ((z_le8 (by omega)).mp q) (by omega)), zm_byteOf x (by omega), z_b1_of, show nI i + (1 : Int32) = nI (i + 1) from nI_1 i, show nI L + (1 : Int32) = nI (L + 1) from nI_1 L]
    simp only [z_b_0 hb]
    unfold z_cc at hc
    unfold z_ap
    by_cases h0 : z_by x i = 0
    · rw [if_pos h0] at hc ⊢
      rw [if_pos h0]
      exact ih (i + 1) n L f t (by omega) (by omega) hc hL
    rw [if_neg h0] at hc ⊢
    rw [if_neg h0]
    split at hc
    · cases hc
    cases hq : z_cc (z_by x) m (i + 1) with
    | none => rw [hq] at hc; cases hc
    | some t' =>
      rw [hq] at hc
      have ht : t' + 1 = t := Option.some.inj hc
      rw [z_gd_n (by omega) (by decide), nI_clamp (by omega)]
      exact ih (i + 1) n (L + 1) _ t' (by omega) (by omega) hq (by omega)
/-- a text: n characters that both have -/
def z_txt (f : Nat → Int32) (n : Nat) : Prop := ∀ i, i < n → ∃ c : Nat, 32 ≤ c ∧ c ≤ 126 ∧ f i = nI c
theorem z_ap_ok {b : Nat → Nat} : ∀ m i f g L t, z_cc b m i = some t → (∀ j, j < L → f j = g j) → z_txt f L → (z_ap b m i f L).2 = L + t ∧ (z_ap b m i g L).2 = L + t ∧ (∀ j, j < L + t → (z_ap b m i f L).1 j = (z_ap b m i g L).1 j) ∧ z_txt (z_ap b m i f L).1 (L + t) := by
  intro m
  induction m with
  | zero =>
    intro i f g L t hc h1 h2
    cases hc
    exact ⟨rfl, rfl, h1, h2⟩
  | succ m ih =>
    intro i f g L t hc h1 h2
    unfold z_cc at hc
    unfold z_ap
    by_cases h0 : b i = 0
    · rw [if_pos h0] at hc
      rw [if_pos h0, if_pos h0]
      exact ih (i + 1) f g L t hc h1 h2
    rw [if_neg h0] at hc
    rw [if_neg h0, if_neg h0]
    split at hc
    · cases hc
    · rename_i hr
      cases hq : z_cc b m (i + 1) with
      | none => rw [hq] at hc; cases hc
      | some t' =>
        rw [hq] at hc
        have ht : t' + 1 = t := Option.some.inj hc
        have := ih (i + 1) (upd f L (nI (b i))) (upd g L (nI (b i))) (L + 1) t' hq (fun j hj => by
          by_cases q : j = L
          · rw [q, pk_us, pk_us]
          · rw [pk_un q, pk_un q]
            exact h1 j (by omega)) (fun j hj => by
          by_cases q : j = L
          · rw [q, pk_us]
            exact ⟨b i, by omega, by omega, rfl⟩
          · rw [pk_un q]
            exact h2 j (by omega))
        rw [show L + t = L + 1 + t' by omega]
        exact this
def zI_T (n : Nat) (S_characters : Nat → Int32) (S_length Q_size : Int32) (Q_text : Nat → Int32) : Prop := n ≤ 240 ∧ S_length = nI n ∧ Q_size = nI n ∧ (∀ i, i < n → S_characters i = Q_text i) ∧ z_txt S_characters n
theorem z_cc_le {b : Nat → Nat} : ∀ m i t, z_cc b m i = some t → t ≤ m := by
  intro m
  induction m with
  | zero => intro i t h; cases h; exact Nat.le_refl 0
  | succ m ih =>
    intro i t h
    unfold z_cc at h
    split at h
    · have := ih _ _ h
      omega
    split at h
    · cases h
    · cases hq : z_cc b m (i + 1) with
      | none => rw [hq] at h; cases h
      | some t' =>
        rw [hq] at h
        have ht : t' + 1 = t := Option.some.inj h
        have := ih _ _ hq
        omega
theorem z_nI_ne {n : Nat} (h : n < 2 ^ 31) : ¬ nI n = -1 := fun q => by
  have := nI_pos (n := n) h
  rw [q] at this
  exact this (by decide)
theorem zm_write {n : Nat} {S_characters : Nat → Int32} {S_length Q_size : Int32} {Q_text : Nat → Int32} (I : zI_T n S_characters S_length Q_size Q_text) (x : Int64) :
    ∃ (r : Int32) (n' : Nat) (S_characters' : Nat → Int32) (S_length' Q_size' : Int32) (Q_text' : Nat → Int32), zf_N_write x S_characters S_length = some (r, S_characters', S_length') ∧ zf_Q_write x Q_size Q_text = some (r, Q_size', Q_text') ∧ zI_T n' S_characters' S_length' Q_size' Q_text' := by
  obtain ⟨hn, rfl, rfl, h1, h2⟩ := id I
  unfold zf_N_write zf_S_append zf_S_countCharacters zf_Q_write
  have e1 : zf_S_countCharacters_4 z_FU x 0 0 = some (match z_cc (z_by x) 8 0 with | none => -1 | some t => nI (0 + t)) := zm_cc_loop x 8 0 z_FU 0 rfl (by unfold z_FU; omega)
  have e2 : zf_Q_write_5 z_FU x 0 0 (nI n) Q_text = match z_cc (z_by x) 8 0 with | none => some (0, nI n, Q_text) | some t => if nI n + nI (0 + t) ≤ 240 then zf_Q_write_77 z_FU x 0 (nI n) Q_text else some (0, nI n, Q_text) := zm_rc_loop x (nI n) Q_text 8 0 z_FU 0 rfl (by unfold z_FU; omega)
  rw [e1, e2]
  cases hc : z_cc (z_by x) 8 0 with
  | none =>
    refine ⟨0, n, S_characters, nI n, nI n, Q_text, ?_, rfl, I⟩
    rw [z_b1_of, if_pos rfl]
    rfl
  | some t =>
    have ht := z_cc_le _ _ _ hc
    have e3 : nI n + nI (0 + t) = nI (n + t) := by rw [Nat.zero_add]; exact nI_add n t
    have e4 : (nI (n + t) ≤ (240 : Int32)) ↔ n + t ≤ 240 := nI_leI (b := 240) (by omega) (by decide)
    show ∃ r n' S_characters' S_length' Q_size' Q_text', z_b3 (z_b1 (some (nI (0 + t))) _) _ = _ ∧ (if nI n + nI (0 + t) ≤ 240 then _ else _) = _ ∧ _
    rw [z_b1_of, if_neg (z_nI_ne (by omega)), e3]
    by_cases q : n + t ≤ 240
    · rw [if_pos (e4.mpr q), if_pos (e4.mpr q)]
      obtain ⟨a1, a2, a3, a4⟩ := z_ap_ok 8 0 S_characters Q_text n t hc h1 h2
      have f1 : zf_S_append_27 z_FU x 0 S_characters (nI n) = some (1, (z_ap (z_by x) 8 0 S_characters n).1, nI (z_ap (z_by x) 8 0 S_characters n).2) := zm_ap_loop x 8 0 z_FU n S_characters t rfl (by unfold z_FU; omega) hc q
      have f2 : zf_Q_write_77 z_FU x 0 (nI n) Q_text = some (1, nI (z_ap (z_by x) 8 0 Q_text n).2, (z_ap (z_by x) 8 0 Q_text n).1) := zm_rp_loop x 8 0 z_FU n Q_text t rfl (by unfold z_FU; omega) hc q
      rw [a1] at f1
      rw [a2] at f2
      refine ⟨1, n + t, _, nI (n + t), nI (n + t), _, ?_, f2, q, rfl, rfl, a3, a4⟩
      rw [f1, z_b3_of]
      exact z_gb1
    · rw [if_neg (fun z => q (e4.mp z)), if_neg (fun z => q (e4.mp z))]
      exact ⟨0, n, S_characters, nI n, nI n, Q_text, rfl, rfl, I⟩
