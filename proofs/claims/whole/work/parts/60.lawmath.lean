/-! ===== the law ===== -/
theorem z_sub3 : ∀ m, m < 1600 → nI (m + 3) - (3 : Int32) = nI m := by decide +kernel
theorem z_l3 {L i : Nat} (hL : L ≤ 1536) (hi0 : i ≤ 1600) : (Int32.ofNat L - (3 : Int32) < nI i) ↔ L < i + 3 := by
  by_cases h : 3 ≤ L
  · obtain ⟨m, rfl⟩ : ∃ m, L = m + 3 := ⟨L - 3, by omega⟩
    have e : Int32.ofNat (m + 3) - (3 : Int32) = nI m := z_sub3 m (by omega)
    rw [e, nI_ltI (by omega) (by omega)]
    omega
  · have e : Int32.ofNat L - (3 : Int32) < 0 := by
      have : L = 0 ∨ L = 1 ∨ L = 2 := by omega
      rcases this with rfl | rfl | rfl
      · decide
      · decide
      · decide
    refine ⟨fun _ => by omega, fun _ => ?_⟩
    exact Int32.lt_of_lt_of_le e (nI_pos' (by omega))
set_option maxHeartbeats 4000000 in
set_option maxRecDepth 20000 in
theorem zm_law {L : Nat} {p0 : Nat → Int32} (hL : L ≤ 1536) : ∀ (fuel i : Nat) (S_characters : Nat → Int32) (S_length : Int32) (S_at : Int32) (S_names : Nat → Int32) (S_count : Int32) (S_code : Nat → Int32) (S_codeLength : Int32) (S_ends : Nat → Int32) (S_firstUses : Nat → Int32) (R_count : Int32) (R_names : Nat → Int32) (R_fixed : Nat → Int32) (R_low : Nat → Int64) (R_high : Nat → Int64) (R_stack : Nat → Int64) (A_genes : Int32) (A_count : Int32) (A_low : Nat → Int64) (A_high : Nat → Int64) (A_homes : Nat → Int32) (A_leasts : Nat → Int32) (A_states : Int32) (A_lowLeasts : Int64) (A_highLeasts : Int64) (C_numbers : Nat → Int32) (C_zeros : Nat → Int32) (C_ones : Nat → Int32) (C_nodes : Int32) (M_made : Nat → Int32) (M_count : Int32) (M_genes : Int32) (M_low : Int64) (M_high : Int64) (Q_size : Int32) (Q_text : Nat → Int32) (Q_genes : Int32) (Q_names : Nat → Int32) (Q_low : Nat → Int64) (Q_high : Nat → Int64) (Q_fixed : Nat → Int32) (Q_found : Int32) (Q_newNames : Nat → Int32) (Q_nested : Int32) (Q_marks : Int32) (Q_mark : Nat → Int32) (Q_values : Int32) (Q_valueLow : Nat → Int64) (Q_valueHigh : Nat → Int64) (Q_rules : Int32) (Q_analysed : Int32) (Q_one : Int32) (Q_reachLow : Nat → Int64) (Q_reachHigh : Nat → Int64) (Q_attractors : Int32) (Q_leastOf : Nat → Int32) (Q_open : Int32) (Q_givenTo : Nat → Int32) (Q_given : Nat → Int32), i ≤ L → L + 1 ≤ i + 3 * fuel → (∃ n k, zI_T n S_characters S_length Q_size Q_text ∧ zI_G k R_count R_names R_fixed R_low R_high Q_genes Q_names Q_low Q_high Q_fixed ∧ zI_A k A_genes A_count A_low A_high A_homes A_leasts A_states A_lowLeasts A_highLeasts Q_analysed Q_reachLow Q_reachHigh Q_attractors Q_leastOf) → zf_L_law_18 fuel (nI i) L p0 S_characters S_length S_at S_names S_count S_code S_codeLength S_ends S_firstUses R_count R_names R_fixed R_low R_high R_stack A_genes A_count A_low A_high A_homes A_leasts A_states A_lowLeasts A_highLeasts C_numbers C_zeros C_ones C_nodes M_made M_count M_genes M_low M_high Q_size Q_text Q_genes Q_names Q_low Q_high Q_fixed Q_found Q_newNames Q_nested Q_marks Q_mark Q_values Q_valueLow Q_valueHigh Q_rules Q_analysed Q_one Q_reachLow Q_reachHigh Q_attractors Q_leastOf Q_open Q_givenTo Q_given = some 1 := by
  intro fuel
  induction fuel with
  | zero =>
    intro i S_characters S_length S_at S_names S_count S_code S_codeLength S_ends S_firstUses R_count R_names R_fixed R_low R_high R_stack A_genes A_count A_low A_high A_homes A_leasts A_states A_lowLeasts A_highLeasts C_numbers C_zeros C_ones C_nodes M_made M_count M_genes M_low M_high Q_size Q_text Q_genes Q_names Q_low Q_high Q_fixed Q_found Q_newNames Q_nested Q_marks Q_mark Q_values Q_valueLow Q_valueHigh Q_rules Q_analysed Q_one Q_reachLow Q_reachHigh Q_attractors Q_leastOf Q_open Q_givenTo Q_given h1 h2
    omega
  | succ fuel ih =>
    intro i S_characters S_length S_at S_names S_count S_code S_codeLength S_ends S_firstUses R_count R_names R_fixed R_low R_high R_stack A_genes A_count A_low A_high A_homes A_leasts A_states A_lowLeasts A_highLeasts C_numbers C_zeros C_ones C_nodes M_made M_count M_genes M_low M_high Q_size Q_text Q_genes Q_names Q_low Q_high Q_fixed Q_found Q_newNames Q_nested Q_marks Q_mark Q_values Q_valueLow Q_valueHigh Q_rules Q_analysed Q_one Q_reachLow Q_reachHigh Q_attractors Q_leastOf Q_open Q_givenTo Q_given h1 h2 hI
    obtain ⟨n, k, hT, hG, hA⟩ := hI
    obtain ⟨hk, rfl, rfl, -⟩ := id hG
    rw [zf_L_law_18]
    by_cases h3 : L < i + 3
    · refine (if_pos ((z_l3 hL (by omega)).mpr h3)).trans z_gb1
    refine (if_neg (fun q => h3 ((z_l3 hL (by omega)).mp q))).trans ((z_gd_n (by omega) (by omega)).trans ?_)
    have hb : L < 2 ^ 31 := by omega
    have h4 : i + 1 < L := by omega
    have h5 : i + 2 < L := by omega
    rw [show nI i + (1 : Int32) = nI (i + 1) from nI_1 i, show nI i + (2 : Int32) = nI (i + 2) from nI_add i 2, show nI i + (3 : Int32) = nI (i + 3) from nI_add i 3, nI_clamp (n := i) (by omega), nI_clamp (n := i + 1) (by omega), nI_clamp (n := i + 2) (by omega)]
    generalize p0 i &&& (31 : Int32) = op
    by_cases q0 : op = 0
    · refine (if_pos q0).trans ?_
      obtain ⟨r, n2, a, b, c, d, e1, e2, e3⟩ := zm_write hT (((p0 (i + 1)).toInt64 <<< ((32 : Int32).toInt64 &&& 63)) ||| ((p0 (i + 2)).toInt64 &&& (4294967295 : Int64)))
      refine (z_gd_n h4 hb).trans ((z_gd_n h5 hb).trans ?_)
      rw [e1, z_b3_of]
      refine (z_gd_n h4 hb).trans ((z_gd_n h5 hb).trans ?_)
      rw [e2, z_b3_of]
      refine (if_pos rfl).trans ?_
      exact ih (i + 3) _ _ _ _ _ _ _ _ _ _ _ _ _ _ _ _ _ _ _ _ _ _ _ _ _ _ _ _ _ _ _ _ _ _ _ _ _ _ _ _ _ _ _ _ _ _ _ _ _ _ _ _ _ _ _ _ _ _ (by omega) (by omega) ⟨n2, k, e3, hG, hA⟩
    refine (if_neg q0).trans ?_
    by_cases q1 : op = 1
    · refine (if_pos q1).trans ?_
      rw [show zf_N_wipe S_length = some 0 from rfl, show zf_Q_wipe Q_size = some 0 from rfl, z_b1_of, z_b1_of]
      exact ih (i + 3) _ _ _ _ _ _ _ _ _ _ _ _ _ _ _ _ _ _ _ _ _ _ _ _ _ _ _ _ _ _ _ _ _ _ _ _ _ _ _ _ _ _ _ _ _ _ _ _ _ _ _ _ _ _ _ _ _ _ (by omega) (by omega) ⟨0, k, ⟨by decide, rfl, rfl, fun i hi0 => absurd hi0 (by omega), fun i hi0 => absurd hi0 (by omega)⟩, hG, hA⟩
    refine (if_neg q1).trans ?_
    by_cases q2 : op = 2
    · refine (if_pos q2).trans ?_
      rcases zm_load hT S_at S_names S_count S_code S_codeLength S_ends S_firstUses (nI k) R_names R_fixed R_low R_high R_stack A_count A_states (nI k) Q_names Q_low Q_high Q_fixed Q_found Q_newNames Q_nested Q_marks Q_mark Q_values Q_valueLow Q_valueHigh Q_rules Q_analysed with ⟨r, s1, s2, s3, s4, s5, s6, s7, t1, u1, u2, u3, u4, u5, u6, u7, u8, u9, e1, e2⟩ | ⟨k2, r, s1, s2, s3, s4, s5, s6, s7, r1, r2, r3, r4, r5, r6, t1, t2, t3, t4, t5, u1, u2, u3, u4, u5, u6, u7, u8, u9, e1, e2, e3⟩
      · rw [e1, z_b16_of, e2, z_b16_of]
        refine (if_pos rfl).trans ?_
        exact ih (i + 3) _ _ _ _ _ _ _ _ _ _ _ _ _ _ _ _ _ _ _ _ _ _ _ _ _ _ _ _ _ _ _ _ _ _ _ _ _ _ _ _ _ _ _ _ _ _ _ _ _ _ _ _ _ _ _ _ _ _ (by omega) (by omega) ⟨n, k, hT, hG, hA⟩
      · rw [e1, z_b16_of, e2, z_b16_of]
        refine (if_pos rfl).trans ?_
        exact ih (i + 3) _ _ _ _ _ _ _ _ _ _ _ _ _ _ _ _ _ _ _ _ _ _ _ _ _ _ _ _ _ _ _ _ _ _ _ _ _ _ _ _ _ _ _ _ _ _ _ _ _ _ _ _ _ _ _ _ _ _ (by omega) (by omega) ⟨n, k2, hT, e3, Or.inl ⟨rfl, rfl, rfl⟩⟩
    refine (if_neg q2).trans ?_
    by_cases q3 : op = 3
    · refine (if_pos q3).trans ?_
      rw [show zf_N_genes (nI k) = some (nI k) from rfl, show zf_Q_genes (nI k) = some (nI k) from rfl, z_b1_of, z_b1_of]
      refine (if_pos rfl).trans ?_
      exact ih (i + 3) _ _ _ _ _ _ _ _ _ _ _ _ _ _ _ _ _ _ _ _ _ _ _ _ _ _ _ _ _ _ _ _ _ _ _ _ _ _ _ _ _ _ _ _ _ _ _ _ _ _ _ _ _ _ _ _ _ _ (by omega) (by omega) ⟨n, k, hT, hG, hA⟩
    refine (if_neg q3).trans ?_
    by_cases q4 : op = 4
    · refine (if_pos q4).trans ?_
      obtain ⟨r, e1, e2⟩ := zm_gene hG ((p0 (i + 1)).toUInt32 % 65536).toInt32
      refine (z_gd_n h4 hb).trans ?_
      rw [e1, z_b1_of]
      refine (z_gd_n h4 hb).trans ?_
      rw [e2, z_b1_of]
      refine (if_pos rfl).trans ?_
      exact ih (i + 3) _ _ _ _ _ _ _ _ _ _ _ _ _ _ _ _ _ _ _ _ _ _ _ _ _ _ _ _ _ _ _ _ _ _ _ _ _ _ _ _ _ _ _ _ _ _ _ _ _ _ _ _ _ _ _ _ _ _ (by omega) (by omega) ⟨n, k, hT, hG, hA⟩
    refine (if_neg q4).trans ?_
    by_cases q5 : op = 5
    · refine (if_pos q5).trans ?_
      rcases zm_fix hG (p0 (i + 1)) (p0 (i + 2)) A_count A_states Q_analysed with ⟨e1, e2⟩ | ⟨a, b, e1, e2, e3⟩
      · refine (z_gd_n h4 hb).trans ((z_gd_n h5 hb).trans ?_)
        rw [e1, z_b4_of]
        refine (z_gd_n h4 hb).trans ((z_gd_n h5 hb).trans ?_)
        rw [e2, z_b3_of]
        refine (if_pos rfl).trans ?_
        exact ih (i + 3) _ _ _ _ _ _ _ _ _ _ _ _ _ _ _ _ _ _ _ _ _ _ _ _ _ _ _ _ _ _ _ _ _ _ _ _ _ _ _ _ _ _ _ _ _ _ _ _ _ _ _ _ _ _ _ _ _ _ (by omega) (by omega) ⟨n, k, hT, hG, hA⟩
      · refine (z_gd_n h4 hb).trans ((z_gd_n h5 hb).trans ?_)
        rw [e1, z_b4_of]
        refine (z_gd_n h4 hb).trans ((z_gd_n h5 hb).trans ?_)
        rw [e2, z_b3_of]
        refine (if_pos rfl).trans ?_
        exact ih (i + 3) _ _ _ _ _ _ _ _ _ _ _ _ _ _ _ _ _ _ _ _ _ _ _ _ _ _ _ _ _ _ _ _ _ _ _ _ _ _ _ _ _ _ _ _ _ _ _ _ _ _ _ _ _ _ _ _ _ _ (by omega) (by omega) ⟨n, k, hT, e3, Or.inl ⟨rfl, rfl, rfl⟩⟩
    refine (if_neg q5).trans ?_
    by_cases q6 : op = 6
    · refine (if_pos q6).trans ?_
      obtain ⟨r, e1, e2⟩ := zm_value hG (p0 (i + 1)) (p0 (i + 2))
      refine (z_gd_n h4 hb).trans ((z_gd_n h5 hb).trans ?_)
      rw [e1, z_b1_of]
      refine (z_gd_n h4 hb).trans ((z_gd_n h5 hb).trans ?_)
      rw [e2, z_b1_of]
      refine (if_pos rfl).trans ?_
      exact ih (i + 3) _ _ _ _ _ _ _ _ _ _ _ _ _ _ _ _ _ _ _ _ _ _ _ _ _ _ _ _ _ _ _ _ _ _ _ _ _ _ _ _ _ _ _ _ _ _ _ _ _ _ _ _ _ _ _ _ _ _ (by omega) (by omega) ⟨n, k, hT, hG, hA⟩
    refine (if_neg q6).trans ?_
    by_cases q7 : op = 7
    · refine (if_pos q7).trans ?_
      obtain ⟨r, e1, e2⟩ := zm_next hG (p0 (i + 1))
      refine (z_gd_n h4 hb).trans ?_
      rw [e1, z_b1_of]
      refine (z_gd_n h4 hb).trans ?_
      rw [e2, z_b1_of]
      refine (if_pos rfl).trans ?_
      exact ih (i + 3) _ _ _ _ _ _ _ _ _ _ _ _ _ _ _ _ _ _ _ _ _ _ _ _ _ _ _ _ _ _ _ _ _ _ _ _ _ _ _ _ _ _ _ _ _ _ _ _ _ _ _ _ _ _ _ _ _ _ (by omega) (by omega) ⟨n, k, hT, hG, hA⟩
    refine (if_neg q7).trans ?_
    by_cases q8 : op = 8
    · refine (if_pos q8).trans ?_
      obtain ⟨r, a, b, c, d, e1, e2⟩ := zm_spread hG (p0 (i + 1)) C_numbers C_zeros C_ones C_nodes
      refine (z_gd_n h4 hb).trans ?_
      rw [e1, z_b5_of]
      refine (z_gd_n h4 hb).trans ?_
      rw [e2, z_b1_of]
      refine (if_pos rfl).trans ?_
      exact ih (i + 3) _ _ _ _ _ _ _ _ _ _ _ _ _ _ _ _ _ _ _ _ _ _ _ _ _ _ _ _ _ _ _ _ _ _ _ _ _ _ _ _ _ _ _ _ _ _ _ _ _ _ _ _ _ _ _ _ _ _ (by omega) (by omega) ⟨n, k, hT, hG, hA⟩
    refine (if_neg q8).trans ?_
    by_cases q9 : op = 9
    · refine (if_pos q9).trans ?_
      refine (z_gd_n h4 hb).trans ?_
      by_cases qa : p0 (i + 1) = 0
      · refine (if_pos qa).trans ?_
        unfold zf_L_law_357 zf_L_law_374
        rw [show nI i + (1 : Int32) = nI (i + 1) from nI_1 i, show nI i + (3 : Int32) = nI (i + 3) from nI_add i 3, nI_clamp (n := i + 1) (by omega)]
        rcases zm_analyse hG false A_genes A_count A_low A_high A_homes A_leasts A_states A_lowLeasts A_highLeasts Q_analysed Q_one Q_reachLow Q_reachHigh Q_attractors Q_leastOf with ⟨e1, e2⟩ | ⟨r, a1, a2, a3, a4, a5, a6, a7, a8, a9, b1, b2, b3, b4, b5, b6, e1, e2, e3⟩
        · rw [if_neg (show ¬ (false = true) by decide)] at e1 e2
          rw [e1, z_b10_of]
          refine (z_gd_n h4 hb).trans ((if_pos qa).trans ?_)
          rw [e2, z_b7_of]
          refine (if_pos rfl).trans ?_
          exact ih (i + 3) _ _ _ _ _ _ _ _ _ _ _ _ _ _ _ _ _ _ _ _ _ _ _ _ _ _ _ _ _ _ _ _ _ _ _ _ _ _ _ _ _ _ _ _ _ _ _ _ _ _ _ _ _ _ _ _ _ _ (by omega) (by omega) ⟨n, k, hT, hG, hA⟩
        · rw [if_neg (show ¬ (false = true) by decide)] at e1 e2
          rw [e1, z_b10_of]
          refine (z_gd_n h4 hb).trans ((if_pos qa).trans ?_)
          rw [e2, z_b7_of]
          refine (if_pos rfl).trans ?_
          exact ih (i + 3) _ _ _ _ _ _ _ _ _ _ _ _ _ _ _ _ _ _ _ _ _ _ _ _ _ _ _ _ _ _ _ _ _ _ _ _ _ _ _ _ _ _ _ _ _ _ _ _ _ _ _ _ _ _ _ _ _ _ (by omega) (by omega) ⟨n, k, hT, hG, e3⟩
      · refine (if_neg qa).trans ?_
        unfold zf_L_law_357 zf_L_law_374
        rw [show nI i + (1 : Int32) = nI (i + 1) from nI_1 i, show nI i + (3 : Int32) = nI (i + 3) from nI_add i 3, nI_clamp (n := i + 1) (by omega)]
        rcases zm_analyse hG true A_genes A_count A_low A_high A_homes A_leasts A_states A_lowLeasts A_highLeasts Q_analysed Q_one Q_reachLow Q_reachHigh Q_attractors Q_leastOf with ⟨e1, e2⟩ | ⟨r, a1, a2, a3, a4, a5, a6, a7, a8, a9, b1, b2, b3, b4, b5, b6, e1, e2, e3⟩
        · rw [if_pos (show true = true from rfl)] at e1 e2
          rw [e1, z_b10_of]
          refine (z_gd_n h4 hb).trans ((if_neg qa).trans ?_)
          rw [e2, z_b7_of]
          refine (if_pos rfl).trans ?_
          exact ih (i + 3) _ _ _ _ _ _ _ _ _ _ _ _ _ _ _ _ _ _ _ _ _ _ _ _ _ _ _ _ _ _ _ _ _ _ _ _ _ _ _ _ _ _ _ _ _ _ _ _ _ _ _ _ _ _ _ _ _ _ (by omega) (by omega) ⟨n, k, hT, hG, hA⟩
        · rw [if_pos (show true = true from rfl)] at e1 e2
          rw [e1, z_b10_of]
          refine (z_gd_n h4 hb).trans ((if_neg qa).trans ?_)
          rw [e2, z_b7_of]
          refine (if_pos rfl).trans ?_
          exact ih (i + 3) _ _ _ _ _ _ _ _ _ _ _ _ _ _ _ _ _ _ _ _ _ _ _ _ _ _ _ _ _ _ _ _ _ _ _ _ _ _ _ _ _ _ _ _ _ _ _ _ _ _ _ _ _ _ _ _ _ _ (by omega) (by omega) ⟨n, k, hT, hG, e3⟩
    refine (if_neg q9).trans ?_
    by_cases q10 : op = 10
    · refine (if_pos q10).trans ?_
      obtain ⟨r, e1, e2⟩ := zm_size hA hk (p0 (i + 1))
      refine (z_gd_n h4 hb).trans ?_
      rw [e1, z_b1_of]
      refine (z_gd_n h4 hb).trans ?_
      rw [e2, z_b1_of]
      refine (if_pos rfl).trans ?_
      exact ih (i + 3) _ _ _ _ _ _ _ _ _ _ _ _ _ _ _ _ _ _ _ _ _ _ _ _ _ _ _ _ _ _ _ _ _ _ _ _ _ _ _ _ _ _ _ _ _ _ _ _ _ _ _ _ _ _ _ _ _ _ (by omega) (by omega) ⟨n, k, hT, hG, hA⟩
    refine (if_neg q10).trans ?_
    by_cases q11 : op = 11
    · refine (if_pos q11).trans ?_
      obtain ⟨r, e1, e2⟩ := zm_least hA hk (p0 (i + 1))
      refine (z_gd_n h4 hb).trans ?_
      rw [e1, z_b1_of]
      refine (z_gd_n h4 hb).trans ?_
      rw [e2, z_b1_of]
      refine (if_pos rfl).trans ?_
      exact ih (i + 3) _ _ _ _ _ _ _ _ _ _ _ _ _ _ _ _ _ _ _ _ _ _ _ _ _ _ _ _ _ _ _ _ _ _ _ _ _ _ _ _ _ _ _ _ _ _ _ _ _ _ _ _ _ _ _ _ _ _ (by omega) (by omega) ⟨n, k, hT, hG, hA⟩
    refine (if_neg q11).trans ?_
    by_cases q12 : op = 12
    · refine (if_pos q12).trans ?_
      obtain ⟨r, e1, e2⟩ := zm_attractor hA hk (p0 (i + 1))
      refine (z_gd_n h4 hb).trans ?_
      rw [e1, z_b1_of]
      refine (z_gd_n h4 hb).trans ?_
      rw [e2, z_b1_of]
      refine (if_pos rfl).trans ?_
      exact ih (i + 3) _ _ _ _ _ _ _ _ _ _ _ _ _ _ _ _ _ _ _ _ _ _ _ _ _ _ _ _ _ _ _ _ _ _ _ _ _ _ _ _ _ _ _ _ _ _ _ _ _ _ _ _ _ _ _ _ _ _ (by omega) (by omega) ⟨n, k, hT, hG, hA⟩
    refine (if_neg q12).trans ?_
    by_cases q13 : op = 13
    · refine (if_pos q13).trans ?_
      obtain ⟨r, e1, e2⟩ := zm_basin hA hk (p0 (i + 1))
      refine (z_gd_n h4 hb).trans ?_
      rw [e1, z_b1_of]
      refine (z_gd_n h4 hb).trans ?_
      rw [e2, z_b1_of]
      refine (if_pos rfl).trans ?_
      exact ih (i + 3) _ _ _ _ _ _ _ _ _ _ _ _ _ _ _ _ _ _ _ _ _ _ _ _ _ _ _ _ _ _ _ _ _ _ _ _ _ _ _ _ _ _ _ _ _ _ _ _ _ _ _ _ _ _ _ _ _ _ (by omega) (by omega) ⟨n, k, hT, hG, hA⟩
    refine (if_neg q13).trans ?_
    by_cases q14 : op = 14
    · refine (if_pos q14).trans ?_
      obtain ⟨r, e1, e2⟩ := zm_only hA hk (p0 (i + 1))
      refine (z_gd_n h4 hb).trans ?_
      rw [e1, z_b1_of]
      refine (z_gd_n h4 hb).trans ?_
      rw [e2, z_b1_of]
      refine (if_pos rfl).trans ?_
      exact ih (i + 3) _ _ _ _ _ _ _ _ _ _ _ _ _ _ _ _ _ _ _ _ _ _ _ _ _ _ _ _ _ _ _ _ _ _ _ _ _ _ _ _ _ _ _ _ _ _ _ _ _ _ _ _ _ _ _ _ _ _ (by omega) (by omega) ⟨n, k, hT, hG, hA⟩
    refine (if_neg q14).trans ?_
    by_cases q15 : op = 15
    · refine (if_pos q15).trans ?_
      obtain ⟨r, a, b, c, d, e, f, g, h, e1, e2⟩ := zm_cubes hA hk (p0 (i + 1)) M_made M_count M_genes M_low M_high Q_open Q_givenTo Q_given
      refine (z_gd_n h4 hb).trans ?_
      rw [e1, z_b6_of]
      refine (z_gd_n h4 hb).trans ?_
      rw [e2, z_b4_of]
      refine (if_pos rfl).trans ?_
      exact ih (i + 3) _ _ _ _ _ _ _ _ _ _ _ _ _ _ _ _ _ _ _ _ _ _ _ _ _ _ _ _ _ _ _ _ _ _ _ _ _ _ _ _ _ _ _ _ _ _ _ _ _ _ _ _ _ _ _ _ _ _ (by omega) (by omega) ⟨n, k, hT, hG, hA⟩
    refine (if_neg q15).trans ?_
    by_cases q16 : op = 16
    · refine (if_pos q16).trans ?_
      obtain ⟨r, a, b, c, d, e, f, g, h, e1, e2⟩ := zm_cube hA hk (p0 (i + 1)) (p0 (i + 2)) M_made M_count M_genes M_low M_high Q_open Q_givenTo Q_given
      refine (z_gd_n h4 hb).trans ((z_gd_n h5 hb).trans ?_)
      rw [e1, z_b6_of]
      refine (z_gd_n h4 hb).trans ((z_gd_n h5 hb).trans ?_)
      rw [e2, z_b4_of]
      refine (if_pos rfl).trans ?_
      exact ih (i + 3) _ _ _ _ _ _ _ _ _ _ _ _ _ _ _ _ _ _ _ _ _ _ _ _ _ _ _ _ _ _ _ _ _ _ _ _ _ _ _ _ _ _ _ _ _ _ _ _ _ _ _ _ _ _ _ _ _ _ (by omega) (by omega) ⟨n, k, hT, hG, hA⟩
    refine (if_neg q16).trans ?_
    exact ih (i + 3) _ _ _ _ _ _ _ _ _ _ _ _ _ _ _ _ _ _ _ _ _ _ _ _ _ _ _ _ _ _ _ _ _ _ _ _ _ _ _ _ _ _ _ _ _ _ _ _ _ _ _ _ _ _ _ _ _ _ (by omega) (by omega) ⟨n, k, hT, hG, hA⟩
theorem zm_law0 {L : Nat} {p0 : Nat → Int32} (hL : L ≤ 1536) : zf_L_law_18 z_FU 0 L p0 (fun _ => 0) 0 0 (fun _ => 0) 0 (fun _ => 0) 0 (fun _ => 0) (fun _ => 0) 0 (fun _ => 0) (fun _ => 0) (fun _ => 0) (fun _ => 0) (fun _ => 0) 0 0 (fun _ => 0) (fun _ => 0) (fun _ => 0) (fun _ => 0) 0 0 0 (fun _ => 0) (fun _ => 0) (fun _ => 0) 0 (fun _ => 0) 0 0 0 0 0 (fun _ => 0) 0 (fun _ => 0) (fun _ => 0) (fun _ => 0) (fun _ => 0) 0 (fun _ => 0) 0 0 (fun _ => 0) 0 (fun _ => 0) (fun _ => 0) 0 0 0 (fun _ => 0) (fun _ => 0) 0 (fun _ => 0) 0 (fun _ => 0) (fun _ => 0) = some 1 :=
  zm_law hL z_FU 0 _ _ _ _ _ _ _ _ _ _ _ _ _ _ _ _ _ _ _ _ _ _ _ _ _ _ _ _ _ _ _ _ _ _ _ _ _ _ _ _ _ _ _ _ _ _ _ _ _ _ _ _ _ _ _ _ _ _ (by omega) (by unfold z_FU; omega) ⟨0, 0, ⟨by decide, rfl, rfl, fun i hi0 => absurd hi0 (by omega), fun i hi0 => absurd hi0 (by omega)⟩, ⟨by decide, rfl, rfl, fun g hg => absurd hg (by omega)⟩, Or.inl ⟨rfl, rfl, rfl⟩⟩
