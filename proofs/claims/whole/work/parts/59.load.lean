/-! ===== load ===== -/
theorem zQ_load_37 {n : Nat} {tx nn : Nat → Int32} {k : Nat} (hk : k ≤ 7) {lo hi : Nat → Int64} (ne ma : Int32) (mk : Nat → Int32) (va : Int32) (vl vh : Nat → Int64) (ru an : Int32) : ∀ m g fuel Q_names Q_fixed, g + m = k → m < fuel → ∃ N' F', (∀ i, i < g → N' i = Q_names i ∧ F' i = Q_fixed i) ∧ (∀ i, g ≤ i → i < k → N' i = nn i ∧ F' i = 2) ∧
    zf_Q_load_37 fuel (nI g) (nI n) tx (nI k) Q_names lo hi Q_fixed (nI k) nn ne ma mk va vl vh ru an = z_b12 (zf_Q_scan 1 (nI n) tx lo hi (nI k) nn ne ma mk va vl vh ru) fun _ l h fd n2 a b c d e g2 u => some (nI k, nI k, N', l, h, F', fd, n2, a, b, c, d, e, g2, u, 0) := by
  intro m
  induction m with
  | zero =>
    intro g fuel Q_names Q_fixed hg hf
    obtain ⟨fuel, rfl⟩ : ∃ f', fuel = f' + 1 := ⟨fuel - 1, by omega⟩
    refine ⟨Q_names, Q_fixed, fun i _ => ⟨rfl, rfl⟩, fun i h1 h2 => absurd h1 (by omega), ?_⟩
    rw [zf_Q_load_37, if_pos (nI_le (by omega) (by omega))]
  | succ m ih =>
    intro g fuel Q_names Q_fixed hg hf
    obtain ⟨fuel, rfl⟩ : ∃ f', fuel = f' + 1 := ⟨fuel - 1, by omega⟩
    obtain ⟨N', F', h1, h2, h3⟩ := ih (g + 1) fuel (upd Q_names g (nn g)) (upd Q_fixed g 2) (by omega) (by omega)
    refine ⟨N', F', ?_, ?_, ?_⟩
    · intro i hi0
      obtain ⟨y1, y2⟩ := h1 i (by omega)
      rw [y1, y2, pk_un (by omega), pk_un (by omega)]
      exact ⟨rfl, rfl⟩
    · intro i hi1 hi2
      by_cases z : i = g
      · subst z
        obtain ⟨y1, y2⟩ := h1 i (by omega)
        rw [y1, y2, pk_us, pk_us]
        exact ⟨rfl, rfl⟩
      · exact h2 i (by omega) hi2
    · rw [zf_Q_load_37, if_neg (nI_ge (by omega) (by omega)), nI_clamp (n := g) (by omega), show nI g + (1 : Int32) = nI (g + 1) from nI_1 g]
      simp only [z_gd_n (show g < 7 by omega) (show 7 < 2 ^ 31 by decide)]
      exact h3
theorem z_vl_congr {k : Nat} {f g : Nat → Int32} (h : ∀ i, i < k → f i = g i) : z_vl k f = z_vl k g := by
  funext c
  unfold z_vl
  rw [z_find_congr (g := g) (fun i _ hi0 => h i (by omega))]
theorem zkn_congr {k : Nat} {f g : Nat → Int32} (h : ∀ i, i < k → f i = g i) : zkn f k = zkn g k := by
  funext c
  unfold zkn
  rw [z_find_congr (g := g) (fun i _ hi0 => h i (by omega))]
theorem zI_T_tx {n : Nat} {ch : Nat → Int32} {len size : Int32} {tx : Nat → Int32} (I : zI_T n ch len size tx) : ∃ T, zTx T n ch ∧ zTx T n tx ∧ len = nI n ∧ size = nI n := by
  obtain ⟨h1, h2, h3, h4, h5⟩ := I
  have key : ∀ i, i < n → ch i = nI (ch i).toNatClampNeg ∧ 32 ≤ (ch i).toNatClampNeg ∧ (ch i).toNatClampNeg ≤ 126 := by
    intro i hi0
    obtain ⟨c, c1, c2, c3⟩ := h5 i hi0
    rw [c3, nI_clamp (by omega)]
    exact ⟨rfl, c1, c2⟩
  exact ⟨fun i => (ch i).toNatClampNeg, ⟨h1, key⟩, ⟨h1, fun i hi0 => by rw [← h4 i hi0]; exact key i hi0⟩, h2, h3⟩
theorem zm_load {n : Nat} {ch : Nat → Int32} {len size : Int32} {tx : Nat → Int32} (I : zI_T n ch len size tx)
    (S_at : Int32) (S_names : Nat → Int32) (S_count : Int32) (S_code : Nat → Int32) (S_codeLength : Int32) (S_ends S_firstUses : Nat → Int32) (R_count : Int32) (R_names R_fixed : Nat → Int32) (R_low R_high R_stack : Nat → Int64) (A_count A_states : Int32)
    (Q_genes : Int32) (Q_names : Nat → Int32) (Q_low Q_high : Nat → Int64) (Q_fixed : Nat → Int32) (Q_found : Int32) (Q_newNames : Nat → Int32) (Q_nested Q_marks : Int32) (Q_mark : Nat → Int32) (Q_values : Int32) (Q_valueLow Q_valueHigh : Nat → Int64) (Q_rules Q_analysed : Int32) :
    (∃ r s1 s2 s3 s4 s5 s6 s7 R_stack' q1 q2 q3 q4 q5 q6 q7 q8 q9,
      zf_N_load ch len S_at S_names S_count S_code S_codeLength S_ends S_firstUses R_count R_names R_fixed R_low R_high R_stack A_count A_states = some (r, s1, s2, s3, s4, s5, s6, s7, R_count, R_names, R_fixed, R_low, R_high, R_stack', A_count, A_states) ∧
      zf_Q_load size tx Q_genes Q_names Q_low Q_high Q_fixed Q_found Q_newNames Q_nested Q_marks Q_mark Q_values Q_valueLow Q_valueHigh Q_rules Q_analysed = some (r, Q_genes, Q_names, Q_low, Q_high, Q_fixed, q1, q2, q3, q4, q5, q6, q7, q8, q9, Q_analysed)) ∨
    (∃ k r s1 s2 s3 s4 s5 s6 s7 R_count' R_names' R_fixed' R_low' R_high' R_stack' Q_genes' Q_names' Q_low' Q_high' Q_fixed' q1 q2 q3 q4 q5 q6 q7 q8 q9,
      zf_N_load ch len S_at S_names S_count S_code S_codeLength S_ends S_firstUses R_count R_names R_fixed R_low R_high R_stack A_count A_states = some (r, s1, s2, s3, s4, s5, s6, s7, R_count', R_names', R_fixed', R_low', R_high', R_stack', 0, 0) ∧
      zf_Q_load size tx Q_genes Q_names Q_low Q_high Q_fixed Q_found Q_newNames Q_nested Q_marks Q_mark Q_values Q_valueLow Q_valueHigh Q_rules Q_analysed = some (r, Q_genes', Q_names', Q_low', Q_high', Q_fixed', q1, q2, q3, q4, q5, q6, q7, q8, q9, 0) ∧
      zI_G k R_count' R_names' R_fixed' R_low' R_high' Q_genes' Q_names' Q_low' Q_high' Q_fixed') := by
  obtain ⟨T, hC, hT, rfl, rfl⟩ := zI_T_tx I
  have h240 := hT.1
  obtain ⟨fu0, f1, f2⟩ := zm_fill 0 (N := 26) (by decide) S_firstUses
  have hfu : ∀ c, c < 26 → fu0 c = 0 := fun c hc => by rw [f2, if_pos hc]
  unfold zf_N_load zf_S_findFault zf_Q_load zf_Q_scan
  rw [f1, z_b1_of]
  rcases zm_readRules (fu0 := fu0) hT hC S_names S_code S_ends with ⟨j, nm, code, cl, en, fu, wf, x1, x2⟩ | ⟨p', a, b, c, d, e, g, x1, x2, x3⟩
  · have x20 := x2
    obtain ⟨⟨b1, b2, b3, b4, b5, b6⟩, c1, c2, c3⟩ := x20
    have hs : zsu T n 0 (false, fu0) = (true, fu) := b6.2
    obtain ⟨nn, so, pa, v, d1, d2⟩ := c2 Q_low Q_high (fun r => ∃ nn a b mk c vl vh ru, r = some (0, Q_low, Q_high, nI (j + 1), nn, a, b, mk, c, vl, vh, ru) ∧ ∀ i, i < j + 1 → nn i = nm i) Q_newNames
    obtain ⟨nn', y1, y2, y3, y4, y5, y6, y7, y8, y9⟩ := d2 (zr_fin hT (by omega) so pa v (fun a b mk c vl vh ru => ⟨nn, a, b, mk, c, vl, vh, ru, rfl, d1⟩)) Q_mark Q_valueLow Q_valueHigh trivial trivial
    have y8' : zf_Q_scan_24 z_FU 0 0 0 (nI n) tx Q_low Q_high 0 Q_newNames 0 0 Q_mark 0 Q_valueLow Q_valueHigh 0 = some (0, Q_low, Q_high, nI (j + 1), nn', y1, y2, y3, y4, y5, y6, y7) := y8
    have hu : zf_Q_unknown (nI n) tx (nI (j + 1)) nn' = some (nI (zuk T (zkn nm (j + 1)) n 0 false)) := by
      rw [← zkn_congr y9]
      exact zm_unknown_loop hT b1 nn' n 0 z_FU false (by omega) (by unfold z_FU; omega)
    rw [x1, z_b8_of, z_i1, y8', z_b12_of, z_i0, hu, z_b1_of]
    unfold zf_S_findStranger
    rcases zuk_iff (T := T) (kn := zkn nm (j + 1)) n 0 false fu0 (by omega) (fun c hc hc0 => absurd (hfu c hc) hc0) with ⟨u1, u2⟩ | ⟨q, c, u1, u2, u3, u4, u5, u6, u7⟩
    · rw [hs] at u2
      have e0 := zm_stranger_none (nm := nm) (fu := fu) b1 u2 26 0 z_FU rfl (by decide)
      have e0' : zf_S_findStranger_4 z_FU 0 0 nm (nI (j + 1)) fu = some 0 := e0
      rw [e0', z_b1_of, z_b8_of, z_i0, u1]
      obtain ⟨N', F', L', H', S', t1, t2, t3⟩ := zm_take_loop (wf := wf) b1 (by omega) b5 u2 (j + 1) 0 z_FU R_names R_fixed R_low R_high R_stack (by omega) (by unfold z_FU; omega)
      have t1' : zf_R_take nm (nI (j + 1)) code en R_count R_names R_fixed R_low R_high R_stack = some (nI (j + 1), N', F', L', H', S') := t1
      rw [t1', z_b6_of]
      unfold zf_A_forget
      rw [z_b2_of]
      unfold zf_Q_load_20
      rw [if_pos (show nI 0 ≤ 0 by decide)]
      obtain ⟨N2, F2, v1, v2, v3⟩ := zQ_load_37 (n := n) (tx := tx) (nn := nn') b1 (lo := Q_low) (hi := Q_high) y1 y2 y3 y4 y5 y6 y7 Q_analysed (j + 1) 0 z_FU Q_names Q_fixed (by omega) (by unfold z_FU; omega)
      have v3' : zf_Q_load_37 z_FU 0 (nI n) tx (nI (j + 1)) Q_names Q_low Q_high Q_fixed (nI (j + 1)) nn' y1 y2 y3 y4 y5 y6 y7 Q_analysed = _ := v3
      rw [v3']
      obtain ⟨so2, pa2, w2, g1, g2⟩ := c3 (j + 1) nn' Q_low Q_high (fun r => ∃ a b mk c vl vh ru, r = some (0, zLo wf (z_vl (j + 1) nn') (j + 1) Q_low, zHi wf (z_vl (j + 1) nn') (j + 1) Q_high, nI (j + 1), nn', a, b, mk, c, vl, vh, ru)) b1
      obtain ⟨z1, z2, z3, z4, z5, z6, z7, z8⟩ := g2 (zr_fin hT (by omega) so2 pa2 w2 (fun a b mk c vl vh ru => ⟨a, b, mk, c, vl, vh, ru, by rw [if_neg (by decide), if_neg (by decide), g1, zLo_s, zHi_s]⟩)) y3 y5 y6 trivial trivial
      have z8' : zf_Q_scan 1 (nI n) tx Q_low Q_high (nI (j + 1)) nn' y1 y2 y3 y4 y5 y6 y7 = some (0, zLo wf (z_vl (j + 1) nn') (j + 1) Q_low, zHi wf (z_vl (j + 1) nn') (j + 1) Q_high, nI (j + 1), nn', z1, z2, z3, z4, z5, z6, z7) := z8
      rw [z8', z_b12_of]
      refine Or.inr ⟨j + 1, nI (j + 1), _, _, _, _, _, _, _, _, _, _, _, _, _, _, _, _, _, _, _, _, _, _, _, _, _, _, _, rfl, rfl, b1, rfl, rfl, ?_⟩
      intro g hg
      obtain ⟨m1, m2, m3, m4⟩ := t3 g (by omega) hg
      obtain ⟨k1, k2⟩ := v2 g (by omega) hg
      refine ⟨by rw [m1, k1, y9 g hg], by rw [m2, k2], Or.inr (Or.inr m2), ?_, ?_⟩
      · rw [m3, z_vl_congr y9]
        unfold zLo
        rw [if_pos hg]
      · rw [m4, z_vl_congr y9]
        unfold zHi
        rw [if_pos hg]
    · rw [hs] at u6 u7
      have e0 := zm_stranger_some (nm := nm) (fu := fu) b1 u3 u4 u5 u6 u7 26 0 z_FU 0 rfl (by decide) (Or.inl rfl) (fun z => absurd z (by omega))
      have e0' : zf_S_findStranger_4 z_FU 0 0 nm (nI (j + 1)) fu = some (nI (q + 1)) := e0
      rw [e0', z_b1_of, z_b8_of, if_neg (nI_ne0 (by omega) (by omega)), u1]
      unfold zf_Q_load_20
      rw [if_neg (nI_nle (by omega) (by omega))]
      exact Or.inl ⟨_, _, _, _, _, _, _, _, _, _, _, _, _, _, _, _, _, _, rfl, rfl⟩
  · obtain ⟨k, f, y1, y2, y3, y4, y5, y6, y7, y8⟩ := x3 Q_low Q_high (fun r => ∃ k f a b mk c vl vh ru, r = some (nI (p' + 1), Q_low, Q_high, k, f, a, b, mk, c, vl, vh, ru)) Q_newNames (fun k f a b mk c vl vh ru => ⟨nI k, f, a, b, mk, c, vl, vh, ru, rfl⟩) Q_mark Q_valueLow Q_valueHigh trivial trivial
    have y8' : zf_Q_scan_24 z_FU 0 0 0 (nI n) tx Q_low Q_high 0 Q_newNames 0 0 Q_mark 0 Q_valueLow Q_valueHigh 0 = some (nI (p' + 1), Q_low, Q_high, k, f, y1, y2, y3, y4, y5, y6, y7) := y8
    rw [x1, z_b8_of, z_i0, z_b8_of, y8', z_b12_of, show nI p' + (1 : Int32) = nI (p' + 1) from nI_1 p', if_neg (nI_ne0 (by omega) (by omega)), if_neg (nI_ne0 (by omega) (by omega))]
    unfold zf_Q_load_20
    rw [if_neg (nI_nle (by omega) (by omega))]
    exact Or.inl ⟨_, _, _, _, _, _, _, _, _, _, _, _, _, _, _, _, _, _, rfl, rfl⟩
