/-! ===== cubes and cube of both ===== -/
section
variable {k : Nat} {A_genes A_count : Int32} {A_low A_high : Nat → Int64} {A_homes A_leasts : Nat → Int32} {A_states : Int32} {ll lh : Int64} {an : Int32} {rl rh : Nat → Int64} {Qc : Int32} {Ql : Nat → Int32}
theorem z_lv0 (f : Nat → Bool) (n : Nat) : z_lv f n 0 0 0 := ⟨by decide, by decide, fun g hg => absurd hg (Nat.not_lt_zero g), fun s _ _ => by rw [Nat.pow_zero, Nat.one_mul, Nat.div_one, Nat.zero_add]⟩
theorem zm_qlook (hk : k ≤ 7) {x v : Nat} (hx : x < 128) (hv : v < 128) (hl : Ql x = nI v) (x2 o : Int32) (gt gv : Nat → Int32) : ∃ o' gt' gv', zf_Q_look (nI x) x2 (nI k) rl rh Ql o gt gv = some (z_wk x2 0 (z_cb (z_R rl rh v) k k 0 0 0), o', gt', gv') := by
  have p2 := (z_pow k hk).2.1
  unfold zf_Q_look
  rw [show zf_Q_later (0 : Int32) (0 : Int32) (0 : Int32) gt gv = some (nI (0 + 1), upd gt 0 (nI 0), upd gv 0 (nI 0)) from zm_later (c := 0) (j := 0) (D := 0) (by decide), z_b3_of]
  have hp : 2 ^ (k + 1) = 2 ^ k * 2 := Nat.pow_succ 2 k
  obtain ⟨o', gt', gv', e⟩ := zm_look (x2 := x2) (rl := rl) (rh := rh) hk hx hv hl z_FU [(0, 0, 0)] 0 (upd gt 0 (nI 0)) (upd gv 0 (nI 0)) (by
    show (2 ^ (k - 0 + 1) - 1) + 0 < z_FU
    rw [Nat.sub_zero]
    unfold z_FU
    omega) (fun q hq => by
    rcases List.mem_cons.mp hq with rfl | hq
    · exact z_lv0 _ _
    · cases hq) ⟨Nat.zero_le k, trivial⟩ ⟨pk_us, pk_us, trivial⟩
  refine ⟨o', gt', gv', ?_⟩
  have e2 : z_lst (z_R rl rh v) k [(0, 0, 0)] = z_cb (z_R rl rh v) k k 0 0 0 := by
    show z_cb (z_R rl rh v) k (k - 0) 0 0 0 ++ [] = _
    rw [List.append_nil, Nat.sub_zero]
  rw [e2] at e
  exact e
/-- the cubes of attractor x, or none -/
theorem zm_made (I : zI_A k A_genes A_count A_low A_high A_homes A_leasts A_states ll lh an rl rh Qc Ql) (hk : k ≤ 7) (x : Int32) (M_made : Nat → Int32) (M_count M_genes : Int32) (M_low M_high : Int64) :
    (zf_N_makeCubes x A_genes A_count A_low A_high A_leasts M_made M_count M_genes M_low M_high = some (M_made, 0, M_genes, M_low, M_high) ∧ zf_Q_isAttractor x an Qc = some 0) ∨
    ∃ j s g l h, j < 128 ∧ x = nI j ∧ s < 2 ^ k ∧ Ql j = nI s ∧ zf_Q_isAttractor x an Qc = some 1 ∧ z_R rl rh s = z_R A_low A_high s ∧ (z_cb (z_R A_low A_high s) k k 0 0 0).length ≤ 128 ∧
      zf_N_makeCubes x A_genes A_count A_low A_high A_leasts M_made M_count M_genes M_low M_high = some (z_lay M_made 0 (z_cb (z_R A_low A_high s) k k 0 0 0), nI (z_cb (z_R A_low A_high s) k k 0 0 0).length, g, l, h) := by
  have p2 := (z_pow k hk).2.1
  unfold zf_N_makeCubes
  rcases zm_att I hk x with ⟨e1, e2⟩ | ⟨j, s, hj, rfl, hs, a1, a2, a3, a4, e1, e2, rfl, hk0, rfl, hst, hR, hw, g2, g4⟩
  · refine Or.inl ⟨?_, e2⟩
    rw [e1, z_b1_of, z_i0]
    rfl
  · refine Or.inr ⟨j, s, nI k, A_low s, A_high s, hj, rfl, hs, a4, e2, funext fun t => z_R_same hw hs, ?_, ?_⟩
    · have := z_cb_len (z_R A_low A_high s) k k 0 0 0
      omega
    · rw [e1, z_b1_of, z_i1, z_gd_n hj (by decide), nI_clamp (n := j) (by omega), a3, z_gd_n (show s < 128 by omega) (by decide), z_gd_n (show s < 128 by omega) (by decide), nI_clamp (n := s) (by omega)]
      unfold zf_M_make
      have e := zm_split (A_low s) (A_high s) hk k z_DEP 0 0 0 0 M_made (by omega) (by unfold z_DEP; omega) (by decide) (by omega)
      rw [Nat.zero_add] at e
      rw [show zf_M_split z_DEP (0 : Int32) (0 : Int32) (0 : Int32) M_made (0 : Int32) (nI k) (A_low s) (A_high s) = _ from e, z_b2_of, z_b5_of]
      rfl
theorem zm_cubes (I : zI_A k A_genes A_count A_low A_high A_homes A_leasts A_states ll lh an rl rh Qc Ql) (hk : k ≤ 7) (x : Int32) (M_made : Nat → Int32) (M_count M_genes : Int32) (M_low M_high : Int64) (o : Int32) (gt gv : Nat → Int32) :
    ∃ r a b c d e o' gt' gv', zf_N_cubes x A_genes A_count A_low A_high A_leasts M_made M_count M_genes M_low M_high = some (r, a, b, c, d, e) ∧ zf_Q_cubes x (nI k) an rl rh Qc Ql o gt gv = some (r, o', gt', gv') := by
  have p2 := (z_pow k hk).2.1
  unfold zf_N_cubes zf_Q_cubes
  rcases zm_made I hk x M_made M_count M_genes M_low M_high with ⟨e1, e2⟩ | ⟨j, s, g, l, h, hj, rfl, hs, hl, e2, hf, hlen, e1⟩
  · rw [e1, e2, z_b5_of, z_b1_of, z_i0]
    exact ⟨_, _, _, _, _, _, _, _, _, rfl, rfl⟩
  · obtain ⟨o', gt', gv', e3⟩ := zm_qlook (rl := rl) (rh := rh) hk hj (show s < 128 by omega) hl (-1) o gt gv
    rw [e1, e2, z_b5_of, z_b1_of, z_i1, e3, z_b4_of, hf, z_wk_all _ 0 (by omega), Nat.zero_add]
    exact ⟨_, _, _, _, _, _, _, _, _, rfl, rfl⟩
theorem zm_cube (I : zI_A k A_genes A_count A_low A_high A_homes A_leasts A_states ll lh an rl rh Qc Ql) (hk : k ≤ 7) (x x2 : Int32) (M_made : Nat → Int32) (M_count M_genes : Int32) (M_low M_high : Int64) (o : Int32) (gt gv : Nat → Int32) :
    ∃ r a b c d e o' gt' gv', zf_N_cube x x2 A_genes A_count A_low A_high A_leasts M_made M_count M_genes M_low M_high = some (r, a, b, c, d, e) ∧ zf_Q_cube x x2 (nI k) an rl rh Qc Ql o gt gv = some (r, o', gt', gv') := by
  have p2 := (z_pow k hk).2.1
  unfold zf_N_cube zf_Q_cube
  rcases zm_made I hk x M_made M_count M_genes M_low M_high with ⟨e1, e2⟩ | ⟨j, s, g, l, h, hj, rfl, hs, hl, e2, hf, hlen, e1⟩
  · rw [e1, e2, z_b5_of, z_b1_of, z_i0]
    by_cases q : x2 < 0
    · rw [if_pos q]
      exact ⟨_, _, _, _, _, _, _, _, _, rfl, rfl⟩
    · rw [if_neg q, if_pos (Int32.not_lt.mp q)]
      exact ⟨_, _, _, _, _, _, _, _, _, rfl, rfl⟩
  · rw [e1, e2, z_b5_of, z_b1_of, z_i1]
    by_cases q : x2 < 0
    · rw [if_pos q, if_pos q]
      exact ⟨_, _, _, _, _, _, _, _, _, rfl, rfl⟩
    · rw [if_neg q, if_neg q]
      obtain ⟨i, hi, rfl⟩ := nI_of q
      obtain ⟨o', gt', gv', e3⟩ := zm_qlook (rl := rl) (rh := rh) hk hj (show s < 128 by omega) hl (nI i) o gt gv
      rw [e3, z_b4_of, hf, z_wk_at hi _ 0 (Nat.zero_le i) (by omega), Nat.sub_zero]
      by_cases w : i < (z_cb (z_R A_low A_high s) k k 0 0 0).length
      · rw [if_pos w, if_neg (fun z => absurd ((nI_leI (by omega) (by omega)).mp z) (by omega)), z_gd_n (by omega) (by decide), nI_clamp (by omega)]
        have e4 := z_lay_at M_made 0 (z_cb (z_R A_low A_high s) k k 0 0 0) w
        rw [Nat.zero_add] at e4
        rw [e4]
        exact ⟨_, _, _, _, _, _, _, _, _, rfl, rfl⟩
      · rw [if_neg w, if_pos ((nI_leI (by omega) (by omega)).mpr (by omega))]
        exact ⟨_, _, _, _, _, _, _, _, _, rfl, rfl⟩
end
