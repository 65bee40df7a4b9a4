theorem z_nth {f : Nat → Bool} {n j : Nat} (h : j < z_cnt f n) : ∃ s, s < n ∧ f s = true ∧ z_cnt f s = j := by
  induction n with
  | zero => exact absurd h (Nat.not_lt_zero j)
  | succ n ih =>
    by_cases q : j < z_cnt f n
    · obtain ⟨s, a, b, c⟩ := ih q
      exact ⟨s, by omega, b, c⟩
    · have h' : j < z_cnt f n + if f n then 1 else 0 := h
      cases hf : f n with
      | false =>
        rw [hf, if_neg (by decide)] at h'
        omega
      | true =>
        rw [hf, if_pos (by rfl)] at h'
        exact ⟨n, by omega, hf, by omega⟩
theorem z_cnt_one {f : Nat → Bool} {n s : Nat} (hs : s < n) (hf : f s = true) : z_cnt f n = 1 ↔ ∀ t, t < n → f t = true → t = s := by
  induction n with
  | zero => omega
  | succ n ih =>
    show z_cnt f n + (if f n then 1 else 0) = 1 ↔ _
    by_cases q : s = n
    · subst q
      rw [hf, if_pos (by rfl)]
      constructor
      · intro h t ht w
        by_cases z : t = s
        · exact z
        · have := z_cnt_lt2 (show t < s by omega) w
          omega
      · intro h
        rw [z_cnt_none (fun t ht => by
          cases w : f t with
          | false => rfl
          | true => have := h t (by omega) w; omega)]
    · have i1 := ih (by omega)
      have i2 := z_cnt_lt2 (show s < n by omega) hf
      cases w : f n with
      | true =>
        rw [if_pos (by rfl)]
        exact ⟨fun h => by omega, fun h => by have := h n (by omega) w; omega⟩
      | false =>
        rw [if_neg (by decide), Nat.add_zero, i1]
        constructor
        · intro h t ht v
          by_cases z : t = n
          · rw [z, w] at v
            cases v
          · exact h t (by omega) v
        · exact fun h t ht => h t (by omega)
theorem z_rb_cnt (lo hi : Int64) : z_cnt (z_bt lo) 64 + z_cnt (z_bt hi) 64 = z_cnt (z_rb lo hi) 128 := by
  have h1 : z_cnt (z_rb lo hi) 64 = z_cnt (z_bt lo) 64 := z_cnt_congr (fun i hi => by unfold z_rb; rw [if_pos hi])
  have h2 : z_cnt (fun i => z_rb lo hi (64 + i)) 64 = z_cnt (z_bt hi) 64 := z_cnt_congr (fun i hi => by unfold z_rb; rw [if_neg (by omega), Nat.add_sub_cancel_left])
  rw [show 128 = 64 + 64 from rfl, z_cnt_add, h1, h2]
theorem z_cnt_cut {f : Nat → Bool} {N : Nat} (hN : N ≤ 128) (h : ∀ t, t < 128 → f t = true → t < N) : z_cnt f 128 = z_cnt f N := by
  obtain ⟨d, hd⟩ : ∃ d, 128 = N + d := ⟨128 - N, by omega⟩
  rw [hd, z_cnt_add, z_cnt_none (f := fun i => f (N + i)) (fun i hi => by
    cases q : f (N + i) with
    | false => rfl
    | true => have := h (N + i) (by omega) q; omega)]
  rfl
section
variable {k : Nat} {A_genes A_count : Int32} {A_low A_high : Nat → Int64} {A_homes A_leasts : Nat → Int32} {A_states : Int32} {ll lh : Int64} {an : Int32} {rl rh : Nat → Int64} {Qc : Int32} {Ql : Nat → Int32}
/-- attractor x is there, or isn't -/
theorem zm_att (I : zI_A k A_genes A_count A_low A_high A_homes A_leasts A_states ll lh an rl rh Qc Ql) (hk : k ≤ 7) (x : Int32) :
    (zf_A_hasAttractor x A_count = some 0 ∧ zf_Q_isAttractor x an Qc = some 0) ∨
    ∃ j s, j < 128 ∧ x = nI j ∧ s < 2 ^ k ∧ z_att (z_R A_low A_high) (2 ^ k) s = true ∧ z_cnt (z_att (z_R A_low A_high) (2 ^ k)) s = j ∧ A_leasts j = nI s ∧ Ql j = nI s ∧ zf_A_hasAttractor x A_count = some 1 ∧ zf_Q_isAttractor x an Qc = some 1 ∧
      (an = 1 ∧ 0 < k ∧ A_genes = nI k ∧ A_states = nI (2 ^ k) ∧ z_pre (z_R A_low A_high) (2 ^ k) ∧ (∀ s, s < 2 ^ k → A_low s = rl s ∧ A_high s = rh s) ∧ z_Ls (z_R A_low A_high) (2 ^ k) (2 ^ k) Qc Ql ∧ z_Lb (z_R A_low A_high) (2 ^ k) (2 ^ k) ll lh) := by
  obtain ⟨p1, p2, p3⟩ := z_pow k hk
  unfold zf_A_hasAttractor zf_Q_isAttractor
  rcases I with ⟨rfl, -, rfl⟩ | ⟨rfl, hk0, hg, hst, hR, hw, g1, g2, g3, g4⟩
  · refine Or.inl ⟨?_, by rw [if_pos (by rfl), z_gb0]⟩
    by_cases h : x < 0
    · rw [if_pos h, z_gb0]
    · rw [if_neg h, if_pos (Int32.not_lt.mp h), z_gb0]
  · have hc := z_cnt_le (z_att (z_R A_low A_high) (2 ^ k)) (2 ^ k)
    rw [z_i1, g1.1, g2.1]
    rcases z_ix x (show z_cnt (z_att (z_R A_low A_high) (2 ^ k)) (2 ^ k) < 2 ^ 31 by omega) with ⟨j, hj, rfl⟩ | h | ⟨h1, h2⟩
    · obtain ⟨s, a1, a2, a3⟩ := z_nth hj
      refine Or.inr ⟨j, s, by omega, rfl, a1, a2, a3, ?_, ?_, ?_, ?_, rfl, hk0, hg, hst, hR, hw, ⟨rfl, g2.2⟩, g4⟩
      · rw [← a3]
        exact g1.2 s a1 a2
      · rw [← a3]
        exact g2.2 s a1 a2
      · rw [if_neg (nI_pos (by omega)), if_neg (fun q => absurd ((nI_leI (by omega) (by omega)).mp q) (by omega)), z_gb1]
      · rw [if_neg (nI_pos (by omega)), if_neg (fun q => absurd ((nI_leI (by omega) (by omega)).mp q) (by omega)), z_gb1]
    · exact Or.inl ⟨by rw [if_pos h, z_gb0], by rw [if_pos h, z_gb0]⟩
    · exact Or.inl ⟨by rw [if_neg h1, if_pos h2, z_gb0], by rw [if_neg h1, if_pos h2, z_gb0]⟩
theorem zm_least (I : zI_A k A_genes A_count A_low A_high A_homes A_leasts A_states ll lh an rl rh Qc Ql) (hk : k ≤ 7) (x : Int32) : ∃ r, zf_N_least x A_count A_leasts = some r ∧ zf_Q_least x an Qc Ql = some r := by
  unfold zf_N_least zf_Q_least
  rcases zm_att I hk x with ⟨e1, e2⟩ | ⟨j, s, hj, rfl, hs, a1, a2, a3, a4, e1, e2, -⟩
  · rw [e1, e2, z_b1_of, z_b1_of, z_i0, z_i0]
    exact ⟨_, rfl, rfl⟩
  · rw [e1, e2, z_b1_of, z_b1_of, z_i1, z_i1, z_gd_n hj (by decide), z_gd_n hj (by decide), nI_clamp (by omega), a3, a4]
    exact ⟨_, rfl, rfl⟩
end
/-! ===== size and basin: how many states ===== -/
theorem zm_qsize_loop (rl rh : Nat → Int64) (Ql : Nat → Int32) {k j s : Nat} {Qc : Int32} (hk : k ≤ 7) (hj : j < 128) (hs : s < 2 ^ k) (hl : Ql j = nI s) (hia : zf_Q_isAttractor (nI j) 1 Qc = some 1) :
    ∀ m i n, i + m = 2 ^ k → m < n → zf_Q_size_4 n (nI j) (nI (z_cnt (z_R rl rh s) i)) (nI i) (nI k) 1 rl rh Qc Ql = some (nI (z_cnt (z_R rl rh s) (2 ^ k))) := by
  obtain ⟨p1, p2, p3⟩ := z_pow k hk
  intro m
  induction m with
  | zero =>
    intro i n hi0 hn
    obtain ⟨n, rfl⟩ : ∃ n', n = n' + 1 := ⟨n - 1, by omega⟩
    rw [zf_Q_size_4, p1, if_pos ((nI_leI (by omega) (by omega)).mpr (by omega)), show i = 2 ^ k by omega]
  | succ m ih =>
    intro i n hi0 hn
    obtain ⟨n, rfl⟩ : ∃ n', n = n' + 1 := ⟨n - 1, by omega⟩
    rw [zf_Q_size_4, p1, if_neg (fun q => absurd ((nI_leI (by omega) (by omega)).mp q) (by omega)), hia, z_b1_of, if_neg (by decide)]
    unfold zf_Q_in zf_Q_size_37
    rw [z_gd_n hj (by decide), nI_clamp (by omega), hl, zm_qleads rl rh (by omega) (by omega), z_b1_of, show nI i + (1 : Int32) = nI (i + 1) from nI_1 i]
    have nx := ih (i + 1) n (by omega) (by omega)
    have ec : z_cnt (z_R rl rh s) (i + 1) = z_cnt (z_R rl rh s) i + if z_R rl rh s i then 1 else 0 := rfl
    cases q : z_R rl rh s i with
    | true =>
      rw [q, if_pos (by rfl)] at ec
      rw [if_pos (by rfl), z_gb1, z_b1_of, if_neg (by decide), show nI (z_cnt (z_R rl rh s) i) + (1 : Int32) = nI (z_cnt (z_R rl rh s) (i + 1)) from by rw [ec]; exact nI_1 _]
      exact nx
    | false =>
      rw [q, if_neg (by decide), Nat.add_zero] at ec
      rw [if_neg (by decide), z_gb0, z_b1_of, if_pos (by rfl), show nI (z_cnt (z_R rl rh s) i) + (0 : Int32) = nI (z_cnt (z_R rl rh s) (i + 1)) from by rw [ec]; exact nI_add _ 0]
      exact nx
theorem zm_qbasin_loop (rl rh : Nat → Int64) (Ql : Nat → Int32) {k j s : Nat} {Qc : Int32} (hk : k ≤ 7) (hj : j < 128) (hs : s < 2 ^ k) (hl : Ql j = nI s) (hia : zf_Q_isAttractor (nI j) 1 Qc = some 1) :
    ∀ m i n, i + m = 2 ^ k → m < n → zf_Q_basin_4 n (nI j) (nI (z_cnt (fun t => z_R rl rh t s) i)) (nI i) (nI k) 1 rl rh Qc Ql = some (nI (z_cnt (fun t => z_R rl rh t s) (2 ^ k))) := by
  obtain ⟨p1, p2, p3⟩ := z_pow k hk
  intro m
  induction m with
  | zero =>
    intro i n hi0 hn
    obtain ⟨n, rfl⟩ : ∃ n', n = n' + 1 := ⟨n - 1, by omega⟩
    rw [zf_Q_basin_4, p1, if_pos ((nI_leI (by omega) (by omega)).mpr (by omega)), show i = 2 ^ k by omega]
  | succ m ih =>
    intro i n hi0 hn
    obtain ⟨n, rfl⟩ : ∃ n', n = n' + 1 := ⟨n - 1, by omega⟩
    rw [zf_Q_basin_4, p1, if_neg (fun q => absurd ((nI_leI (by omega) (by omega)).mp q) (by omega)), hia, z_b1_of, if_neg (by decide)]
    unfold zf_Q_basin_42
    rw [z_gd_n hj (by decide), nI_clamp (by omega), hl, zm_qleads rl rh (by omega) (by omega), z_b1_of, show nI i + (1 : Int32) = nI (i + 1) from nI_1 i]
    have nx := ih (i + 1) n (by omega) (by omega)
    have ec : z_cnt (fun t => z_R rl rh t s) (i + 1) = z_cnt (fun t => z_R rl rh t s) i + if z_R rl rh i s then 1 else 0 := rfl
    cases q : z_R rl rh i s with
    | true =>
      rw [q, if_pos (by rfl)] at ec
      rw [if_neg (by decide), show nI (z_cnt (fun t => z_R rl rh t s) i) + (1 : Int32) = nI (z_cnt (fun t => z_R rl rh t s) (i + 1)) from by rw [ec]; exact nI_1 _]
      exact nx
    | false =>
      rw [q, if_neg (by decide), Nat.add_zero] at ec
      rw [if_pos (by rfl), show nI (z_cnt (fun t => z_R rl rh t s) i) + (0 : Int32) = nI (z_cnt (fun t => z_R rl rh t s) (i + 1)) from by rw [ec]; exact nI_add _ 0]
      exact nx
theorem zm_basin_loop (lo hi : Nat → Int64) (L : Nat → Int32) {N j s : Nat} (hN : N ≤ 128) (hj : j < 128) (hs : s < N) (hl : L j = nI s) :
    ∀ m i n, i + m = N → m < n → zf_A_countLeading_4 n (nI j) (nI (z_cnt (fun t => z_R lo hi t s) i)) (nI i) lo hi L (nI N) = some (nI (z_cnt (fun t => z_R lo hi t s) N)) := by
  intro m
  induction m with
  | zero =>
    intro i n hi0 hn
    obtain ⟨n, rfl⟩ : ∃ n', n = n' + 1 := ⟨n - 1, by omega⟩
    rw [zf_A_countLeading_4, if_pos ((nI_leI (by omega) (by omega)).mpr (by omega)), show i = N by omega]
  | succ m ih =>
    intro i n hi0 hn
    obtain ⟨n, rfl⟩ : ∃ n', n = n' + 1 := ⟨n - 1, by omega⟩
    rw [zf_A_countLeading_4, if_neg (fun q => absurd ((nI_leI (by omega) (by omega)).mp q) (by omega)), z_gd_n hj (by decide), nI_clamp (by omega), hl, zm_leads lo hi (by omega) (by omega), z_b1_of, show nI i + (1 : Int32) = nI (i + 1) from nI_1 i]
    have nx := ih (i + 1) n (by omega) (by omega)
    have ec : z_cnt (fun t => z_R lo hi t s) (i + 1) = z_cnt (fun t => z_R lo hi t s) i + if z_R lo hi i s then 1 else 0 := rfl
    cases q : z_R lo hi i s with
    | true =>
      rw [q, if_pos (by rfl)] at ec
      rw [if_neg (by decide), show nI (z_cnt (fun t => z_R lo hi t s) i) + (1 : Int32) = nI (z_cnt (fun t => z_R lo hi t s) (i + 1)) from by rw [ec]; exact nI_1 _]
      exact nx
    | false =>
      rw [q, if_neg (by decide), Nat.add_zero] at ec
      have e3 : nI (z_cnt (fun t => z_R lo hi t s) i) = nI (z_cnt (fun t => z_R lo hi t s) (i + 1)) := by rw [ec]; rfl
      rw [if_pos (by rfl), e3]
      exact nx
