section
variable {k : Nat} {A_genes A_count : Int32} {A_low A_high : Nat → Int64} {A_homes A_leasts : Nat → Int32} {A_states : Int32} {ll lh : Int64} {an : Int32} {rl rh : Nat → Int64} {Qc : Int32} {Ql : Nat → Int32}
theorem z_R_same {s t : Nat} (hw : ∀ s, s < 2 ^ k → A_low s = rl s ∧ A_high s = rh s) (hs : s < 2 ^ k) : z_R rl rh s t = z_R A_low A_high s t := by
  unfold z_R
  rw [(hw s hs).1, (hw s hs).2]
theorem zm_size (I : zI_A k A_genes A_count A_low A_high A_homes A_leasts A_states ll lh an rl rh Qc Ql) (hk : k ≤ 7) (x : Int32) : ∃ r, zf_N_size x A_count A_low A_high A_leasts = some r ∧ zf_Q_size x (nI k) an rl rh Qc Ql = some r := by
  obtain ⟨p1, p2, p3⟩ := z_pow k hk
  unfold zf_N_size zf_Q_size
  rcases zm_att I hk x with ⟨e1, e2⟩ | ⟨j, s, hj, rfl, hs, a1, a2, a3, a4, e1, e2, rfl, hk0, hg, hst, hR, hw, g2, g4⟩
  · refine ⟨0, ?_, ?_⟩
    · rw [e1, z_b1_of, if_pos (by rfl)]
    · obtain ⟨n, hn⟩ : ∃ n, z_FU = n + 1 := ⟨19999, rfl⟩
      rw [hn, zf_Q_size_4, p1, if_neg (nI_nle (by omega) (by omega)), e2, z_b1_of, if_pos (by rfl)]
  · refine ⟨nI (z_cnt (z_R A_low A_high s) (2 ^ k)), ?_, ?_⟩
    · rw [e1, z_b1_of, if_neg (by decide)]
      unfold zf_A_countStates
      rw [z_gd_n hj (by decide), nI_clamp (n := j) (by omega), a3, z_gd_n (show s < 128 by omega) (by decide), nI_clamp (n := s) (by omega), zm_bitCount, z_b1_of, z_gd_n (show s < 128 by omega) (by decide), zm_bitCount, z_b1_of, nI_add, z_rb_cnt]
      rw [← z_cnt_cut (f := z_R A_low A_high s) p2 (fun t ht q => hR.2.2 s t hs ht q)]
      rfl
    · have e := zm_qsize_loop rl rh Ql hk hj hs a4 e2 (2 ^ k) 0 z_FU (by omega) (by unfold z_FU; omega)
      rw [z_cnt_congr (n := 2 ^ k) (f := z_R rl rh s) (g := z_R A_low A_high s) (fun t _ => z_R_same hw hs)] at e
      exact e
theorem zm_basin (I : zI_A k A_genes A_count A_low A_high A_homes A_leasts A_states ll lh an rl rh Qc Ql) (hk : k ≤ 7) (x : Int32) : ∃ r, zf_N_basin x A_count A_low A_high A_leasts A_states = some r ∧ zf_Q_basin x (nI k) an rl rh Qc Ql = some r := by
  obtain ⟨p1, p2, p3⟩ := z_pow k hk
  unfold zf_N_basin zf_Q_basin
  rcases zm_att I hk x with ⟨e1, e2⟩ | ⟨j, s, hj, rfl, hs, a1, a2, a3, a4, e1, e2, rfl, hk0, hg, rfl, hR, hw, g2, g4⟩
  · refine ⟨0, ?_, ?_⟩
    · rw [e1, z_b1_of, if_pos (by rfl)]
    · obtain ⟨n, hn⟩ : ∃ n, z_FU = n + 1 := ⟨19999, rfl⟩
      rw [hn, zf_Q_basin_4, p1, if_neg (nI_nle (by omega) (by omega)), e2, z_b1_of, if_pos (by rfl)]
  · refine ⟨nI (z_cnt (fun t => z_R A_low A_high t s) (2 ^ k)), ?_, ?_⟩
    · rw [e1, z_b1_of, if_neg (by decide)]
      unfold zf_A_countLeading
      have e := zm_basin_loop A_low A_high A_leasts p2 hj hs a3 (2 ^ k) 0 z_FU (by omega) (by unfold z_FU; omega)
      rw [show zf_A_countLeading_4 z_FU (nI j) (0 : Int32) (0 : Int32) A_low A_high A_leasts (nI (2 ^ k)) = some _ from e, z_b1_of]
    · have e := zm_qbasin_loop rl rh Ql hk hj hs a4 e2 (2 ^ k) 0 z_FU (by omega) (by unfold z_FU; omega)
      rw [z_cnt_congr (n := 2 ^ k) (f := fun t => z_R rl rh t s) (g := fun t => z_R A_low A_high t s) (fun t ht => z_R_same hw ht)] at e
      exact e
theorem zm_attr_loop {t : Nat} (hk : k ≤ 7) (hk0 : 0 < k) (ht : t < 2 ^ k) (g2 : z_Ls (z_R A_low A_high) (2 ^ k) (2 ^ k) Qc Ql) (hw : ∀ s, s < 2 ^ k → A_low s = rl s ∧ A_high s = rh s) (h : Int32)
    (h1 : ∀ s, s < 2 ^ k → z_att (z_R A_low A_high) (2 ^ k) s = true → z_R A_low A_high s t = true → h = nI (z_cnt (z_att (z_R A_low A_high) (2 ^ k)) s)) (h2 : (∀ s, s < 2 ^ k → z_att (z_R A_low A_high) (2 ^ k) s = true → z_R A_low A_high s t = false) → h = -1) :
    ∀ m i n, i + m = z_cnt (z_att (z_R A_low A_high) (2 ^ k)) (2 ^ k) → m < n → (∀ s, s < 2 ^ k → z_att (z_R A_low A_high) (2 ^ k) s = true → z_cnt (z_att (z_R A_low A_high) (2 ^ k)) s < i → z_R A_low A_high s t = false) →
    zf_Q_attractor_2 n (nI t) (nI i) (nI k) 1 rl rh Qc Ql = some h := by
  obtain ⟨p1, p2, p3⟩ := z_pow k hk
  have hc := z_cnt_le (z_att (z_R A_low A_high) (2 ^ k)) (2 ^ k)
  have hst : zf_Q_isState (nI t) (nI k) = some 1 := by
    rw [zm_isState]
    unfold zf_R_hasState
    rw [p1, if_neg (nI_nle hk0 (by omega)), if_neg (nI_pos (by omega)), if_neg (fun q => absurd ((nI_leI (by omega) (by omega)).mp q) (by omega))]
    exact z_gb1
  intro m
  induction m with
  | zero =>
    intro i n hi0 hn hno
    obtain ⟨n, rfl⟩ : ∃ n', n = n' + 1 := ⟨n - 1, by omega⟩
    rw [zf_Q_attractor_2, g2.1, if_pos ((nI_leI (by omega) (by omega)).mpr (by omega)), h2 (fun s hs a => hno s hs a (by have := z_cnt_lt2 hs a; omega))]
  | succ m ih =>
    intro i n hi0 hn hno
    obtain ⟨n, rfl⟩ : ∃ n', n = n' + 1 := ⟨n - 1, by omega⟩
    obtain ⟨s, b1, b2, b3⟩ := z_nth (show i < z_cnt (z_att (z_R A_low A_high) (2 ^ k)) (2 ^ k) by omega)
    have hl : Ql i = nI s := by rw [← b3]; exact g2.2 s b1 b2
    have hq := g2.1
    rw [zf_Q_attractor_2]
    rw [if_neg (by rw [hq]; exact fun q => absurd ((nI_leI (by omega) (by omega)).mp q) (by omega)), if_neg (by decide), hst, z_b1_of, if_neg (by decide)]
    unfold zf_Q_in
    rw [z_gd_n (show i < 128 by omega) (by decide), nI_clamp (n := i) (by omega), hl, zm_qleads rl rh (by omega) (by omega), z_b1_of, z_R_same hw b1, show nI i + (1 : Int32) = nI (i + 1) from nI_1 i]
    cases q : z_R A_low A_high s t with
    | true =>
      rw [if_pos (by rfl), z_gb1, z_b1_of, if_neg (by decide), h1 s b1 b2 q, b3]
    | false =>
      rw [if_neg (by decide), z_gb0, z_b1_of, if_pos (by rfl)]
      refine ih (i + 1) n (by omega) (by omega) (fun u hu a c => ?_)
      by_cases z : z_cnt (z_att (z_R A_low A_high) (2 ^ k)) u = i
      · have : u = s := by
          rcases Nat.lt_trichotomy u s with w | w | w
          · have := z_cnt_lt2 w a
            omega
          · exact w
          · have := z_cnt_lt2 w b2
            omega
        rw [this]
        exact q
      · exact hno u hu a (by omega)
theorem zm_attractor (I : zI_A k A_genes A_count A_low A_high A_homes A_leasts A_states ll lh an rl rh Qc Ql) (hk : k ≤ 7) (x : Int32) : ∃ r, zf_N_attractor x A_homes A_states = some r ∧ zf_Q_attractor x (nI k) an rl rh Qc Ql = some r := by
  obtain ⟨p1, p2, p3⟩ := z_pow k hk
  obtain ⟨n0, hn0⟩ : ∃ n, z_FU = n + 1 := ⟨19999, rfl⟩
  unfold zf_N_attractor zf_A_hasState zf_Q_attractor
  rcases I with ⟨rfl, rfl, rfl⟩ | ⟨rfl, hk0, hg, rfl, hR, hw, g1, g2, g3, g4⟩
  · refine ⟨-1, ?_, ?_⟩
    · by_cases h : x < 0
      · rw [if_pos h, z_gb0, z_b1_of, if_pos (by rfl)]
      · rw [if_neg h, if_pos (Int32.not_lt.mp h), z_gb0, z_b1_of, if_pos (by rfl)]
    · rw [hn0, zf_Q_attractor_2]
      by_cases hq : Qc ≤ 0
      · rw [if_pos hq]
      · rw [if_neg hq, z_i0]
  · rcases z_ix x (show 2 ^ k < 2 ^ 31 by omega) with ⟨t, ht, rfl⟩ | h | ⟨h1, h2⟩
    · refine ⟨A_homes t, ?_, ?_⟩
      · rw [if_neg (nI_pos (by omega)), if_neg (fun q => absurd ((nI_leI (by omega) (by omega)).mp q) (by omega)), z_gb1, z_b1_of, if_neg (by decide), z_gd_n (by omega) (by decide), nI_clamp (by omega)]
      · have hc := z_cnt_le (z_att (z_R A_low A_high) (2 ^ k)) (2 ^ k)
        exact zm_attr_loop hk hk0 ht g2 hw (A_homes t) (fun s hs a b => (g3 t (by omega)).1 s hs a b) (fun q => (g3 t (by omega)).2 q) _ 0 z_FU (Nat.zero_add _) (by unfold z_FU; omega) (fun s hs a b => absurd b (by omega))
    · refine ⟨-1, ?_, ?_⟩
      · rw [if_pos h, z_gb0, z_b1_of, if_pos (by rfl)]
      · rw [hn0, zf_Q_attractor_2, zm_isState]
        unfold zf_R_hasState
        by_cases hq : Qc ≤ 0
        · rw [if_pos hq]
        · rw [if_neg hq, z_i1, p1, if_neg (nI_nle hk0 (by omega)), if_pos h, z_gb0, z_b1_of, if_pos (by rfl)]
    · refine ⟨-1, ?_, ?_⟩
      · rw [if_neg h1, if_pos h2, z_gb0, z_b1_of, if_pos (by rfl)]
      · rw [hn0, zf_Q_attractor_2, zm_isState]
        unfold zf_R_hasState
        by_cases hq : Qc ≤ 0
        · rw [if_pos hq]
        · rw [if_neg hq, z_i1, p1, if_neg (nI_nle hk0 (by omega)), if_neg h1, if_pos h2, z_gb0, z_b1_of, if_pos (by rfl)]
/-! ===== only ===== -/
theorem zm_from (hR : z_pre (z_R A_low A_high) (2 ^ k)) (hk : k ≤ 7) (g4 : z_Lb (z_R A_low A_high) (2 ^ k) (2 ^ k) ll lh) {s : Nat} (hs : s < 2 ^ k) :
    zf_A_countAttractorsFrom (nI s) A_low A_high ll lh = some (nI (z_cnt (fun t => z_R A_low A_high s t && z_att (z_R A_low A_high) (2 ^ k) t) (2 ^ k))) := by
  have p2 := (z_pow k hk).2.1
  unfold zf_A_countAttractorsFrom
  simp only [z_gd_n (show s < 128 by omega) (show 128 < 2 ^ 31 by decide)]
  rw [nI_clamp (by omega), zm_bitCount, z_b1_of, zm_bitCount, z_b1_of, nI_add, z_rb_cnt]
  congr 2
  rw [← z_cnt_cut (f := fun t => z_R A_low A_high s t && z_att (z_R A_low A_high) (2 ^ k) t) p2 (fun t ht q => hR.2.2 s t hs ht (by rw [Bool.and_eq_true] at q; exact q.1))]
  apply z_cnt_congr
  intro t ht
  rw [z_rb_and]
  show (z_R A_low A_high s t && z_rb ll lh t) = _
  cases q : z_R A_low A_high s t with
  | false => rfl
  | true =>
    have hlt := hR.2.2 s t hs ht q
    have := g4 t ht
    cases w : z_rb ll lh t <;> cases v : z_att (z_R A_low A_high) (2 ^ k) t <;> simp_all
theorem zm_only_loop (hR : z_pre (z_R A_low A_high) (2 ^ k)) (hk : k ≤ 7) (g4 : z_Lb (z_R A_low A_high) (2 ^ k) (2 ^ k) ll lh) {j s : Nat} (hj : j < 128) (hs : s < 2 ^ k) (ha : z_att (z_R A_low A_high) (2 ^ k) s = true) (hl : A_leasts j = nI s) (o : Nat → Bool)
    (ho : ∀ u, u < 2 ^ k → (o u = true ↔ z_R A_low A_high u s = true ∧ ∀ t, t < 2 ^ k → z_att (z_R A_low A_high) (2 ^ k) t = true → z_R A_low A_high u t = true → t = s)) :
    ∀ m i n, i + m = 2 ^ k → m < n → zf_A_countLeadingOnly_4 n (nI j) (nI (z_cnt o i)) (nI i) A_low A_high A_leasts (nI (2 ^ k)) ll lh = some (nI (z_cnt o (2 ^ k))) := by
  have p2 := (z_pow k hk).2.1
  intro m
  induction m with
  | zero =>
    intro i n hi0 hn
    obtain ⟨n, rfl⟩ : ∃ n', n = n' + 1 := ⟨n - 1, by omega⟩
    rw [zf_A_countLeadingOnly_4, if_pos ((nI_leI (by omega) (by omega)).mpr (by omega)), show i = 2 ^ k by omega]
  | succ m ih =>
    intro i n hi0 hn
    obtain ⟨n, rfl⟩ : ∃ n', n = n' + 1 := ⟨n - 1, by omega⟩
    rw [zf_A_countLeadingOnly_4, if_neg (fun q => absurd ((nI_leI (by omega) (by omega)).mp q) (by omega)), z_gd_n hj (by decide), nI_clamp (by omega), hl, zm_leads A_low A_high (by omega) (by omega), z_b1_of, show nI i + (1 : Int32) = nI (i + 1) from nI_1 i]
    have nx := ih (i + 1) n (by omega) (by omega)
    have hoi := ho i (by omega)
    have ec : z_cnt o (i + 1) = z_cnt o i + if o i then 1 else 0 := rfl
    have no : o i = false → nI (z_cnt o i) = nI (z_cnt o (i + 1)) := fun q => by rw [ec, q]; rfl
    have yes : o i = true → nI (z_cnt o i) + (1 : Int32) = nI (z_cnt o (i + 1)) := fun q => by rw [ec, q, if_pos (by rfl)]; exact nI_1 _
    cases q : z_R A_low A_high i s with
    | false =>
      have : o i = false := by
        cases w : o i with
        | false => rfl
        | true => have := (hoi.mp w).1; rw [q] at this; cases this
      rw [if_pos (by rfl), no this]
      exact nx
    | true =>
      rw [if_neg (by decide), zm_from hR hk g4 (by omega), z_b1_of]
      have hcc := z_cnt_le (fun t => z_R A_low A_high i t && z_att (z_R A_low A_high) (2 ^ k) t) (2 ^ k)
      have h1 : (nI (z_cnt (fun t => z_R A_low A_high i t && z_att (z_R A_low A_high) (2 ^ k) t) (2 ^ k)) = 1) ↔ z_cnt (fun t => z_R A_low A_high i t && z_att (z_R A_low A_high) (2 ^ k) t) (2 ^ k) = 1 := nI_eq (b := 1) (by omega) (by decide)
      have h2 := z_cnt_one (f := fun t => z_R A_low A_high i t && z_att (z_R A_low A_high) (2 ^ k) t) hs (by show (z_R A_low A_high i s && z_att (z_R A_low A_high) (2 ^ k) s) = true; rw [q, ha]; rfl)
      cases w : o i with
      | true =>
        rw [if_pos (h1.mpr (h2.mpr (fun t ht v => by
          have v' : (z_R A_low A_high i t && z_att (z_R A_low A_high) (2 ^ k) t) = true := v
          rw [Bool.and_eq_true] at v'
          exact (hoi.mp w).2 t ht v'.2 v'.1))), yes w]
        exact nx
      | false =>
        rw [if_neg (fun v => by
          have : o i = true := hoi.mpr ⟨q, fun t ht a b => h2.mp (h1.mp v) t ht (by show (z_R A_low A_high i t && z_att (z_R A_low A_high) (2 ^ k) t) = true; rw [a, b]; rfl)⟩
          rw [w] at this
          cases this), no w]
        exact nx
end
