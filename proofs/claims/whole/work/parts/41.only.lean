section
variable {k : Nat} {A_genes A_count : Int32} {A_low A_high : Nat → Int64} {A_homes A_leasts : Nat → Int32} {A_states : Int32} {ll lh : Int64} {an : Int32} {rl rh : Nat → Int64} {Qc : Int32} {Ql : Nat → Int32}
theorem z_cnt_inj {f : Nat → Bool} {u s : Nat} (hu : f u = true) (hs : f s = true) (h : z_cnt f u = z_cnt f s) : u = s := by
  rcases Nat.lt_trichotomy u s with w | w | w
  · have := z_cnt_lt2 w hu
    omega
  · exact w
  · have := z_cnt_lt2 w hs
    omega
theorem zm_qonly_in (hk : k ≤ 7) (hw : ∀ s, s < 2 ^ k → A_low s = rl s ∧ A_high s = rh s) (g2 : z_Ls (z_R A_low A_high) (2 ^ k) (2 ^ k) Qc Ql) {j s u : Nat} (hj : j < 128) (hs : s < 2 ^ k) (hu : u < 2 ^ k) (ha : z_att (z_R A_low A_high) (2 ^ k) s = true) (hjs : z_cnt (z_att (z_R A_low A_high) (2 ^ k)) s = j)
    {k4 : Int32 → Int32 → Int32 → Int32 → Int32 → (Nat → Int64) → (Nat → Int64) → Int32 → (Nat → Int32) → Option (Int32)} {x2 : Int32} (ou : Bool)
    (ho : ou = true ↔ z_R A_low A_high u s = true ∧ ∀ t, t < 2 ^ k → z_att (z_R A_low A_high) (2 ^ k) t = true → z_R A_low A_high u t = true → t = s) :
    ∀ m i n (f : Bool), i + m = z_cnt (z_att (z_R A_low A_high) (2 ^ k)) (2 ^ k) → m < n →
    (f = true ↔ z_R A_low A_high u s = true ∧ ∀ t, t < 2 ^ k → z_att (z_R A_low A_high) (2 ^ k) t = true → z_cnt (z_att (z_R A_low A_high) (2 ^ k)) t < i → z_R A_low A_high u t = true → t = s) →
    zf_Q_only_38 k4 n (nI j) x2 (nI u) (if f then 1 else 0) (nI i) (nI k) an rl rh Qc Ql = k4 (nI j) (x2 + (if ou then 1 else 0)) (nI (u + 1)) (nI k) an rl rh Qc Ql := by
  have p2 := (z_pow k hk).2.1
  have hc := z_cnt_le (z_att (z_R A_low A_high) (2 ^ k)) (2 ^ k)
  intro m
  induction m with
  | zero =>
    intro i n f hi0 hn hf
    obtain ⟨n, rfl⟩ : ∃ n', n = n' + 1 := ⟨n - 1, by omega⟩
    have : f = ou := by
      have e : f = true ↔ ou = true := by
        rw [hf, ho]
        constructor
        · exact fun q => ⟨q.1, fun t ht a b => q.2 t ht a (by have := z_cnt_lt2 ht a; omega) b⟩
        · exact fun q => ⟨q.1, fun t ht a _ b => q.2 t ht a b⟩
      cases f <;> cases ou <;> simp_all
    rw [zf_Q_only_38, if_pos (by rw [g2.1]; exact (nI_leI (by omega) (by omega)).mpr (by omega))]
    unfold zf_Q_only_97
    rw [show nI u + (1 : Int32) = nI (u + 1) from nI_1 u, this]
    cases ou with
    | true => rw [if_neg (by decide)]; rfl
    | false => rw [if_pos (by rfl)]; rfl
  | succ m ih =>
    intro i n f hi0 hn hf
    obtain ⟨n, rfl⟩ : ∃ n', n = n' + 1 := ⟨n - 1, by omega⟩
    obtain ⟨v, b1, b2, b3⟩ := z_nth (show i < z_cnt (z_att (z_R A_low A_high) (2 ^ k)) (2 ^ k) by omega)
    have hl : Ql i = nI v := by rw [← b3]; exact g2.2 v b1 b2
    rw [zf_Q_only_38, if_neg (by rw [g2.1]; exact fun q => absurd ((nI_leI (by omega) (by omega)).mp q) (by omega))]
    unfold zf_Q_only_77 zf_Q_only_73 zf_Q_only_78
    rw [show nI i + (1 : Int32) = nI (i + 1) from nI_1 i]
    have nx := fun b hb => ih (i + 1) n b (by omega) (by omega) hb
    have split1 : ∀ t, t < 2 ^ k → z_att (z_R A_low A_high) (2 ^ k) t = true → z_cnt (z_att (z_R A_low A_high) (2 ^ k)) t < i + 1 → t = v ∨ z_cnt (z_att (z_R A_low A_high) (2 ^ k)) t < i := fun t ht a b => by
      by_cases z : z_cnt (z_att (z_R A_low A_high) (2 ^ k)) t = i
      · exact Or.inl (z_cnt_inj a b2 (by omega))
      · exact Or.inr (by omega)
    cases f with
    | false =>
      rw [if_pos (by rfl)]
      refine nx false ⟨fun z => (by cases z), fun q => ?_⟩
      exact hf.mpr ⟨q.1, fun t ht a b => q.2 t ht a (by omega)⟩
    | true =>
      obtain ⟨h1, h2⟩ := hf.mp rfl
      rw [if_neg (by decide)]
      by_cases z : i = j
      · rw [if_pos (by rw [z])]
        refine nx true ⟨fun _ => ⟨h1, fun t ht a b c => ?_⟩, fun _ => rfl⟩
        rcases split1 t ht a b with w | w
        · rw [w]
          exact z_cnt_inj b2 ha (by omega)
        · exact h2 t ht a w c
      · rw [if_neg (fun q => z ((nI_eq (by omega) (by omega)).mp q)), z_gd_n (show i < 128 by omega) (by decide), nI_clamp (by omega), hl, zm_qleads rl rh (by omega) (by omega), z_b1_of, z_R_same hw hu]
        have hvs : v ≠ s := fun q => z (by rw [← b3, q]; exact hjs)
        cases q : z_R A_low A_high u v with
        | false =>
          rw [if_pos (by rfl)]
          refine nx true ⟨fun _ => ⟨h1, fun t ht a b c => ?_⟩, fun _ => rfl⟩
          rcases split1 t ht a b with w | w
          · rw [w, q] at c
            cases c
          · exact h2 t ht a w c
        | true =>
          rw [if_neg (by decide)]
          exact nx false ⟨fun z => (by cases z), fun w => absurd (w.2 v b1 b2 (by omega) q) hvs⟩
theorem zm_qonly_loop (hk : k ≤ 7) (hw : ∀ s, s < 2 ^ k → A_low s = rl s ∧ A_high s = rh s) (g2 : z_Ls (z_R A_low A_high) (2 ^ k) (2 ^ k) Qc Ql) {j s : Nat} (hj : j < 128) (hs : s < 2 ^ k) (ha : z_att (z_R A_low A_high) (2 ^ k) s = true) (hjs : z_cnt (z_att (z_R A_low A_high) (2 ^ k)) s = j) (hia : zf_Q_isAttractor (nI j) an Qc = some 1) (o : Nat → Bool)
    (ho : ∀ u, u < 2 ^ k → (o u = true ↔ z_R A_low A_high u s = true ∧ ∀ t, t < 2 ^ k → z_att (z_R A_low A_high) (2 ^ k) t = true → z_R A_low A_high u t = true → t = s)) :
    ∀ m i n, i + m = 2 ^ k → m < n → zf_Q_only_4 n (nI j) (nI (z_cnt o i)) (nI i) (nI k) an rl rh Qc Ql = some (nI (z_cnt o (2 ^ k))) := by
  obtain ⟨p1, p2, p3⟩ := z_pow k hk
  have hc := z_cnt_le (z_att (z_R A_low A_high) (2 ^ k)) (2 ^ k)
  have hl : Ql j = nI s := by rw [← hjs]; exact g2.2 s hs ha
  intro m
  induction m with
  | zero =>
    intro i n hi0 hn
    obtain ⟨n, rfl⟩ : ∃ n', n = n' + 1 := ⟨n - 1, by omega⟩
    rw [zf_Q_only_4, p1, if_pos ((nI_leI (by omega) (by omega)).mpr (by omega)), show i = 2 ^ k by omega]
  | succ m ih =>
    intro i n hi0 hn
    obtain ⟨n, rfl⟩ : ∃ n', n = n' + 1 := ⟨n - 1, by omega⟩
    rw [zf_Q_only_4, p1, if_neg (fun q => absurd ((nI_leI (by omega) (by omega)).mp q) (by omega)), hia, z_b1_of, if_neg (by decide), z_gd_n hj (by decide), nI_clamp (by omega), hl, zm_qleads rl rh (by omega) (by omega), z_b1_of, z_R_same hw (show i < 2 ^ k by omega)]
    have e := zm_qonly_in (an := an) (k4 := zf_Q_only_4 n) (x2 := nI (z_cnt o i)) hk hw g2 hj hs (show i < 2 ^ k by omega) ha hjs (o i) (ho i (by omega)) _ 0 z_FU (z_R A_low A_high i s) (Nat.zero_add _) (by unfold z_FU; omega) ⟨fun q => ⟨q, fun t ht a b => absurd b (by omega)⟩, fun q => q.1⟩
    rw [show (0 : Int32) = nI 0 from rfl] at e ⊢
    rw [e]
    have ec : z_cnt o (i + 1) = z_cnt o i + if o i then 1 else 0 := rfl
    have e2 : nI (z_cnt o i) + (if o i then (1 : Int32) else nI 0) = nI (z_cnt o (i + 1)) := by
      rw [ec]
      cases o i with
      | true => exact nI_1 _
      | false => exact nI_add _ 0
    rw [e2]
    exact ih (i + 1) n (by omega) (by omega)
theorem zm_only (I : zI_A k A_genes A_count A_low A_high A_homes A_leasts A_states ll lh an rl rh Qc Ql) (hk : k ≤ 7) (x : Int32) : ∃ r, zf_N_only x A_count A_low A_high A_leasts A_states ll lh = some r ∧ zf_Q_only x (nI k) an rl rh Qc Ql = some r := by
  obtain ⟨p1, p2, p3⟩ := z_pow k hk
  unfold zf_N_only zf_Q_only
  rcases zm_att I hk x with ⟨e1, e2⟩ | ⟨j, s, hj, rfl, hs, a1, a2, a3, a4, e1, e2, rfl, hk0, hg, rfl, hR, hw, g2, g4⟩
  · refine ⟨0, ?_, ?_⟩
    · rw [e1, z_b1_of, if_pos (by rfl)]
    · obtain ⟨n, hn⟩ : ∃ n, z_FU = n + 1 := ⟨19999, rfl⟩
      rw [hn, zf_Q_only_4, p1, if_neg (nI_nle (by omega) (by omega)), e2, z_b1_of, if_pos (by rfl)]
  · obtain ⟨o, ho⟩ : ∃ o : Nat → Bool, ∀ u, (o u = true ↔ z_R A_low A_high u s = true ∧ ∀ t, t < 2 ^ k → z_att (z_R A_low A_high) (2 ^ k) t = true → z_R A_low A_high u t = true → t = s) :=
      ⟨fun u => @decide _ (Classical.propDecidable _), fun u => @decide_eq_true_iff _ (Classical.propDecidable _)⟩
    refine ⟨nI (z_cnt o (2 ^ k)), ?_, ?_⟩
    · rw [e1, z_b1_of, if_neg (by decide)]
      unfold zf_A_countLeadingOnly
      have e := zm_only_loop hR hk g4 hj hs a1 a3 o (fun u _ => ho u) (2 ^ k) 0 z_FU (by omega) (by unfold z_FU; omega)
      rw [show zf_A_countLeadingOnly_4 z_FU (nI j) (0 : Int32) (0 : Int32) A_low A_high A_leasts (nI (2 ^ k)) ll lh = some _ from e, z_b1_of]
    · exact zm_qonly_loop hk hw g2 hj hs a1 a2 e2 o (fun u _ => ho u) (2 ^ k) 0 z_FU (by omega) (by unfold z_FU; omega)
end
