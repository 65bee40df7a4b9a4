theorem z_R_lt {lo hi : Nat → Int64} {s t : Nat} (h : z_R lo hi s t = true) : t < 128 := by
  rcases Nat.lt_or_ge t 128 with q | q
  · exact q
  · unfold z_R z_rb at h
    rw [if_neg (by omega), z_bt_big (by omega)] at h
    cases h
theorem z_E_congr {k : Nat} {v w : Nat → Nat → Bool} (h : ∀ g s, g < k → v g s = w g s) (al : Bool) (s t : Nat) : z_E k v al s t ↔ z_E k w al s t := by
  unfold z_E
  cases al with
  | true =>
    rw [if_pos (by rfl), if_pos (by rfl)]
    constructor
    · rintro ⟨g, hg, e⟩
      exact ⟨g, hg, by rw [← h g s hg]; exact e⟩
    · rintro ⟨g, hg, e⟩
      exact ⟨g, hg, by rw [h g s hg]; exact e⟩
  | false =>
    rw [if_neg (by decide), if_neg (by decide), z_num_congr (f := fun g => v g s) (g := fun g => w g s) (fun g hg => h g s hg)]
theorem z_lead_congr {E F : Nat → Nat → Prop} (h : ∀ s t, E s t ↔ F s t) (s t : Nat) : z_lead E s t ↔ z_lead F s t := by
  have : E = F := funext fun s => funext fun t => propext (h s t)
  rw [this]
theorem zm_run_loop {k : Nat} {fx : Nat → Int32} {rlo rhi : Nat → Int64} (hk : k ≤ 7) (hf : ∀ g, g < k → z_fok fx g) (al : Bool) (c : Int32) (homes leasts : Nat → Int32) (ll lh : Int64) :
    ∀ m i n alo ahi, i + m = 2 ^ k → m < n → (∀ a b, a < i → b < 128 → ((z_R alo ahi a b = true) ↔ (b = a ∨ z_E k (z_vv fx rlo rhi) al a b))) →
    ∃ c' alo' ahi' homes' leasts' ll' lh', zf_A_run_20 n (if al then 1 else 0) (nI i) (nI k) fx rlo rhi (nI k) c alo ahi homes leasts (nI (2 ^ k)) ll lh = some (nI k, c', alo', ahi', homes', leasts', nI (2 ^ k), ll', lh') ∧
      (∀ s t, s < 2 ^ k → t < 128 → ((z_R alo' ahi' s t = true) ↔ z_lead (z_E k (z_vv fx rlo rhi) al) s t)) ∧ z_pre (z_R alo' ahi') (2 ^ k) ∧ z_Ls (z_R alo' ahi') (2 ^ k) (2 ^ k) c' leasts' ∧ z_Hm (z_R alo' ahi') (2 ^ k) (2 ^ k) homes' ∧ z_Lb (z_R alo' ahi') (2 ^ k) (2 ^ k) ll' lh' := by
  have hp := (z_pow k hk).2.1
  intro m
  induction m with
  | zero =>
    intro i n alo ahi hi0 hn h
    obtain ⟨n, rfl⟩ : ∃ n', n = n' + 1 := ⟨n - 1, by omega⟩
    rw [show i = 2 ^ k by omega] at h
    rw [zf_A_run_20, if_pos ((nI_leI (by omega) (by omega)).mpr (by omega))]
    have hE : ∀ s u, s < 2 ^ k → z_E k (z_vv fx rlo rhi) al s u → u < 2 ^ k := fun s u hs hu => z_E_lt hk hs hu
    obtain ⟨lo1, hi1, e1, f1⟩ := zm_warshall (E := z_E k (z_vv fx rlo rhi) al) hp (2 ^ k) 0 z_FU alo ahi (by omega) (by unfold z_FU; omega) (fun s hs => (h s s hs (by omega)).mpr (Or.inl rfl)) (fun s u hs hu => (h s u hs (by have := hE s u hs hu; omega)).mpr (Or.inr hu)) (fun c' hc' => absurd hc' (by omega)) (fun s t hs ht q => by
      rcases (h s t hs ht).mp q with rfl | q
      · exact z_lead_refl _
      · exact z_lead_one q) hE
    have e1' : zf_A_joinSteps alo ahi (nI (2 ^ k)) = some (lo1, hi1) := e1
    rw [e1', z_b2_of]
    have hR : z_pre (z_R lo1 hi1) (2 ^ k) := by
      refine ⟨fun s hs => (f1 s s hs (by omega)).mpr (z_lead_refl s), fun s t u hs q1 q2 => ?_, fun s t hs ht q => z_lead_lt hE hs ((f1 s t hs ht).mp q)⟩
      have l1 := (f1 s t hs (z_R_lt q1)).mp q1
      have ht := z_lead_lt hE hs l1
      exact (f1 s u hs (z_R_lt q2)).mpr (z_lead_trans l1 ((f1 t u ht (z_R_lt q2)).mp q2))
    obtain ⟨c2, h2, l2, ll2, lh2, e2, g1, g2, g3⟩ := zm_findAttractors lo1 hi1 hp hR c homes leasts ll lh
    rw [e2, z_b5_of]
    exact ⟨c2, lo1, hi1, h2, l2, ll2, lh2, rfl, f1, hR, g1, g2, g3⟩
  | succ m ih =>
    intro i n alo ahi hi0 hn h
    obtain ⟨n, rfl⟩ : ∃ n', n = n' + 1 := ⟨n - 1, by omega⟩
    rw [zf_A_run_20, if_neg (fun q => absurd ((nI_leI (by omega) (by omega)).mp q) (by omega)), zm_stepTogether rlo rhi hk (by omega) hf, z_b1_of]
    obtain ⟨lo1, hi1, e1, f1⟩ := zm_markSteps alo ahi hk (show i < 2 ^ k by omega) (z_vv fx rlo rhi) al
    rw [e1, z_b2_of, show nI i + (1 : Int32) = nI (i + 1) from nI_1 i]
    refine ih (i + 1) n lo1 hi1 (by omega) (by omega) (fun a b ha hb => ?_)
    rw [f1 a b hb]
    by_cases z : a = i
    · rw [z]
      exact ⟨fun w => w.elim (fun v => absurd rfl v.1) (fun v => v.2), fun w => Or.inr ⟨rfl, w⟩⟩
    · rw [h a b (by omega) hb]
      exact ⟨fun w => w.elim (fun v => v.2) (fun v => absurd v.1 z), fun w => Or.inl ⟨z, w⟩⟩
theorem z_att_congr {R S : Nat → Nat → Bool} {N s : Nat} (h : ∀ a b, a < N → b < N → R a b = S a b) (hs : s < N) : z_att R N s = z_att S N s := by
  have e1 : z_back R N s = true ↔ z_back S N s = true := by
    rw [z_back_iff, z_back_iff]
    constructor
    · intro q t ht w
      rw [← h t s ht hs]
      exact q t ht (by rw [h s t hs ht]; exact w)
    · intro q t ht w
      rw [h t s ht hs]
      exact q t ht (by rw [← h s t hs ht]; exact w)
  have e2 : z_first R s = true ↔ z_first S s = true := by
    rw [z_first_iff, z_first_iff]
    constructor
    · intro q t ht
      rw [← h s t hs (by omega)]
      exact q t ht
    · intro q t ht
      rw [h s t hs (by omega)]
      exact q t ht
  unfold z_att
  cases a : z_back R N s <;> cases b : z_back S N s <;> cases c : z_first R s <;> cases d : z_first S s <;> simp_all
theorem z_Ls_congr {R S : Nat → Nat → Bool} {N : Nat} (h : ∀ a b, a < N → b < N → R a b = S a b) {c : Int32} {L : Nat → Int32} (q : z_Ls R N N c L) : z_Ls S N N c L := by
  obtain ⟨q1, q2⟩ := q
  have e : ∀ i, i ≤ N → z_cnt (z_att R N) i = z_cnt (z_att S N) i := fun i hi => z_cnt_congr (fun s hs => z_att_congr h (by omega))
  refine ⟨by rw [q1, e N (Nat.le_refl N)], fun s hs w => ?_⟩
  rw [← e s (by omega)]
  exact q2 s hs (by rw [z_att_congr h hs]; exact w)
/-- the latest analysis of both -/
def zI_A (k : Nat) (A_genes A_count : Int32) (A_low A_high : Nat → Int64) (A_homes A_leasts : Nat → Int32) (A_states : Int32) (ll lh : Int64) (Q_analysed : Int32) (rl rh : Nat → Int64) (Qc : Int32) (Ql : Nat → Int32) : Prop :=
  (Q_analysed = 0 ∧ A_states = 0 ∧ A_count = 0) ∨
  (Q_analysed = 1 ∧ 0 < k ∧ A_genes = nI k ∧ A_states = nI (2 ^ k) ∧ z_pre (z_R A_low A_high) (2 ^ k) ∧ (∀ s, s < 2 ^ k → A_low s = rl s ∧ A_high s = rh s) ∧ z_Ls (z_R A_low A_high) (2 ^ k) (2 ^ k) A_count A_leasts ∧ z_Ls (z_R A_low A_high) (2 ^ k) (2 ^ k) Qc Ql ∧ z_Hm (z_R A_low A_high) (2 ^ k) (2 ^ k) A_homes ∧ z_Lb (z_R A_low A_high) (2 ^ k) (2 ^ k) ll lh)
theorem zm_analyse {k : Nat} {R_count : Int32} {R_names R_fixed : Nat → Int32} {R_low R_high : Nat → Int64} {Q_genes : Int32} {Q_names : Nat → Int32} {Q_low Q_high : Nat → Int64} {Q_fixed : Nat → Int32}
    (I : zI_G k R_count R_names R_fixed R_low R_high Q_genes Q_names Q_low Q_high Q_fixed) (al : Bool) (A_genes A_count : Int32) (A_low A_high : Nat → Int64) (A_homes A_leasts : Nat → Int32) (A_states : Int32) (ll lh : Int64) (an one : Int32) (rl rh : Nat → Int64) (Qc : Int32) (Ql : Nat → Int32) :
    (zf_N_analyse (if al then 1 else 0) R_count R_fixed R_low R_high A_genes A_count A_low A_high A_homes A_leasts A_states ll lh = some (-1, A_genes, A_count, A_low, A_high, A_homes, A_leasts, A_states, ll, lh) ∧ zf_Q_analyse (if al then 1 else 0) Q_genes Q_low Q_high Q_fixed an one rl rh Qc Ql = some (-1, an, one, rl, rh, Qc, Ql)) ∨
    ∃ r A_genes' A_count' A_low' A_high' A_homes' A_leasts' A_states' ll' lh' an' one' rl' rh' Qc' Ql', zf_N_analyse (if al then 1 else 0) R_count R_fixed R_low R_high A_genes A_count A_low A_high A_homes A_leasts A_states ll lh = some (r, A_genes', A_count', A_low', A_high', A_homes', A_leasts', A_states', ll', lh') ∧
      zf_Q_analyse (if al then 1 else 0) Q_genes Q_low Q_high Q_fixed an one rl rh Qc Ql = some (r, an', one', rl', rh', Qc', Ql') ∧ zI_A k A_genes' A_count' A_low' A_high' A_homes' A_leasts' A_states' ll' lh' an' rl' rh' Qc' Ql' := by
  obtain ⟨hk, rfl, rfl, h⟩ := I
  obtain ⟨p1, p2, p3⟩ := z_pow k hk
  unfold zf_N_analyse zf_Q_analyse
  by_cases h0 : k = 0
  · subst h0
    exact Or.inl ⟨by rw [if_pos (by rfl)], by rw [if_pos (by rfl)]⟩
  · have hne : ¬ nI k = 0 := nI_ne0 (by omega) (by omega)
    rw [if_neg hne, if_neg hne]
    right
    have hf : ∀ g, g < k → z_fok R_fixed g := fun g hg => (h g hg).2.2.1
    have hf2 : ∀ g, g < k → z_fok Q_fixed g := fun g hg => by
      obtain ⟨-, h2, h3, -⟩ := h g hg
      unfold z_fok at h3 ⊢
      rw [← h2]
      exact h3
    have hv : ∀ g s, g < k → z_vv R_fixed R_low R_high g s = z_vv Q_fixed Q_low Q_high g s := fun g s hg => by
      obtain ⟨-, h2, -, h4, h5⟩ := h g hg
      exact z_vv_congr h2 h4 h5 s
    obtain ⟨c1, lo1, hi1, ho1, le1, ll1, lh1, e1, f1, hR, g1, g2, g3⟩ := zm_run_loop (rlo := R_low) (rhi := R_high) hk hf al A_count A_homes A_leasts ll lh (2 ^ k) 0 z_FU A_low A_high (by omega) (by unfold z_FU; omega) (fun a b ha => absurd ha (by omega))
    have e1' : zf_A_run (if al then 1 else 0) (nI k) R_fixed R_low R_high A_genes A_count A_low A_high A_homes A_leasts A_states ll lh = some (nI k, c1, lo1, hi1, ho1, le1, nI (2 ^ k), ll1, lh1) := by
      unfold zf_A_run
      rw [p1]
      exact e1
    obtain ⟨rl1, rh1, e2, f2⟩ := zm_qspreadOut (qlo := Q_low) (qhi := Q_high) hk (by omega) hf2 al rl rh
    have hw : ∀ s, s < 2 ^ k → lo1 s = rl1 s ∧ hi1 s = rh1 s := fun s hs => z_rb_ext (fun t ht => by
      have a1 := f1 s t hs ht
      have a2 := f2 s t hs ht
      rw [z_lead_congr (z_E_congr hv al) s t] at a1
      have : (z_R lo1 hi1 s t = true) ↔ (z_R rl1 rh1 s t = true) := a1.trans a2.symm
      unfold z_R at this
      cases q1 : z_rb (lo1 s) (hi1 s) t <;> cases q2 : z_rb (rl1 s) (rh1 s) t <;> simp_all)
    have hcong : ∀ a b, a < 2 ^ k → b < 2 ^ k → z_R rl1 rh1 a b = z_R lo1 hi1 a b := fun a b ha _ => by
      unfold z_R
      rw [(hw a ha).1, (hw a ha).2]
    obtain ⟨c2, L2, e3, g4⟩ := zm_qanalyse_loop Q_low Q_high rl1 rh1 Q_fixed an (if al then 1 else 0) hk (2 ^ k) 0 z_FU 0 Ql (by omega) (by unfold z_FU; omega) ⟨rfl, fun s hs => absurd hs (by omega)⟩
    have g5 := z_Ls_congr hcong g4
    have hcc : c1 = c2 := g1.1.trans g5.1.symm
    refine ⟨c1, nI k, c1, lo1, hi1, ho1, le1, nI (2 ^ k), ll1, lh1, 1, (if al then 1 else 0), rl1, rh1, c2, L2, ?_, ?_, Or.inr ⟨rfl, by omega, rfl, rfl, hR, hw, g1, g5, g2, g3⟩⟩
    · rw [e1', z_b9_of]
    · have gb : z_gb (if al then 1 else 0) (z_b2 (zf_Q_spreadOut (nI k) Q_low Q_high Q_fixed (if al then 1 else 0) rl rh) fun Q_reachLow_1 Q_reachHigh_1 => zf_Q_analyse_25 z_FU (0 : Int32) (nI k) Q_low Q_high Q_fixed an (if al then 1 else 0) Q_reachLow_1 Q_reachHigh_1 (0 : Int32) Ql) = z_b2 (zf_Q_spreadOut (nI k) Q_low Q_high Q_fixed (if al then 1 else 0) rl rh) fun Q_reachLow_1 Q_reachHigh_1 => zf_Q_analyse_25 z_FU (0 : Int32) (nI k) Q_low Q_high Q_fixed an (if al then 1 else 0) Q_reachLow_1 Q_reachHigh_1 (0 : Int32) Ql := by
        cases al with
        | true => exact z_gb1
        | false => exact z_gb0
      rw [gb, e2, z_b2_of]
      rw [hcc]
      exact e3
