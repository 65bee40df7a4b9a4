/-! ===== loops that look at rows ===== -/
theorem z_all_succ {f : Nat → Bool} {n : Nat} : (List.range (n + 1)).all f = ((List.range n).all f && f n) := by
  rw [List.range_succ, List.all_append, List.all_cons, List.all_nil, Bool.and_true]
theorem zm_ledBack_loop (lo hi : Nat → Int64) {N s : Nat} (hN : N ≤ 128) (hs : s < N) : ∀ m i n, i + m = N → m < n → (∀ t, t < i → z_R lo hi s t = true → z_R lo hi t s = true) → zf_A_isLedBackTo_2 n (nI s) (nI i) lo hi (nI N) = some (if z_back (z_R lo hi) N s then 1 else 0) := by
  intro m
  induction m with
  | zero =>
    intro i n hi0 hn h
    obtain ⟨n, rfl⟩ : ∃ n', n = n' + 1 := ⟨n - 1, by omega⟩
    rw [zf_A_isLedBackTo_2, if_pos ((nI_leI (by omega) (by omega)).mpr (by omega)), z_back_iff.mpr (fun t ht => h t (by omega)), z_gb1]
    rfl
  | succ m ih =>
    intro i n hi0 hn h
    obtain ⟨n, rfl⟩ : ∃ n', n = n' + 1 := ⟨n - 1, by omega⟩
    rw [zf_A_isLedBackTo_2, if_neg (fun q => absurd ((nI_leI (by omega) (by omega)).mp q) (by omega)), zm_leads lo hi (by omega) (by omega), z_b1_of, show nI i + (1 : Int32) = nI (i + 1) from nI_1 i]
    cases h1 : z_R lo hi s i with
    | false =>
      rw [if_pos (by rfl)]
      refine ih (i + 1) n (by omega) (by omega) (fun t ht q => ?_)
      by_cases z : t = i
      · rw [z, h1] at q
        cases q
      · exact h t (by omega) q
    | true =>
      rw [if_neg (by decide), zm_leads lo hi (by omega) (by omega), z_b1_of]
      cases h2 : z_R lo hi i s with
      | false =>
        rw [if_pos (by rfl), z_gb0]
        have : z_back (z_R lo hi) N s = false := by
          cases hq : z_back (z_R lo hi) N s with
          | false => rfl
          | true =>
            have := z_back_iff.mp hq i (by omega) h1
            rw [h2] at this
            cases this
        rw [this]
        rfl
      | true =>
        rw [if_neg (by decide)]
        refine ih (i + 1) n (by omega) (by omega) (fun t ht q => ?_)
        by_cases z : t = i
        · rw [z]
          exact h2
        · exact h t (by omega) q
theorem zm_ledBack (lo hi : Nat → Int64) {N s : Nat} (hN : N ≤ 128) (hs : s < N) : zf_A_isLedBackTo (nI s) lo hi (nI N) = some (if z_back (z_R lo hi) N s then 1 else 0) :=
  zm_ledBack_loop lo hi hN hs N 0 z_FU (by omega) (by unfold z_FU; omega) (fun t ht => absurd ht (by omega))
/-- the same loop of the reference: a flag that falls -/
theorem zm_settled_loop (lo hi : Nat → Int64) {k s : Nat} (hk : k ≤ 7) (hs : s < 2 ^ k) : ∀ m i n (f : Bool), i + m = 2 ^ k → m < n → (f = true ↔ ∀ t, t < i → z_R lo hi s t = true → z_R lo hi t s = true) → zf_Q_settled_4 n (nI s) (if f then 1 else 0) (nI i) (nI k) lo hi = some (if z_back (z_R lo hi) (2 ^ k) s then 1 else 0) := by
  obtain ⟨p1, p2, p3⟩ := z_pow k hk
  intro m
  induction m with
  | zero =>
    intro i n f hi0 hn h
    obtain ⟨n, rfl⟩ : ∃ n', n = n' + 1 := ⟨n - 1, by omega⟩
    rw [zf_Q_settled_4, p1, if_pos ((nI_leI (by omega) (by omega)).mpr (by omega))]
    rw [show i = 2 ^ k by omega] at h
    have : f = z_back (z_R lo hi) (2 ^ k) s := by
      cases hq : z_back (z_R lo hi) (2 ^ k) s with
      | true => exact h.mpr (z_back_iff.mp hq)
      | false =>
        cases hf : f with
        | false => rfl
        | true => rw [z_back_iff.mpr (h.mp hf)] at hq; cases hq
    rw [this]
    cases z_back (z_R lo hi) (2 ^ k) s with
    | true => exact z_gb1
    | false => exact z_gb0
  | succ m ih =>
    intro i n f hi0 hn h
    obtain ⟨n, rfl⟩ : ∃ n', n = n' + 1 := ⟨n - 1, by omega⟩
    rw [zf_Q_settled_4, p1, if_neg (fun q => absurd ((nI_leI (by omega) (by omega)).mp q) (by omega))]
    unfold zf_Q_settled_40 zf_Q_settled_36 zf_Q_settled_41
    rw [show nI i + (1 : Int32) = nI (i + 1) from nI_1 i]
    have nxt := fun b hb => ih (i + 1) n b (by omega) (by omega) hb
    have no : (∃ t, t < i + 1 ∧ z_R lo hi s t = true ∧ z_R lo hi t s = false) → (false = true ↔ ∀ t, t < i + 1 → z_R lo hi s t = true → z_R lo hi t s = true) := by
      rintro ⟨t, a, b, c⟩
      exact ⟨fun z => (by cases z), fun z => by rw [z t a b] at c; cases c⟩
    cases hf : f with
    | false =>
      rw [if_pos (by rfl)]
      refine nxt false ?_
      have hn : ¬ ∀ t, t < i → z_R lo hi s t = true → z_R lo hi t s = true := fun z => by rw [h.mpr z] at hf; cases hf
      exact ⟨fun z => (by cases z), fun z => absurd (fun t ht => z t (by omega)) hn⟩
    | true =>
      have h' := h.mp hf
      rw [if_neg (by decide), zm_qleads lo hi (by omega) (by omega), z_b1_of]
      cases h1 : z_R lo hi s i with
      | false =>
        rw [if_pos (by rfl)]
        refine nxt true ⟨fun _ t ht q => ?_, fun _ => rfl⟩
        by_cases z : t = i
        · rw [z, h1] at q
          cases q
        · exact h' t (by omega) q
      | true =>
        rw [if_neg (by decide), zm_qleads lo hi (by omega) (by omega), z_b1_of]
        cases h2 : z_R lo hi i s with
        | false =>
          rw [if_pos (by rfl)]
          exact nxt false (no ⟨i, by omega, h1, h2⟩)
        | true =>
          rw [if_neg (by decide)]
          refine nxt true ⟨fun _ t ht q => ?_, fun _ => rfl⟩
          by_cases z : t = i
          · rw [z]
            exact h2
          · exact h' t (by omega) q
theorem zm_settled (lo hi : Nat → Int64) {k s : Nat} (hk : k ≤ 7) (hs : s < 2 ^ k) : zf_Q_settled (nI s) (nI k) lo hi = some (if z_back (z_R lo hi) (2 ^ k) s then 1 else 0) :=
  zm_settled_loop lo hi hk hs (2 ^ k) 0 z_FU true (by omega) (by have := (z_pow k hk).2.1; unfold z_FU; omega) ⟨fun _ t ht => absurd ht (by omega), fun _ => rfl⟩
theorem zm_isLeast_loop (lo hi : Nat → Int64) {s : Nat} (hs : s < 128) : ∀ m i n (f : Bool), i + m = s → m < n → (f = true ↔ ∀ t, t < i → z_R lo hi s t = false) → zf_Q_isLeast_4 n (nI s) (if f then 1 else 0) (nI i) lo hi = some (if z_first (z_R lo hi) s then 1 else 0) := by
  intro m
  induction m with
  | zero =>
    intro i n f hi0 hn h
    obtain ⟨n, rfl⟩ : ∃ n', n = n' + 1 := ⟨n - 1, by omega⟩
    rw [zf_Q_isLeast_4, if_pos ((nI_leI (by omega) (by omega)).mpr (by omega))]
    rw [show i = s by omega] at h
    have : f = z_first (z_R lo hi) s := by
      cases hq : z_first (z_R lo hi) s with
      | true => exact h.mpr (z_first_iff.mp hq)
      | false =>
        cases hf : f with
        | false => rfl
        | true => rw [z_first_iff.mpr (h.mp hf)] at hq; cases hq
    rw [this]
    cases z_first (z_R lo hi) s with
    | true => exact z_gb1
    | false => exact z_gb0
  | succ m ih =>
    intro i n f hi0 hn h
    obtain ⟨n, rfl⟩ : ∃ n', n = n' + 1 := ⟨n - 1, by omega⟩
    rw [zf_Q_isLeast_4, if_neg (fun q => absurd ((nI_leI (by omega) (by omega)).mp q) (by omega))]
    unfold zf_Q_isLeast_26 zf_Q_isLeast_27
    rw [show nI i + (1 : Int32) = nI (i + 1) from nI_1 i]
    have nxt := fun b hb => ih (i + 1) n b (by omega) (by omega) hb
    cases hf : f with
    | false =>
      rw [if_pos (by rfl)]
      refine nxt false ?_
      have hn : ¬ ∀ t, t < i → z_R lo hi s t = false := fun z => by rw [h.mpr z] at hf; cases hf
      exact ⟨fun z => (by cases z), fun z => absurd (fun t ht => z t (by omega)) hn⟩
    | true =>
      have h' := h.mp hf
      rw [if_neg (by decide), zm_qleads lo hi (by omega) (by omega), z_b1_of]
      cases h1 : z_R lo hi s i with
      | false =>
        rw [if_pos (by rfl)]
        refine nxt true ⟨fun _ t ht => ?_, fun _ => rfl⟩
        by_cases z : t = i
        · rw [z]
          exact h1
        · exact h' t (by omega)
      | true =>
        rw [if_neg (by decide)]
        exact nxt false ⟨fun z => (by cases z), fun z => by rw [z i (by omega)] at h1; cases h1⟩
theorem zm_isLeast (lo hi : Nat → Int64) {s : Nat} (hs : s < 128) : zf_Q_isLeast (nI s) lo hi = some (if z_first (z_R lo hi) s then 1 else 0) :=
  zm_isLeast_loop lo hi hs s 0 z_FU true (by omega) (by unfold z_FU; omega) ⟨fun _ t ht => absurd ht (by omega), fun _ => rfl⟩
/-! ===== the list of the attractors' least states ===== -/
def z_att (R : Nat → Nat → Bool) (N s : Nat) : Bool := z_back R N s && z_first R s
theorem z_att_iff {R : Nat → Nat → Bool} {N s : Nat} : z_att R N s = true ↔ z_back R N s = true ∧ z_first R s = true := by
  unfold z_att
  rw [Bool.and_eq_true]
/-- c: how many are found among the states below i; L: which -/
def z_Ls (R : Nat → Nat → Bool) (N i : Nat) (c : Int32) (L : Nat → Int32) : Prop := c = nI (z_cnt (z_att R N) i) ∧ ∀ s, s < i → z_att R N s = true → L (z_cnt (z_att R N) s) = nI s
theorem z_Ls_no {R : Nat → Nat → Bool} {N i : Nat} {c : Int32} {L : Nat → Int32} (h : z_Ls R N i c L) (hi : z_att R N i = false) : z_Ls R N (i + 1) c L := by
  obtain ⟨h1, h2⟩ := h
  refine ⟨?_, fun s hs q => ?_⟩
  · rw [h1]
    show _ = nI (z_cnt (z_att R N) i + if z_att R N i then 1 else 0)
    rw [hi]
    rfl
  · by_cases z : s = i
    · rw [z, hi] at q
      cases q
    · exact h2 s (by omega) q
theorem z_cnt_lt2 {f : Nat → Bool} {s i : Nat} (h : s < i) (hs : f s = true) : z_cnt f s < z_cnt f i := by
  induction i with
  | zero => omega
  | succ i ih =>
    by_cases z : s = i
    · subst z
      show _ < z_cnt f s + if f s then 1 else 0
      rw [hs, if_pos (by rfl)]
      omega
    · have := ih (by omega)
      show _ < z_cnt f i + _
      omega
theorem z_Ls_yes {R : Nat → Nat → Bool} {N i : Nat} {c : Int32} {L : Nat → Int32} (h : z_Ls R N i c L) (hi : z_att R N i = true) : z_Ls R N (i + 1) (c + 1) (upd L (z_cnt (z_att R N) i) (nI i)) := by
  obtain ⟨h1, h2⟩ := h
  refine ⟨?_, fun s hs q => ?_⟩
  · rw [h1]
    show nI _ + 1 = nI (z_cnt (z_att R N) i + if z_att R N i then 1 else 0)
    rw [hi, if_pos (by rfl)]
    exact nI_1 _
  · by_cases z : s = i
    · rw [z, pk_us]
    · rw [pk_un (Nat.ne_of_lt (z_cnt_lt2 (show s < i by omega) q))]
      exact h2 s (by omega) q
theorem zm_qanalyse_loop (lo hi rl rh : Nat → Int64) (fx : Nat → Int32) (an one : Int32) {k : Nat} (hk : k ≤ 7) : ∀ m i n c L, i + m = 2 ^ k → m < n → z_Ls (z_R rl rh) (2 ^ k) i c L →
    ∃ c' L', zf_Q_analyse_25 n (nI i) (nI k) lo hi fx an one rl rh c L = some (c', 1, one, rl, rh, c', L') ∧ z_Ls (z_R rl rh) (2 ^ k) (2 ^ k) c' L' := by
  obtain ⟨p1, p2, p3⟩ := z_pow k hk
  intro m
  induction m with
  | zero =>
    intro i n c L hi0 hn h
    obtain ⟨n, rfl⟩ : ∃ n', n = n' + 1 := ⟨n - 1, by omega⟩
    refine ⟨c, L, ?_, ?_⟩
    · rw [zf_Q_analyse_25, p1, if_pos ((nI_leI (by omega) (by omega)).mpr (by omega))]
    · rw [show i = 2 ^ k by omega] at h
      exact h
  | succ m ih =>
    intro i n c L hi0 hn h
    obtain ⟨n, rfl⟩ : ∃ n', n = n' + 1 := ⟨n - 1, by omega⟩
    rw [zf_Q_analyse_25, p1, if_neg (fun q => absurd ((nI_leI (by omega) (by omega)).mp q) (by omega)), zm_settled rl rh hk (by omega), z_b1_of, show nI i + (1 : Int32) = nI (i + 1) from nI_1 i]
    cases h1 : z_back (z_R rl rh) (2 ^ k) i with
    | false =>
      rw [if_pos (by rfl)]
      exact ih (i + 1) n c L (by omega) (by omega) (z_Ls_no h (by unfold z_att; rw [h1]; rfl))
    | true =>
      rw [if_neg (by decide), zm_isLeast rl rh (by omega), z_b1_of]
      cases h2 : z_first (z_R rl rh) i with
      | false =>
        rw [if_pos (by rfl)]
        exact ih (i + 1) n c L (by omega) (by omega) (z_Ls_no h (by unfold z_att; rw [h1, h2]; rfl))
      | true =>
        have hc := z_cnt_le (z_att (z_R rl rh) (2 ^ k)) i
        rw [if_neg (by decide), h.1, z_gd_n (by omega) (by decide), nI_clamp (by omega), ← h.1]
        exact ih (i + 1) n _ _ (by omega) (by omega) (z_Ls_yes h (by unfold z_att; rw [h1, h2]; rfl))
/-! ===== the class's way to the same list ===== -/
/-- what is known of R: it is 'leads to' among the numbers below N -/
def z_pre (R : Nat → Nat → Bool) (N : Nat) : Prop := (∀ s, s < N → R s s = true) ∧ (∀ s t u, s < N → R s t = true → R t u = true → R s u = true) ∧ (∀ s t, s < N → t < 128 → R s t = true → t < N)
theorem z_least {P : Nat → Prop} (n : Nat) (h : P n) : ∃ k, k ≤ n ∧ P k ∧ ∀ j, j < k → ¬ P j := by
  obtain ⟨k, h1, h2⟩ := pk_least P ⟨n, h⟩
  refine ⟨k, ?_, h1, h2⟩
  rcases Nat.lt_or_ge n k with q | q
  · exact absurd h (h2 n q)
  · exact q
theorem z_att_of {R : Nat → Nat → Bool} {N s : Nat} (hN : N ≤ 128) (hR : z_pre R N) (hs : s < N) (hb : z_back R N s = true) : ∃ t, t ≤ s ∧ z_att R N t = true ∧ R t s = true ∧ R s t = true := by
  obtain ⟨r1, r2, r3⟩ := hR
  obtain ⟨t, h1, h2, h3⟩ := z_least (P := fun t => R s t = true) s (r1 s hs)
  have hts : R t s = true := z_back_iff.mp hb t (by omega) h2
  refine ⟨t, h1, z_att_iff.mpr ⟨z_back_iff.mpr (fun x hx q => ?_), z_first_iff.mpr (fun x hx => ?_)⟩, hts, h2⟩
  · exact r2 x s t hx (z_back_iff.mp hb x hx (r2 s t x hs h2 q)) h2
  · cases q : R t x with
    | false => rfl
    | true => exact absurd (r2 s t x hs h2 q) (h3 x hx)
theorem z_att_one {R : Nat → Nat → Bool} {N s u t : Nat} (hN : N ≤ 128) (hR : z_pre R N) (hs : s < N) (hu : u < N) (ht : t < 128) (a : z_att R N s = true) (b : z_att R N u = true) (h1 : R s t = true) (h2 : R u t = true) : s = u := by
  obtain ⟨r1, r2, r3⟩ := hR
  have hts := z_back_iff.mp (z_att_iff.mp a).1 t (r3 s t hs ht h1) h1
  have htu := z_back_iff.mp (z_att_iff.mp b).1 t (r3 u t hu ht h2) h2
  have hsu := r2 s t u hs h1 htu
  have hus := r2 u t s hu h2 hts
  have f1 := z_first_iff.mp (z_att_iff.mp a).2
  have f2 := z_first_iff.mp (z_att_iff.mp b).2
  rcases Nat.lt_trichotomy s u with q | q | q
  · rw [f2 s q] at hus
    cases hus
  · exact q
  · rw [f1 u q] at hsu
    cases hsu
/-- where each state is at home, once the states below i have been looked at -/
def z_Hm (R : Nat → Nat → Bool) (N i : Nat) (h : Nat → Int32) : Prop := ∀ t, t < 128 → ((∀ s, s < i → z_att R N s = true → R s t = true → h t = nI (z_cnt (z_att R N) s)) ∧ ((∀ s, s < i → z_att R N s = true → R s t = false) → h t = -1))
def z_Lb (R : Nat → Nat → Bool) (N i : Nat) (ll lh : Int64) : Prop := ∀ t, t < 128 → ((z_rb ll lh t = true) ↔ (t < i ∧ z_att R N t = true))
theorem z_home_iff {R : Nat → Nat → Bool} {N i : Nat} {h : Nat → Int32} (hN : N ≤ 128) (hR : z_pre R N) (hi : i < N) (H : z_Hm R N i h) : (h i = -1 ∧ z_back R N i = true) ↔ z_att R N i = true := by
  obtain ⟨r1, r2, r3⟩ := id hR
  constructor
  · rintro ⟨h1, h2⟩
    obtain ⟨t, h3, h4, h5, h6⟩ := z_att_of hN hR hi h2
    by_cases z : t = i
    · rw [z] at h4
      exact h4
    · have := (H i (by omega)).1 t (by omega) h4 h5
      rw [h1] at this
      have hc := z_cnt_le (z_att R N) t
      exact absurd this.symm (z_nI_ne (by omega))
  · intro h1
    refine ⟨(H i (by omega)).2 (fun s hs q => ?_), (z_att_iff.mp h1).1⟩
    cases q2 : R s i with
    | false => rfl
    | true =>
      have := z_back_iff.mp (z_att_iff.mp q).1 i hi q2
      rw [z_first_iff.mp (z_att_iff.mp h1).2 s hs] at this
      cases this
theorem z_rb_mark {ll lh : Int64} {s : Nat} (hs : s < 128) : ∃ ll' lh', (if (64 : Int32) ≤ nI s then (ll, lh ||| ((1 : Int64) <<< ((nI s &&& (63 : Int32)).toInt64 &&& 63))) else (ll ||| ((1 : Int64) <<< ((nI s).toInt64 &&& 63)), lh)) = (ll', lh') ∧ ∀ t, t < 128 → ((z_rb ll' lh' t = true) ↔ (z_rb ll lh t = true ∨ t = s)) := by
  by_cases q : s < 64
  · rw [if_neg (fun z => absurd ((z_le64 (by omega)).mp z) (by omega))]
    refine ⟨_, _, rfl, fun t ht => ?_⟩
    unfold z_rb
    by_cases z : t < 64
    · rw [if_pos z, if_pos z, z_bt_or, z_bt_shl q, Bool.or_eq_true, decide_eq_true_iff]
      exact ⟨fun w => w.elim Or.inl (fun e => Or.inr e.symm), fun w => w.elim Or.inl (fun e => Or.inr e.symm)⟩
    · rw [if_neg z, if_neg z]
      exact ⟨Or.inl, fun w => w.elim id (fun e => absurd e (by omega))⟩
  · rw [if_pos ((z_le64 (by omega)).mpr (by omega)), z_and63 s hs]
    refine ⟨_, _, rfl, fun t ht => ?_⟩
    unfold z_rb
    by_cases z : t < 64
    · rw [if_pos z, if_pos z]
      exact ⟨Or.inl, fun w => w.elim id (fun e => absurd e (by omega))⟩
    · rw [if_neg z, if_neg z, z_bt_or, z_bt_shl (by omega), Bool.or_eq_true, decide_eq_true_iff]
      exact ⟨fun w => w.elim Or.inl (fun e => Or.inr (by omega)), fun w => w.elim Or.inl (fun e => Or.inr (by omega))⟩
theorem zm_addAtt_loop (lo hi : Nat → Int64) {N s c : Nat} (hN : N ≤ 128) (hs : s < N) (hc : c < 128) (leasts : Nat → Int32) (ll lh : Int64) : ∀ m i n homes, i + m = N → m < n →
    ∃ homes' ll' lh', zf_A_addAttractor_2 n (nI s) (nI i) (nI c) lo hi homes leasts (nI N) ll lh = some (nI c + 1, homes', upd leasts c (nI s), ll', lh') ∧ (∀ t, t < 128 → homes' t = if (i ≤ t ∧ t < N) ∧ z_R lo hi s t = true then nI c else homes t) ∧ ∀ t, t < 128 → ((z_rb ll' lh' t = true) ↔ (z_rb ll lh t = true ∨ t = s)) := by
  intro m
  induction m with
  | zero =>
    intro i n homes hi0 hn
    obtain ⟨n, rfl⟩ : ∃ n', n = n' + 1 := ⟨n - 1, by omega⟩
    obtain ⟨ll', lh', e, f⟩ := z_rb_mark (ll := ll) (lh := lh) (s := s) (by omega)
    refine ⟨homes, ll', lh', ?_, fun t ht => by rw [if_neg (by omega)], f⟩
    rw [zf_A_addAttractor_2, if_pos ((nI_leI (by omega) (by omega)).mpr (by omega)), z_gd_n hc (by decide), nI_clamp (by omega)]
    split at e
    · rename_i q
      rw [if_pos q]
      cases e
      rfl
    · rename_i q
      rw [if_neg q]
      cases e
      rfl
  | succ m ih =>
    intro i n homes hi0 hn
    obtain ⟨n, rfl⟩ : ∃ n', n = n' + 1 := ⟨n - 1, by omega⟩
    rw [zf_A_addAttractor_2, if_neg (fun q => absurd ((nI_leI (by omega) (by omega)).mp q) (by omega)), zm_leads lo hi (by omega) (by omega), z_b1_of, show nI i + (1 : Int32) = nI (i + 1) from nI_1 i]
    cases h1 : z_R lo hi s i with
    | false =>
      rw [if_pos (by rfl)]
      obtain ⟨h', ll', lh', e, f1, f2⟩ := ih (i + 1) n homes (by omega) (by omega)
      refine ⟨h', ll', lh', e, fun t ht => ?_, f2⟩
      rw [f1 t ht]
      by_cases z : t = i
      · rw [z, h1, if_neg (by omega), if_neg (fun w => by cases w.2)]
      · by_cases w : (i + 1 ≤ t ∧ t < N) ∧ z_R lo hi s t = true
        · rw [if_pos w, if_pos ⟨⟨by omega, w.1.2⟩, w.2⟩]
        · rw [if_neg w, if_neg (fun v => w ⟨⟨by omega, v.1.2⟩, v.2⟩)]
    | true =>
      rw [if_neg (by decide), z_gd_n (by omega) (by decide), nI_clamp (by omega)]
      obtain ⟨h', ll', lh', e, f1, f2⟩ := ih (i + 1) n (upd homes i (nI c)) (by omega) (by omega)
      refine ⟨h', ll', lh', e, fun t ht => ?_, f2⟩
      rw [f1 t ht]
      by_cases z : t = i
      · rw [z, h1, if_neg (by omega), pk_us, if_pos ⟨⟨Nat.le_refl i, by omega⟩, rfl⟩]
      · rw [pk_un z]
        by_cases w : (i + 1 ≤ t ∧ t < N) ∧ z_R lo hi s t = true
        · rw [if_pos w, if_pos ⟨⟨by omega, w.1.2⟩, w.2⟩]
        · rw [if_neg w, if_neg (fun v => w ⟨⟨by omega, v.1.2⟩, v.2⟩)]
theorem zm_fill_loop (x : Int32) {N : Nat} (hN : N < 1000) : ∀ m i n f, i + m = N → m < n → ∃ f', zf_JA_fill_5 n x (nI i) (nI N) N f = some f' ∧ ∀ t, f' t = if i ≤ t ∧ t < N then x else f t := by
  intro m
  induction m with
  | zero =>
    intro i n f hi0 hn
    obtain ⟨n, rfl⟩ : ∃ n', n = n' + 1 := ⟨n - 1, by omega⟩
    exact ⟨f, by rw [zf_JA_fill_5, if_pos ((nI_leI (by omega) (by omega)).mpr (by omega))], fun t => by rw [if_neg (by omega)]⟩
  | succ m ih =>
    intro i n f hi0 hn
    obtain ⟨n, rfl⟩ : ∃ n', n = n' + 1 := ⟨n - 1, by omega⟩
    obtain ⟨f', e, g⟩ := ih (i + 1) n (upd f i x) (by omega) (by omega)
    refine ⟨f', ?_, fun t => ?_⟩
    · rw [zf_JA_fill_5, if_neg (fun q => absurd ((nI_leI (by omega) (by omega)).mp q) (by omega)), z_gd_n (by omega) (by omega), nI_clamp (by omega), show nI i + (1 : Int32) = nI (i + 1) from nI_1 i]
      exact e
    · rw [g t]
      by_cases z : t = i
      · rw [z, if_neg (by omega), pk_us, if_pos (by omega)]
      · rw [pk_un z]
        by_cases w : i + 1 ≤ t ∧ t < N
        · rw [if_pos w, if_pos (by omega)]
        · rw [if_neg w, if_neg (by omega)]
theorem zm_fill (x : Int32) {N : Nat} (hN : N < 1000) (f : Nat → Int32) : ∃ f', zf_JA_fill x N f = some f' ∧ ∀ t, f' t = if t < N then x else f t := by
  obtain ⟨f', e, g⟩ := zm_fill_loop x hN N 0 z_FU f (by omega) (by unfold z_FU; omega)
  refine ⟨f', e, fun t => ?_⟩
  rw [g t]
  by_cases w : t < N
  · rw [if_pos ⟨Nat.zero_le t, w⟩, if_pos w]
  · rw [if_neg (fun z => w z.2), if_neg w]
theorem zm_find_loop (lo hi : Nat → Int64) {N : Nat} (hN : N ≤ 128) (hR : z_pre (z_R lo hi) N) : ∀ m i n c homes leasts ll lh, i + m = N → m < n → z_Ls (z_R lo hi) N i c leasts → z_Hm (z_R lo hi) N i homes → z_Lb (z_R lo hi) N i ll lh →
    ∃ c' homes' leasts' ll' lh', zf_A_findAttractors_25 n (nI i) c lo hi homes leasts (nI N) ll lh = some (c', homes', leasts', ll', lh') ∧ z_Ls (z_R lo hi) N N c' leasts' ∧ z_Hm (z_R lo hi) N N homes' ∧ z_Lb (z_R lo hi) N N ll' lh' := by
  obtain ⟨r1, r2, r3⟩ := id hR
  intro m
  induction m with
  | zero =>
    intro i n c homes leasts ll lh hi0 hn a1 a2 a3
    obtain ⟨n, rfl⟩ : ∃ n', n = n' + 1 := ⟨n - 1, by omega⟩
    rw [show i = N by omega] at a1 a2 a3
    exact ⟨c, homes, leasts, ll, lh, by rw [zf_A_findAttractors_25, if_pos ((nI_leI (by omega) (by omega)).mpr (by omega))], a1, a2, a3⟩
  | succ m ih =>
    intro i n c homes leasts ll lh hi0 hn a1 a2 a3
    obtain ⟨n, rfl⟩ : ∃ n', n = n' + 1 := ⟨n - 1, by omega⟩
    rw [zf_A_findAttractors_25, if_neg (fun q => absurd ((nI_leI (by omega) (by omega)).mp q) (by omega)), z_gd_n (by omega) (by decide), nI_clamp (by omega), show nI i + (1 : Int32) = nI (i + 1) from nI_1 i, zm_ledBack lo hi hN (by omega), z_b1_of]
    have hiff := z_home_iff hN hR (show i < N by omega) a2
    have no : z_att (z_R lo hi) N i = false → z_Ls (z_R lo hi) N (i + 1) c leasts ∧ z_Hm (z_R lo hi) N (i + 1) homes ∧ z_Lb (z_R lo hi) N (i + 1) ll lh := by
      intro hno
      refine ⟨z_Ls_no a1 hno, fun t ht => ⟨fun s hs q1 q2 => ?_, fun q => (a2 t ht).2 (fun s hs => q s (by omega))⟩, fun t ht => ?_⟩
      · by_cases z : s = i
        · rw [z, hno] at q1
          cases q1
        · exact (a2 t ht).1 s (by omega) q1 q2
      · rw [a3 t ht]
        constructor
        · exact fun w => ⟨by omega, w.2⟩
        · intro w
          by_cases z : t = i
          · have w2 := w.2
            rw [z, hno] at w2
            cases w2
          · exact ⟨by omega, w.2⟩
    by_cases h1 : homes i = -1
    · rw [if_pos h1]
      cases h2 : z_back (z_R lo hi) N i with
      | false =>
        rw [if_pos (by rfl)]
        obtain ⟨b1, b2, b3⟩ := no (by unfold z_att; rw [h2]; rfl)
        exact ih (i + 1) n c homes leasts ll lh (by omega) (by omega) b1 b2 b3
      | true =>
        rw [if_neg (by decide)]
        have hat := hiff.mp ⟨h1, h2⟩
        have hcl := z_cnt_le (z_att (z_R lo hi) N) i
        obtain ⟨h', ll', lh', e, f1, f2⟩ := zm_addAtt_loop lo hi hN (show i < N by omega) (show z_cnt (z_att (z_R lo hi) N) i < 128 by omega) leasts ll lh N 0 z_FU homes (by omega) (by unfold z_FU; omega)
        unfold zf_A_addAttractor
        rw [a1.1, show (0 : Int32) = nI 0 from rfl, e, z_b5_of, ← a1.1]
        refine ih (i + 1) n _ _ _ _ _ (by omega) (by omega) (z_Ls_yes a1 hat) (fun t ht => ⟨fun s hs q1 q2 => ?_, fun q => ?_⟩) (fun t ht => ?_)
        · rw [f1 t ht]
          by_cases z : s = i
          · rw [z] at q2 ⊢
            rw [if_pos ⟨⟨Nat.zero_le t, r3 i t (by omega) ht q2⟩, q2⟩]
          · rw [if_neg (fun w => z (z_att_one hN hR (by omega) (by omega) ht q1 hat q2 w.2))]
            exact (a2 t ht).1 s (by omega) q1 q2
        · rw [f1 t ht, if_neg (fun w => by have := q i (by omega) hat; rw [w.2] at this; cases this)]
          exact (a2 t ht).2 (fun s hs => q s (by omega))
        · rw [f2 t ht, a3 t ht]
          constructor
          · rintro (⟨w1, w2⟩ | rfl)
            · exact ⟨by omega, w2⟩
            · exact ⟨by omega, hat⟩
          · rintro ⟨w1, w2⟩
            by_cases z : t = i
            · exact Or.inr z
            · exact Or.inl ⟨by omega, w2⟩
    · rw [if_neg h1]
      have hno : z_att (z_R lo hi) N i = false := by
        cases q : z_att (z_R lo hi) N i with
        | false => rfl
        | true => exact absurd (hiff.mpr q).1 h1
      obtain ⟨b1, b2, b3⟩ := no hno
      exact ih (i + 1) n c homes leasts ll lh (by omega) (by omega) b1 b2 b3
theorem zm_findAttractors (lo hi : Nat → Int64) {N : Nat} (hN : N ≤ 128) (hR : z_pre (z_R lo hi) N) (c : Int32) (homes leasts : Nat → Int32) (ll lh : Int64) :
    ∃ c' homes' leasts' ll' lh', zf_A_findAttractors c lo hi homes leasts (nI N) ll lh = some (c', homes', leasts', ll', lh') ∧ z_Ls (z_R lo hi) N N c' leasts' ∧ z_Hm (z_R lo hi) N N homes' ∧ z_Lb (z_R lo hi) N N ll' lh' := by
  obtain ⟨h', e, f⟩ := zm_fill (-1) (N := 128) (by decide) homes
  unfold zf_A_findAttractors
  rw [e, z_b1_of]
  exact zm_find_loop lo hi hN hR N 0 z_FU 0 h' leasts 0 0 (by omega) (by unfold z_FU; omega) ⟨rfl, fun s hs => absurd hs (by omega)⟩ (fun t ht => ⟨fun s hs => absurd hs (by omega), fun _ => by rw [f t, if_pos ht]⟩) (fun t ht => by rw [z_rb_0]; exact ⟨fun z => (by cases z), fun z => absurd z.1 (by omega)⟩)
