/-! ===== rows of bits: the class's and the reference's words for 'leads' ===== -/
def z_R (lo hi : Nat → Int64) (s t : Nat) : Bool := z_rb (lo s) (hi s) t
theorem zm_leads (lo hi : Nat → Int64) {s t : Nat} (hs : s < 128) (ht : t < 128) : zf_A_leads (nI s) (nI t) lo hi = some (if z_R lo hi s t then 1 else 0) := by
  unfold zf_A_leads z_R
  rw [nI_clamp (by omega)]
  simp only [z_gd_n hs (show 128 < 2 ^ 31 by decide)]
  rw [zm_bitOf _ _ ht, z_b1_of]
  cases z_rb (lo s) (hi s) t with
  | true => exact z_gb1
  | false => exact z_gb0
theorem z_cmp1 (b : Bool) : (lg_cmp (if b then 1 else 0) (1 : Int64) = 0) ↔ b = true := by
  cases b with
  | true => exact ⟨fun _ => rfl, fun _ => by decide⟩
  | false => exact ⟨fun h => absurd h (by decide), fun h => by cases h⟩
theorem zm_qleads (lo hi : Nat → Int64) {s t : Nat} (hs : s < 128) (ht : t < 128) : zf_Q_leads (nI s) (nI t) lo hi = some (if z_R lo hi s t then 1 else 0) := by
  unfold zf_Q_leads z_R z_rb
  rw [nI_clamp (by omega)]
  simp only [z_gd_n hs (show 128 < 2 ^ 31 by decide)]
  by_cases q : t < 64
  · rw [if_neg (fun z => absurd ((z_le64 (by omega)).mp z) (by omega)), if_pos q, z_sbit (lo s) q]
    cases z_bt (lo s) t with
    | true => rw [if_pos ((z_cmp1 true).mpr rfl)]; exact z_gb1
    | false => rw [if_neg (fun z => by cases (z_cmp1 false).mp z)]; exact z_gb0
  · rw [if_pos ((z_le64 (by omega)).mpr (by omega)), if_neg q, show nI t - 64 = nI (t - 64) from pk_sub (b := 64) (by omega), z_sbit (hi s) (by omega)]
    cases z_bt (hi s) (t - 64) with
    | true => rw [if_pos ((z_cmp1 true).mpr rfl)]; exact z_gb1
    | false => rw [if_neg (fun z => by cases (z_cmp1 false).mp z)]; exact z_gb0
theorem z_R_low {lo hi : Nat → Int64} {s t a b : Nat} {w : Int64} (ht : t < 64) (hw : ∀ i, z_bt w i = decide (t = i)) (hb : b < 128) :
    (z_R (vp_updL lo s (lo s ||| w)) hi a b = true) ↔ (z_R lo hi a b = true ∨ (a = s ∧ b = t)) := by
  unfold z_R z_rb
  by_cases h : a = s
  · subst h
    rw [pk_uLs]
    by_cases q : b < 64
    · rw [if_pos q, if_pos q, z_bt_or, hw, Bool.or_eq_true, decide_eq_true_iff]
      constructor
      · rintro (z | z)
        · exact Or.inl z
        · exact Or.inr ⟨rfl, z.symm⟩
      · rintro (z | ⟨-, z⟩)
        · exact Or.inl z
        · exact Or.inr z.symm
    · rw [if_neg q, if_neg q]
      constructor
      · exact fun z => Or.inl z
      · rintro (z | ⟨-, z⟩)
        · exact z
        · omega
  · rw [pk_uLn h]
    constructor
    · exact fun z => Or.inl z
    · rintro (z | ⟨z, -⟩)
      · exact z
      · exact absurd z h
theorem z_R_high {lo hi : Nat → Int64} {s t a b : Nat} {w : Int64} (ht : 64 ≤ t) (hw : ∀ i, z_bt w i = decide (t - 64 = i)) (hb : b < 128) :
    (z_R lo (vp_updL hi s (hi s ||| w)) a b = true) ↔ (z_R lo hi a b = true ∨ (a = s ∧ b = t)) := by
  unfold z_R z_rb
  by_cases h : a = s
  · subst h
    rw [pk_uLs]
    by_cases q : b < 64
    · rw [if_pos q, if_pos q]
      constructor
      · exact fun z => Or.inl z
      · rintro (z | ⟨-, z⟩)
        · exact z
        · omega
    · rw [if_neg q, if_neg q, z_bt_or, hw, Bool.or_eq_true, decide_eq_true_iff]
      constructor
      · rintro (z | z)
        · exact Or.inl z
        · exact Or.inr ⟨rfl, by omega⟩
      · rintro (z | ⟨-, z⟩)
        · exact Or.inl z
        · exact Or.inr (by omega)
  · rw [pk_uLn h]
    constructor
    · exact fun z => Or.inl z
    · rintro (z | ⟨z, -⟩)
      · exact z
      · exact absurd z h
theorem zm_mark (lo hi : Nat → Int64) {s t : Nat} (hs : s < 128) (ht : t < 128) : ∃ lo' hi', zf_A_markLeading (nI s) (nI t) lo hi = some (lo', hi') ∧ ∀ a b, b < 128 → ((z_R lo' hi' a b = true) ↔ (z_R lo hi a b = true ∨ (a = s ∧ b = t))) := by
  unfold zf_A_markLeading
  rw [nI_clamp (by omega), z_and63 t ht]
  simp only [z_gd_n hs (show 128 < 2 ^ 31 by decide)]
  by_cases q : t < 64
  · rw [if_neg (fun z => absurd ((z_le64 (by omega)).mp z) (by omega))]
    exact ⟨_, _, rfl, fun a b hb => z_R_low q (fun i => z_bt_shl q i) hb⟩
  · rw [if_pos ((z_le64 (by omega)).mpr (by omega))]
    exact ⟨_, _, rfl, fun a b hb => z_R_high (by omega) (fun i => by rw [z_bt_shl (by omega), show t % 64 = t - 64 by omega]) hb⟩
/-- a state in which gene g has b, all others what they had -/
def z_set (s g : Nat) (b : Bool) : Nat := if s.testBit g then (if b then s else s - 2 ^ g) else (if b then s + 2 ^ g else s)
theorem z_set_ok : ∀ g, g < 7 → ∀ s, s < 128 → (nI s &&& (((1 : Int32) <<< (nI g &&& 31)) ^^^ (-1 : Int32))) = nI (z_set s g false) ∧ (nI (z_set s g false) ||| nI (2 ^ g)) = nI (z_set s g true) ∧ (nI (z_set s g false) ||| 0) = nI (z_set s g false) ∧ (nI (z_set s g false) + ((1 : Int32) <<< (nI g &&& 31))) = nI (z_set s g true) ∧ (nI (z_set s g false) + ((0 : Int32) <<< (nI g &&& 31))) = nI (z_set s g false) ∧ (nI s &&& ((1 : Int32) <<< (nI g &&& 31))) = (if s.testBit g then nI (2 ^ g) else 0) := by decide +kernel
theorem z_set_lt : ∀ k, k ≤ 7 → ∀ g, g < k → ∀ s, s < 2 ^ k → z_set s g true < 2 ^ k ∧ z_set s g false < 2 ^ k := by decide +kernel
theorem z_set_lt2 {k g s : Nat} (hk : k ≤ 7) (hg : g < k) (hs : s < 2 ^ k) (b : Bool) : z_set s g b < 2 ^ k := by
  cases b with
  | true => exact (z_set_lt k hk g hg s hs).1
  | false => exact (z_set_lt k hk g hg s hs).2
/-- the class's way to the state in which gene g follows its rule -/
theorem z_set_c {g s T : Nat} (hg : g < 7) (hs : s < 128) (hT : T < 128) : ((nI s &&& (((1 : Int32) <<< (nI g &&& 31)) ^^^ (-1 : Int32))) ||| (nI T &&& ((1 : Int32) <<< (nI g &&& 31)))) = nI (z_set s g (T.testBit g)) := by
  obtain ⟨a1, a2, a3, -, -, -⟩ := z_set_ok g hg s hs
  obtain ⟨-, -, -, -, -, b6⟩ := z_set_ok g hg T hT
  rw [a1, b6]
  cases T.testBit g with
  | true => exact a2
  | false => exact a3
/-- the reference's -/
theorem z_set_q {g s : Nat} (hg : g < 7) (hs : s < 128) (b : Bool) : ((nI s &&& (((1 : Int32) <<< (nI g &&& 31)) ^^^ (-1 : Int32))) + ((if b then (1 : Int32) else 0) <<< (nI g &&& 31))) = nI (z_set s g b) := by
  obtain ⟨a1, -, -, a4, a5, -⟩ := z_set_ok g hg s hs
  rw [a1]
  cases b with
  | true => exact a4
  | false => exact a5
theorem zm_alone_loop {s T k : Nat} (hs : s < 2 ^ k) (hT : T < 128) (hk : k ≤ 7) : ∀ m i n lo hi, i + m = k → m < n → ∃ lo' hi', zf_A_markSteps_34 n (nI s) (nI T) (nI i) (nI k) lo hi = some (lo', hi') ∧
    ∀ a b, b < 128 → ((z_R lo' hi' a b = true) ↔ (z_R lo hi a b = true ∨ (a = s ∧ ∃ g, i ≤ g ∧ g < k ∧ b = z_set s g (T.testBit g)))) := by
  have hp := (z_pow k hk).2.1
  intro m
  induction m with
  | zero =>
    intro i n lo hi hi1 hn
    obtain ⟨n, rfl⟩ : ∃ n', n = n' + 1 := ⟨n - 1, by omega⟩
    refine ⟨lo, hi, ?_, fun a b hb => ⟨Or.inl, ?_⟩⟩
    · rw [zf_A_markSteps_34, if_pos ((nI_leI (by omega) (by omega)).mpr (by omega))]
    · rintro (z | ⟨-, g, h1, h2, -⟩)
      · exact z
      · omega
  | succ m ih =>
    intro i n lo hi hi1 hn
    obtain ⟨n, rfl⟩ : ∃ n', n = n' + 1 := ⟨n - 1, by omega⟩
    rw [zf_A_markSteps_34, if_neg (fun q => absurd ((nI_leI (by omega) (by omega)).mp q) (by omega)), z_set_c (by omega) (by omega) hT]
    have hl := z_set_lt2 hk (show i < k by omega) hs (T.testBit i)
    obtain ⟨lo1, hi1', e1, f1⟩ := zm_mark lo hi (s := s) (t := z_set s i (T.testBit i)) (by omega) (by omega)
    rw [e1, z_b2_of, show nI i + (1 : Int32) = nI (i + 1) from nI_1 i]
    obtain ⟨lo2, hi2, e2, f2⟩ := ih (i + 1) n lo1 hi1' (by omega) (by omega)
    refine ⟨lo2, hi2, e2, fun a b hb => ?_⟩
    rw [f2 a b hb, f1 a b hb]
    constructor
    · rintro ((z | ⟨z1, z2⟩) | ⟨z1, g, z2, z3, z4⟩)
      · exact Or.inl z
      · exact Or.inr ⟨z1, i, by omega, by omega, z2⟩
      · exact Or.inr ⟨z1, g, by omega, z3, z4⟩
    · rintro (z | ⟨z1, g, z2, z3, z4⟩)
      · exact Or.inl (Or.inl z)
      · by_cases q : g = i
        · subst q
          exact Or.inl (Or.inr ⟨z1, z4⟩)
        · exact Or.inr ⟨z1, g, by omega, z3, z4⟩
/-- one step from s, together or alone; f: the genes' values in s -/
def z_E (k : Nat) (v : Nat → Nat → Bool) (al : Bool) (s t : Nat) : Prop := if al then ∃ g, g < k ∧ t = z_set s g (v g s) else t = z_num (fun g => v g s) k
theorem z_E_lt {k : Nat} (hk : k ≤ 7) {v : Nat → Nat → Bool} {al : Bool} {s t : Nat} (hs : s < 2 ^ k) (h : z_E k v al s t) : t < 2 ^ k := by
  unfold z_E at h
  split at h
  · obtain ⟨g, hg, rfl⟩ := h
    exact z_set_lt2 hk hg hs _
  · rw [h]
    exact z_num_lt _ k
theorem z_R_clear {lo hi : Nat → Int64} {s a b : Nat} : (z_R (vp_updL lo s 0) (vp_updL hi s 0) a b = true) ↔ (a ≠ s ∧ z_R lo hi a b = true) := by
  unfold z_R
  by_cases h : a = s
  · subst h
    rw [pk_uLs, pk_uLs, z_rb_0]
    exact ⟨fun z => (by cases z), fun z => absurd rfl z.1⟩
  · rw [pk_uLn h, pk_uLn h]
    exact ⟨fun z => ⟨h, z⟩, fun z => z.2⟩
/-- markSteps: row s holds s and its steps, all other rows stay -/
theorem zm_markSteps (lo hi : Nat → Int64) {k s : Nat} (hk : k ≤ 7) (hs : s < 2 ^ k) (v : Nat → Nat → Bool) (al : Bool) : ∃ lo' hi', zf_A_markSteps (nI s) (nI (z_num (fun g => v g s) k)) (if al then 1 else 0) (nI k) lo hi = some (lo', hi') ∧
    ∀ a b, b < 128 → ((z_R lo' hi' a b = true) ↔ ((a ≠ s ∧ z_R lo hi a b = true) ∨ (a = s ∧ (b = s ∨ z_E k v al s b)))) := by
  have hp := (z_pow k hk).2.1
  have hT := z_num_lt (fun g => v g s) k
  unfold zf_A_markSteps
  rw [nI_clamp (by omega)]
  simp only [z_gd_n (show s < 128 by omega) (show 128 < 2 ^ 31 by decide)]
  obtain ⟨lo1, hi1, e1, f1⟩ := zm_mark (vp_updL lo s 0) (vp_updL hi s 0) (s := s) (t := s) (by omega) (by omega)
  rw [e1, z_b2_of]
  cases al with
  | false =>
    rw [if_pos (by rfl)]
    obtain ⟨lo2, hi2, e2, f2⟩ := zm_mark lo1 hi1 (s := s) (t := z_num (fun g => v g s) k) (by omega) (by omega)
    rw [e2, z_b2_of]
    refine ⟨lo2, hi2, rfl, fun a b hb => ?_⟩
    rw [f2 a b hb, f1 a b hb, z_R_clear]
    unfold z_E
    constructor
    · rintro ((z | ⟨z1, z2⟩) | ⟨z1, z2⟩)
      · exact Or.inl z
      · exact Or.inr ⟨z1, Or.inl z2⟩
      · exact Or.inr ⟨z1, Or.inr z2⟩
    · rintro (z | ⟨z1, z2 | z2⟩)
      · exact Or.inl (Or.inl z)
      · exact Or.inl (Or.inr ⟨z1, z2⟩)
      · exact Or.inr ⟨z1, z2⟩
  | true =>
    rw [if_neg (by decide)]
    obtain ⟨lo2, hi2, e2, f2⟩ := zm_alone_loop hs (show z_num (fun g => v g s) k < 128 by omega) hk k 0 z_FU lo1 hi1 (by omega) (by unfold z_FU; omega)
    refine ⟨lo2, hi2, e2, fun a b hb => ?_⟩
    rw [f2 a b hb, f1 a b hb, z_R_clear]
    unfold z_E
    rw [if_pos (by rfl)]
    have hv : ∀ g, g < k → (z_num (fun g => v g s) k).testBit g = v g s := fun g hg => by rw [z_num_bit, decide_eq_true hg]; rfl
    constructor
    · rintro ((z | ⟨z1, z2⟩) | ⟨z1, g, -, z3, z4⟩)
      · exact Or.inl z
      · exact Or.inr ⟨z1, Or.inl z2⟩
      · exact Or.inr ⟨z1, Or.inr ⟨g, z3, by rw [← hv g z3]; exact z4⟩⟩
    · rintro (z | ⟨z1, z2 | ⟨g, z3, z4⟩⟩)
      · exact Or.inl (Or.inl z)
      · exact Or.inl (Or.inr ⟨z1, z2⟩)
      · exact Or.inr ⟨z1, g, by omega, z3, by rw [hv g z3]; exact z4⟩
/-! ===== joinSteps: Warshall's way ===== -/
theorem z_R_join {lo hi : Nat → Int64} {s c a b : Nat} : (z_R (vp_updL lo s (lo s ||| lo c)) (vp_updL hi s (hi s ||| hi c)) a b = true) ↔ (z_R lo hi a b = true ∨ (a = s ∧ z_R lo hi c b = true)) := by
  unfold z_R
  by_cases h : a = s
  · subst h
    rw [pk_uLs, pk_uLs, z_rb_or, Bool.or_eq_true]
    exact ⟨fun z => z.elim Or.inl (fun q => Or.inr ⟨rfl, q⟩), fun z => z.elim Or.inl (fun q => Or.inr q.2)⟩
  · rw [pk_uLn h, pk_uLn h]
    exact ⟨Or.inl, fun z => z.elim id (fun q => absurd q.1 h)⟩
theorem zm_join_loop {k2 : Int32 → (Nat → Int64) → (Nat → Int64) → Int32 → Option ((Nat → Int64) × (Nat → Int64))} {N c : Nat} (hN : N ≤ 128) (hc : c < N) {M : Nat → Nat → Prop} :
    ∀ m i n lo hi, i + m = N → m < n → (∀ a b, b < 128 → ((z_R lo hi a b = true) ↔ (M a b ∨ (a < i ∧ M a c ∧ M c b)))) →
    ∃ lo' hi', zf_A_joinSteps_12 k2 n (nI c) (nI i) lo hi (nI N) = k2 (nI (c + 1)) lo' hi' (nI N) ∧ ∀ a b, b < 128 → ((z_R lo' hi' a b = true) ↔ (M a b ∨ (a < N ∧ M a c ∧ M c b))) := by
  intro m
  induction m with
  | zero =>
    intro i n lo hi hi1 hn hM
    obtain ⟨n, rfl⟩ : ∃ n', n = n' + 1 := ⟨n - 1, by omega⟩
    refine ⟨lo, hi, ?_, ?_⟩
    · rw [zf_A_joinSteps_12, if_pos ((nI_leI (by omega) (by omega)).mpr (by omega)), show nI c + (1 : Int32) = nI (c + 1) from nI_1 c]
    · rw [show N = i by omega]
      exact hM
  | succ m ih =>
    intro i n lo hi hi1 hn hM
    obtain ⟨n, rfl⟩ : ∃ n', n = n' + 1 := ⟨n - 1, by omega⟩
    rw [zf_A_joinSteps_12, if_neg (fun q => absurd ((nI_leI (by omega) (by omega)).mp q) (by omega)), zm_leads lo hi (by omega) (by omega), z_b1_of, show nI i + (1 : Int32) = nI (i + 1) from nI_1 i, nI_clamp (n := i) (by omega), nI_clamp (n := c) (by omega)]
    simp only [z_gd_n (show i < 128 by omega) (show 128 < 2 ^ 31 by decide), z_gd_n (show c < 128 by omega) (show 128 < 2 ^ 31 by decide)]
    have hic := hM i c (by omega)
    cases hb : z_R lo hi i c with
    | false =>
      rw [if_pos (by rfl)]
      refine ih (i + 1) n lo hi (by omega) (by omega) (fun a b hb2 => ?_)
      rw [hM a b hb2]
      have hn : ¬ M i c := fun z => by rw [hb] at hic; cases hic.mpr (Or.inl z)
      constructor
      · rintro (z | ⟨z1, z2, z3⟩)
        · exact Or.inl z
        · exact Or.inr ⟨by omega, z2, z3⟩
      · rintro (z | ⟨z1, z2, z3⟩)
        · exact Or.inl z
        · by_cases q : a = i
          · subst q
            exact absurd z2 hn
          · exact Or.inr ⟨by omega, z2, z3⟩
    | true =>
      rw [if_neg (by decide)]
      refine ih (i + 1) n _ _ (by omega) (by omega) (fun a b hb2 => ?_)
      rw [z_R_join, hM a b hb2, hM c b hb2]
      have hic1 : M i c := by
        rcases hic.mp hb with z | ⟨z, -⟩
        · exact z
        · omega
      constructor
      · rintro ((z | ⟨z1, z2, z3⟩) | ⟨rfl, z | ⟨z1, z2, z3⟩⟩)
        · exact Or.inl z
        · exact Or.inr ⟨by omega, z2, z3⟩
        · exact Or.inr ⟨by omega, hic1, z⟩
        · exact Or.inr ⟨by omega, hic1, z3⟩
      · rintro (z | ⟨z1, z2, z3⟩)
        · exact Or.inl (Or.inl z)
        · by_cases q : a = i
          · exact Or.inr ⟨q, Or.inl z3⟩
          · exact Or.inl (Or.inr ⟨by omega, z2, z3⟩)
theorem zm_warshall {E : Nat → Nat → Prop} {N : Nat} (hN : N ≤ 128) : ∀ m c n lo hi, c + m = N → m < n →
    (∀ s, s < N → z_R lo hi s s = true) → (∀ s u, s < N → E s u → z_R lo hi s u = true) → (∀ c', c' < c → ∀ s t, s < N → t < 128 → z_R lo hi s c' = true → z_R lo hi c' t = true → z_R lo hi s t = true) →
    (∀ s t, s < N → t < 128 → z_R lo hi s t = true → z_lead E s t) → (∀ s u, s < N → E s u → u < N) →
    ∃ lo' hi', zf_A_joinSteps_2 n (nI c) lo hi (nI N) = some (lo', hi') ∧ ∀ s t, s < N → t < 128 → ((z_R lo' hi' s t = true) ↔ z_lead E s t) := by
  intro m
  induction m with
  | zero =>
    intro c n lo hi hc hn h0 h1 h2 h3 hE
    obtain ⟨n, rfl⟩ : ∃ n', n = n' + 1 := ⟨n - 1, by omega⟩
    refine ⟨lo, hi, ?_, fun s t hs ht => ?_⟩
    · rw [zf_A_joinSteps_2, if_pos ((nI_leI (by omega) (by omega)).mpr (by omega))]
    · have := z_lead_iff (E := E) (N := N) (R := fun s t => t < 128 ∧ z_R lo hi s t = true) hE (fun s hs => ⟨by omega, h0 s hs⟩) (fun s u hs hu => ⟨by have := hE s u hs hu; omega, h1 s u hs hu⟩)
        (fun c' hc' s t hs a b => ⟨b.1, h2 c' (by omega) s t hs b.1 a.2 b.2⟩) (fun s t hs a => h3 s t hs a.1 a.2) (s := s) (t := t) hs
      exact ⟨fun z => this.mp ⟨ht, z⟩, fun z => (this.mpr z).2⟩
  | succ m ih =>
    intro c n lo hi hc hn h0 h1 h2 h3 hE
    obtain ⟨n, rfl⟩ : ∃ n', n = n' + 1 := ⟨n - 1, by omega⟩
    rw [zf_A_joinSteps_2, if_neg (fun q => absurd ((nI_leI (by omega) (by omega)).mp q) (by omega))]
    obtain ⟨lo1, hi1, e1, f1⟩ := zm_join_loop (k2 := zf_A_joinSteps_2 n) (c := c) hN (by omega) (M := fun a b => z_R lo hi a b = true) N 0 z_FU lo hi (by omega) (by unfold z_FU; omega) (fun a b hb => ⟨Or.inl, fun z => z.elim id (fun q => absurd q.1 (by omega))⟩)
    rw [show (0 : Int32) = nI 0 from rfl, e1]
    refine ih (c + 1) n lo1 hi1 (by omega) (by omega) (fun s hs => (f1 s s (by omega)).mpr (Or.inl (h0 s hs))) (fun s u hs hu => (f1 s u (by have := hE s u hs hu; omega)).mpr (Or.inl (h1 s u hs hu))) ?_ ?_ hE
    · intro c' hc' s t hs ht a b
      have a' := (f1 s c' (by omega)).mp a
      have b' := (f1 c' t ht).mp b
      refine (f1 s t ht).mpr ?_
      by_cases q : c' = c
      · subst q
        have a1 : z_R lo hi s c' = true := by
          rcases a' with z | ⟨-, z, -⟩
          · exact z
          · exact z
        have b1 : z_R lo hi c' t = true := by
          rcases b' with z | ⟨-, -, z⟩
          · exact z
          · exact z
        exact Or.inr ⟨hs, a1, b1⟩
      · have hlt : c' < c := by omega
        rcases a' with z | ⟨-, z1, z2⟩
        · rcases b' with y | ⟨-, y1, y2⟩
          · exact Or.inl (h2 c' hlt s t hs ht z y)
          · exact Or.inr ⟨hs, h2 c' hlt s c hs (by omega) z y1, y2⟩
        · rcases b' with y | ⟨-, y1, y2⟩
          · exact Or.inr ⟨hs, z1, h2 c' hlt c t (by omega) ht z2 y⟩
          · exact Or.inr ⟨hs, z1, y2⟩
    · intro s t hs ht a
      rcases (f1 s t ht).mp a with z | ⟨-, z1, z2⟩
      · exact h3 s t hs ht z
      · exact z_lead_trans (h3 s c hs (by omega) z1) (h3 c t (by omega) ht z2)
