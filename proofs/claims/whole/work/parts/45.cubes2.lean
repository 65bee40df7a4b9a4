/-! ===== the reference's cubes ===== -/
/-- a state is as the digits D say on the genes before j -/
def z_fit (j D s : Nat) : Prop := ∀ g, g < j → D / 4 ^ g % 4 = 2 ∨ D / 4 ^ g % 4 = s / 2 ^ g % 2
theorem z_dig {D g : Nat} (hD : D < 65536) (hg : g < 7) : ((nI D >>> (((2 : Int32) * nI g) &&& 31)) &&& (3 : Int32)) = nI (D / 4 ^ g % 4) := by
  have h : ∀ g, g < 7 → ((((2 : Int32) * nI g) &&& 31).toBitVec.smod 32).toNat = 2 * g := by decide +kernel
  rw [pk_shrN (by omega) _ (2 * g) (h g hg), Nat.pow_mul, show 2 ^ 2 = 4 from rfl]
  have hl : D / 4 ^ g ≤ D := Nat.div_le_self _ _
  exact pk_andN (by omega) (m := 3) 2 (by decide +kernel)
theorem z_bit1 {s g : Nat} (hs : s < 128) (hg : g < 7) : ((nI s >>> (nI g &&& 31)) &&& (1 : Int32)) = nI (s / 2 ^ g % 2) := by
  rw [pk_shrN (by omega) _ g (z_sl g (by omega))]
  have hl : s / 2 ^ g ≤ s := Nat.div_le_self _ _
  exact pk_andN (by omega) (m := 1) 1 (by decide +kernel)
theorem zm_fits_loop {j D s : Nat} (hj : j ≤ 7) (hD : D < 65536) (hs : s < 128) : ∀ m i n (fl : Bool), i + m = j → m < n → (fl = true ↔ z_fit i D s) → ∃ fl' : Bool, zf_Q_fits_5 n (nI s) (nI j) (nI D) (if fl then 1 else 0) (nI i) = some (if fl' then 1 else 0) ∧ (fl' = true ↔ z_fit j D s) := by
  intro m
  induction m with
  | zero =>
    intro i n fl hi0 hn h
    obtain ⟨n, rfl⟩ : ∃ n', n = n' + 1 := ⟨n - 1, by omega⟩
    refine ⟨fl, ?_, by rw [show j = i by omega]; exact h⟩
    rw [zf_Q_fits_5, if_pos ((nI_leI (by omega) (by omega)).mpr (by omega))]
    cases fl with
    | true => exact z_gb1
    | false => exact z_gb0
  | succ m ih =>
    intro i n fl hi0 hn h
    obtain ⟨n, rfl⟩ : ∃ n', n = n' + 1 := ⟨n - 1, by omega⟩
    rw [zf_Q_fits_5, if_neg (fun q => absurd ((nI_leI (by omega) (by omega)).mp q) (by omega)), z_dig hD (by omega), z_bit1 hs (by omega)]
    unfold zf_Q_fits_46 zf_Q_fits_42 zf_Q_fits_47
    rw [show nI i + (1 : Int32) = nI (i + 1) from nI_1 i]
    have nx := fun c hc => ih (i + 1) n c (by omega) (by omega) hc
    have d4 : D / 4 ^ i % 4 < 4 := Nat.mod_lt _ (by decide)
    have d2 : s / 2 ^ i % 2 < 2 := Nat.mod_lt _ (by decide)
    have h2 : (nI (D / 4 ^ i % 4) = 2) ↔ D / 4 ^ i % 4 = 2 := nI_eq (b := 2) (by omega) (by decide)
    have h3 : (nI (D / 4 ^ i % 4) = nI (s / 2 ^ i % 2)) ↔ D / 4 ^ i % 4 = s / 2 ^ i % 2 := nI_eq (by omega) (by omega)
    cases fl with
    | false =>
      rw [if_pos (by rfl)]
      exact nx false ⟨fun z => (by cases z), fun q => h.mpr (fun g hg => q g (by omega))⟩
    | true =>
      have h' := h.mp rfl
      rw [if_neg (by decide)]
      have yes : (D / 4 ^ i % 4 = 2 ∨ D / 4 ^ i % 4 = s / 2 ^ i % 2) → (true = true ↔ z_fit (i + 1) D s) := fun q => ⟨fun _ g hg => by
        by_cases z : g = i
        · rw [z]
          exact q
        · exact h' g (by omega), fun _ => rfl⟩
      by_cases q1 : D / 4 ^ i % 4 = 2
      · rw [if_pos (h2.mpr q1)]
        exact nx true (yes (Or.inl q1))
      rw [if_neg (fun z => q1 (h2.mp z))]
      by_cases q2 : D / 4 ^ i % 4 = s / 2 ^ i % 2
      · rw [if_pos (h3.mpr q2)]
        exact nx true (yes (Or.inr q2))
      rw [if_neg (fun z => q2 (h3.mp z))]
      refine nx false ⟨fun z => (by cases z), fun w => ?_⟩
      rcases w i (by omega) with z | z
      · exact absurd z q1
      · exact absurd z q2
theorem zm_fits {j D s : Nat} (hj : j ≤ 7) (hD : D < 65536) (hs : s < 128) : ∃ fl : Bool, zf_Q_fits (nI s) (nI j) (nI D) = some (if fl then 1 else 0) ∧ (fl = true ↔ z_fit j D s) :=
  zm_fits_loop hj hD hs j 0 z_FU true (by omega) (by unfold z_FU; omega) ⟨fun _ g hg => absurd hg (by omega), fun _ => rfl⟩
/-- what a level knows: b is as D says, and the genes before j that may have any value make no difference -/
def z_lv (f : Nat → Bool) (n j b D : Nat) : Prop := b < 2 ^ j ∧ D < 4 ^ j ∧ z_fit j D b ∧ ∀ s, s < 2 ^ n → z_fit j D s → f s = f (b + 2 ^ j * (s / 2 ^ j))
theorem z_div_low {j b t g : Nat} (hg : g < j) : (b + 2 ^ j * t) / 2 ^ g % 2 = b / 2 ^ g % 2 := by
  obtain ⟨d, hd⟩ : ∃ d, j = g + (d + 1) := ⟨j - g - 1, by omega⟩
  rw [hd, Nat.pow_add, Nat.mul_assoc, Nat.add_mul_div_left _ _ (Nat.two_pow_pos g), Nat.pow_succ, Nat.mul_assoc, Nat.mul_left_comm, Nat.add_mul_mod_self_left]
theorem z_fit_low {j D b t : Nat} (h : z_fit j D b) : z_fit j D (b + 2 ^ j * t) := fun g hg => by
  rw [z_div_low hg]
  exact h g hg
theorem z_div_at {j b t : Nat} (hb : b < 2 ^ j) : (b + 2 ^ j * t) / 2 ^ j = t := by
  rw [Nat.add_mul_div_left _ _ (Nat.two_pow_pos j), Nat.div_eq_of_lt hb, Nat.zero_add]
theorem z_div_lt {n j s : Nat} (hj : j ≤ n) (hs : s < 2 ^ n) : s / 2 ^ j < 2 ^ (n - j) := by
  rw [Nat.div_lt_iff_lt_mul (Nat.two_pow_pos j), ← Nat.pow_add, show n - j + j = n by omega]
  exact hs
/-- the other value of gene j -/
def z_fl (j s : Nat) : Nat := if s.testBit j then s - 2 ^ j else s + 2 ^ j
theorem z_tb2 (s j : Nat) : s.testBit j = decide (s / 2 ^ j % 2 = 1) := by
  have := z_tb (j := j) (a := s % 2 ^ j) (t := s / 2 ^ j) (Nat.mod_lt _ (Nat.two_pow_pos j))
  rw [Nat.mod_add_div] at this
  exact this
theorem z_fl_div (j s : Nat) : z_fl j s = s % 2 ^ j + 2 ^ j * (if s / 2 ^ j % 2 = 1 then s / 2 ^ j - 1 else s / 2 ^ j + 1) := by
  have e := Nat.mod_add_div s (2 ^ j)
  unfold z_fl
  rw [z_tb2]
  by_cases q : s / 2 ^ j % 2 = 1
  · rw [if_pos q, if_pos (decide_eq_true q), Nat.mul_sub, Nat.mul_one]
    have : 2 ^ j * 1 ≤ 2 ^ j * (s / 2 ^ j) := Nat.mul_le_mul_left _ (by generalize s / 2 ^ j = t at q ⊢; omega)
    omega
  · rw [if_neg q, if_neg (by rw [decide_eq_false q]; decide), Nat.mul_add, Nat.mul_one]
    omega
theorem z_fl_ot {j b s : Nat} : b + 2 ^ j * (z_fl j s / 2 ^ j) = z_ot j b (s / 2 ^ j) := by
  rw [z_fl_div, z_div_at (Nat.mod_lt _ (Nat.two_pow_pos j))]
  unfold z_ot
  by_cases q : s / 2 ^ j % 2 = 1
  · rw [if_pos q, if_pos q, Nat.mul_sub, Nat.mul_one]
    have : 2 ^ j * 1 ≤ 2 ^ j * (s / 2 ^ j) := Nat.mul_le_mul_left _ (by generalize s / 2 ^ j = t at q ⊢; omega)
    omega
  · rw [if_neg q, if_neg q, Nat.mul_add, Nat.mul_one]
    omega
theorem z_fl_fit {j D s : Nat} (h : z_fit j D s) : z_fit j D (z_fl j s) := fun g hg => by
  rw [z_fl_div, z_div_low hg]
  have e : s / 2 ^ g % 2 = s % 2 ^ j / 2 ^ g % 2 := by
    conv => lhs; rw [← Nat.mod_add_div s (2 ^ j)]
    exact z_div_low hg
  rw [← e]
  exact h g hg
theorem z_fl_lt : ∀ k, k ≤ 7 → ∀ j, j < k → ∀ s, s < 2 ^ k → z_fl j s < 2 ^ k := by decide +kernel
/-- in which way a level's states are in the set -/
def z_kind (f : Nat → Bool) (n j b : Nat) : Nat := if z_void f (n - j) j b then 0 else if z_full f (n - j) j b then 1 else if decide (j < n) && z_dep f n j b then 2 else 3
section
variable {k : Nat} {rl rh : Nat → Int64} {Ql : Nat → Int32} {x v : Nat}
theorem zm_in (hx : x < 128) (hv : v < 128) (hl : Ql x = nI v) {s : Nat} (hs : s < 128) : zf_Q_in (nI s) (nI x) rl rh Ql = some (if z_R rl rh v s then 1 else 0) := by
  unfold zf_Q_in
  rw [z_gd_n hx (by decide), nI_clamp (by omega), hl, zm_qleads rl rh hv hs, z_b1_of]
  cases z_R rl rh v s with
  | true => exact z_gb1
  | false => exact z_gb0
theorem zm_share_step (hk : k ≤ 7) (hx : x < 128) (hv : v < 128) (hl : Ql x = nI v) {j D s : Nat} (hj : j ≤ k) (hs : s < 2 ^ k) {n : Nat} {A B C : Bool} (hfit : zf_Q_fits (nI s) (nI j) (nI D) = some 1) :
    zf_Q_share_12 (n + 1) (nI x) (nI j) (nI D) (if A then 1 else 0) (if B then 1 else 0) (if C then 1 else 0) (nI s) (nI k) rl rh Ql =
    zf_Q_share_12 n (nI x) (nI j) (nI D) (if A || z_R rl rh v s then 1 else 0) (if B && z_R rl rh v s then 1 else 0) (if C || (decide (j < k) && (z_R rl rh v s != z_R rl rh v (z_fl j s))) then 1 else 0) (nI (s + 1)) (nI k) rl rh Ql := by
  obtain ⟨p1, p2, p3⟩ := z_pow k hk
  have hin := zm_in (rl := rl) (rh := rh) hx hv hl (show s < 128 by omega)
  have h3 : ∀ (a' b' : Int32), zf_Q_share_75 (zf_Q_share_12 n) (nI x) (nI j) (nI D) a' (if C then 1 else 0) (nI s) b' (nI k) rl rh Ql = zf_Q_share_12 n (nI x) (nI j) (nI D) a' b' (if C || (decide (j < k) && (z_R rl rh v s != z_R rl rh v (z_fl j s))) then 1 else 0) (nI (s + 1)) (nI k) rl rh Ql := by
    intro a' b'
    unfold zf_Q_share_75 zf_Q_share_115 zf_Q_share_111 zf_Q_share_116
    rw [show nI s + (1 : Int32) = nI (s + 1) from nI_1 s]
    cases C with
    | true =>
      rw [if_neg (by decide)]
      rfl
    | false =>
      rw [if_pos (by rfl)]
      by_cases q : j < k
      · have hfl := z_fl_lt k hk j q s hs
        have hxr : (nI s ^^^ ((1 : Int32) <<< (nI j &&& 31))) = nI (z_fl j s) := (z_sx j (by omega) s (by omega)).1
        rw [if_neg (fun z => absurd ((nI_leI (by omega) (by omega)).mp z) (by omega)), hin, z_b1_of, hxr, zm_in hx hv hl (show z_fl j s < 128 by omega), z_b1_of, decide_eq_true q]
        cases z_R rl rh v s <;> cases z_R rl rh v (z_fl j s) <;> rfl
      · rw [if_pos ((nI_leI (by omega) (by omega)).mpr (by omega)), decide_eq_false q]
        rfl
  have h2 : ∀ (a' : Int32), zf_Q_share_53 (zf_Q_share_12 n) (nI x) (nI j) (nI D) (if B then 1 else 0) (if C then 1 else 0) (nI s) a' (nI k) rl rh Ql = zf_Q_share_12 n (nI x) (nI j) (nI D) a' (if B && z_R rl rh v s then 1 else 0) (if C || (decide (j < k) && (z_R rl rh v s != z_R rl rh v (z_fl j s))) then 1 else 0) (nI (s + 1)) (nI k) rl rh Ql := by
    intro a'
    unfold zf_Q_share_53 zf_Q_share_74
    rw [h3, h3, hin, z_b1_of]
    cases B <;> cases z_R rl rh v s <;> rfl
  rw [zf_Q_share_12, p1, if_neg (fun q => absurd ((nI_leI (by omega) (by omega)).mp q) (by omega)), hfit, z_b1_of, if_neg (by decide)]
  unfold zf_Q_share_48
  rw [h2, h2, hin, z_b1_of]
  cases A <;> cases z_R rl rh v s <;> rfl
theorem zm_share_loop (hk : k ≤ 7) (hx : x < 128) (hv : v < 128) (hl : Ql x = nI v) {j D : Nat} (hj : j ≤ k) (hD : D < 65536) :
    ∀ m i n (A B C : Bool), i + m = 2 ^ k → m < n → (A = true ↔ ∃ s, s < i ∧ z_fit j D s ∧ z_R rl rh v s = true) → (B = true ↔ ∀ s, s < i → z_fit j D s → z_R rl rh v s = true) → (C = true ↔ j < k ∧ ∃ s, s < i ∧ z_fit j D s ∧ z_R rl rh v s ≠ z_R rl rh v (z_fl j s)) →
    ∃ A' B' C' : Bool, zf_Q_share_12 n (nI x) (nI j) (nI D) (if A then 1 else 0) (if B then 1 else 0) (if C then 1 else 0) (nI i) (nI k) rl rh Ql = some (if A' then (if B' then 1 else if C' then 2 else 3) else 0) ∧
      (A' = true ↔ ∃ s, s < 2 ^ k ∧ z_fit j D s ∧ z_R rl rh v s = true) ∧ (B' = true ↔ ∀ s, s < 2 ^ k → z_fit j D s → z_R rl rh v s = true) ∧ (C' = true ↔ j < k ∧ ∃ s, s < 2 ^ k ∧ z_fit j D s ∧ z_R rl rh v s ≠ z_R rl rh v (z_fl j s)) := by
  obtain ⟨p1, p2, p3⟩ := z_pow k hk
  intro m
  induction m with
  | zero =>
    intro i n A B C hi0 hn hA hB hC
    obtain ⟨n, rfl⟩ : ∃ n', n = n' + 1 := ⟨n - 1, by omega⟩
    rw [show i = 2 ^ k by omega] at hA hB hC
    refine ⟨A, B, C, ?_, hA, hB, hC⟩
    rw [zf_Q_share_12, p1, if_pos ((nI_leI (by omega) (by omega)).mpr (by omega))]
    cases A <;> cases B <;> cases C <;> rfl
  | succ m ih =>
    intro i n A B C hi0 hn hA hB hC
    obtain ⟨n, rfl⟩ : ∃ n', n = n' + 1 := ⟨n - 1, by omega⟩
    obtain ⟨fl, e, hfl⟩ := zm_fits (j := j) (D := D) (s := i) (by omega) hD (by omega)
    cases fl with
    | false =>
      have hno : ¬ z_fit j D i := fun z => by cases hfl.mpr z
      have e1 : zf_Q_share_12 (n + 1) (nI x) (nI j) (nI D) (if A then 1 else 0) (if B then 1 else 0) (if C then 1 else 0) (nI i) (nI k) rl rh Ql = zf_Q_share_12 n (nI x) (nI j) (nI D) (if A then 1 else 0) (if B then 1 else 0) (if C then 1 else 0) (nI (i + 1)) (nI k) rl rh Ql := by
        rw [zf_Q_share_12, p1, if_neg (fun q => absurd ((nI_leI (by omega) (by omega)).mp q) (by omega)), e, z_b1_of, if_pos (by rfl), show nI i + (1 : Int32) = nI (i + 1) from nI_1 i]
      rw [e1]
      refine ih (i + 1) n A B C (by omega) (by omega) ?_ ?_ ?_
      · rw [hA]
        exact ⟨fun ⟨s, a, b, c⟩ => ⟨s, by omega, b, c⟩, fun ⟨s, a, b, c⟩ => ⟨s, by
          by_cases z : s = i
          · rw [z] at b
            exact absurd b hno
          · omega, b, c⟩⟩
      · rw [hB]
        exact ⟨fun q s a b => by
          by_cases z : s = i
          · rw [z] at b
            exact absurd b hno
          · exact q s (by omega) b, fun q s a b => q s (by omega) b⟩
      · rw [hC]
        exact ⟨fun ⟨h0, s, a, b, c⟩ => ⟨h0, s, by omega, b, c⟩, fun ⟨h0, s, a, b, c⟩ => ⟨h0, s, by
          by_cases z : s = i
          · rw [z] at b
            exact absurd b hno
          · omega, b, c⟩⟩
    | true =>
      have hyes := hfl.mp rfl
      rw [zm_share_step hk hx hv hl hj (show i < 2 ^ k by omega) e]
      refine ih (i + 1) n _ _ _ (by omega) (by omega) ?_ ?_ ?_
      · rw [Bool.or_eq_true, hA]
        constructor
        · rintro (⟨s, a, b, c⟩ | h)
          · exact ⟨s, by omega, b, c⟩
          · exact ⟨i, by omega, hyes, h⟩
        · rintro ⟨s, a, b, c⟩
          by_cases z : s = i
          · rw [z] at c
            exact Or.inr c
          · exact Or.inl ⟨s, by omega, b, c⟩
      · rw [Bool.and_eq_true, hB]
        constructor
        · rintro ⟨h1, h2⟩ s a b
          by_cases z : s = i
          · rw [z]
            exact h2
          · exact h1 s (by omega) b
        · intro h
          exact ⟨fun s a b => h s (by omega) b, h i (by omega) hyes⟩
      · rw [Bool.or_eq_true, hC, Bool.and_eq_true, decide_eq_true_iff, bne_iff_ne]
        constructor
        · rintro (⟨h0, s, a, b, c⟩ | ⟨h0, h⟩)
          · exact ⟨h0, s, by omega, b, c⟩
          · exact ⟨h0, i, by omega, hyes, h⟩
        · rintro ⟨h0, s, a, b, c⟩
          by_cases z : s = i
          · rw [z] at c
            exact Or.inr ⟨h0, c⟩
          · exact Or.inl ⟨h0, s, by omega, b, c⟩
theorem zm_share (hk : k ≤ 7) (hx : x < 128) (hv : v < 128) (hl : Ql x = nI v) {j b D : Nat} (hj : j ≤ k) (L : z_lv (z_R rl rh v) k j b D) : zf_Q_share (nI x) (nI j) (nI D) (nI k) rl rh Ql = some (nI (z_kind (z_R rl rh v) k j b)) := by
  have p2 := (z_pow k hk).2.1
  obtain ⟨hb, hD, hfb, hinv⟩ := L
  have h4 : 4 ^ j ≤ 4 ^ 7 := Nat.pow_le_pow_right (by decide) (by omega)
  obtain ⟨A, B, C, e, hA, hB, hC⟩ := zm_share_loop (rl := rl) (rh := rh) hk hx hv hl hj (show D < 65536 by omega) (2 ^ k) 0 z_FU false true false (by omega) (by unfold z_FU; omega) ⟨fun z => (by cases z), fun ⟨s, a, _⟩ => absurd a (by omega)⟩ ⟨fun _ s a => absurd a (by omega), fun _ => rfl⟩ ⟨fun z => (by cases z), fun ⟨_, s, a, _⟩ => absurd a (by omega)⟩
  have at_ : ∀ t, t < 2 ^ (k - j) → b + 2 ^ j * t < 2 ^ k ∧ z_fit j D (b + 2 ^ j * t) := fun t ht => ⟨z_at_lt hj hb ht, z_fit_low hfb⟩
  have eA : A = !z_void (z_R rl rh v) (k - j) j b := z_bb (by
    rw [hA]
    constructor
    · rintro ⟨s, a, c, d⟩
      cases q : z_void (z_R rl rh v) (k - j) j b with
      | false => rfl
      | true =>
        rw [hinv s a c, z_void_iff.mp q (s / 2 ^ j) (z_div_lt hj a)] at d
        cases d
    · intro q
      apply Classical.byContradiction
      intro hno
      have : z_void (z_R rl rh v) (k - j) j b = true := z_void_iff.mpr (fun t ht => by
        cases w : z_R rl rh v (b + 2 ^ j * t) with
        | false => rfl
        | true => exact absurd ⟨_, (at_ t ht).1, (at_ t ht).2, w⟩ hno)
      rw [this] at q
      cases q)
  have eB : B = z_full (z_R rl rh v) (k - j) j b := z_bb (by
    rw [hB, z_full_iff]
    constructor
    · exact fun q t ht => q _ (at_ t ht).1 (at_ t ht).2
    · intro q s a c
      rw [hinv s a c]
      exact q _ (z_div_lt hj a))
  have eC : C = (decide (j < k) && z_dep (z_R rl rh v) k j b) := z_bb (by
    rw [hC, Bool.and_eq_true, decide_eq_true_iff]
    constructor
    · rintro ⟨h0, s, a, c, d⟩
      refine ⟨h0, (z_dep_iff h0).mpr ⟨s / 2 ^ j, z_div_lt hj a, ?_⟩⟩
      rw [hinv s a c, hinv (z_fl j s) (z_fl_lt k hk j h0 s a) (z_fl_fit c), z_fl_ot] at d
      exact d
    · rintro ⟨h0, h⟩
      obtain ⟨t, ht, hne⟩ := (z_dep_iff h0).mp h
      refine ⟨h0, b + 2 ^ j * t, (at_ t ht).1, (at_ t ht).2, ?_⟩
      rw [hinv (z_fl j (b + 2 ^ j * t)) (z_fl_lt k hk j h0 _ (at_ t ht).1) (z_fl_fit (at_ t ht).2), z_fl_ot, z_div_at hb]
      exact hne)
  have e' : zf_Q_share (nI x) (nI j) (nI D) (nI k) rl rh Ql = some (if A then (if B then 1 else if C then 2 else 3) else 0) := e
  rw [e', eA, eB, eC]
  unfold z_kind
  cases z_void (z_R rl rh v) (k - j) j b <;> cases z_full (z_R rl rh v) (k - j) j b <;> cases (decide (j < k) && z_dep (z_R rl rh v) k j b) <;> rfl
end
/-- the next level -/
theorem z_dig_lo {j D d g : Nat} (hg : g < j) : (D + d * 4 ^ j) / 4 ^ g % 4 = D / 4 ^ g % 4 := by
  obtain ⟨e, he⟩ : ∃ e, j = g + (e + 1) := ⟨j - g - 1, by omega⟩
  rw [he, Nat.pow_add, ← Nat.mul_assoc, Nat.mul_comm d, Nat.mul_assoc, Nat.add_mul_div_left _ _ (Nat.pow_pos (by decide)), Nat.pow_succ, ← Nat.mul_assoc, Nat.add_mul_mod_self_right]
theorem z_dig_at {j D d : Nat} (hD : D < 4 ^ j) (hd : d < 4) : (D + d * 4 ^ j) / 4 ^ j % 4 = d := by
  rw [Nat.add_mul_div_right _ _ (Nat.pow_pos (by decide)), Nat.div_eq_of_lt hD, Nat.zero_add, Nat.mod_eq_of_lt hd]
theorem z_fit_succ {j D d s : Nat} (hD : D < 4 ^ j) (hd : d < 4) : z_fit (j + 1) (D + d * 4 ^ j) s ↔ (z_fit j D s ∧ (d = 2 ∨ d = s / 2 ^ j % 2)) := by
  constructor
  · intro h
    refine ⟨fun g hg => ?_, ?_⟩
    · have := h g (by omega)
      rw [z_dig_lo hg] at this
      exact this
    · have := h j (by omega)
      rw [z_dig_at hD hd] at this
      exact this
  · rintro ⟨h1, h2⟩ g hg
    by_cases z : g = j
    · rw [z, z_dig_at hD hd]
      exact h2
    · rw [z_dig_lo (by omega)]
      exact h1 g (by omega)
theorem z_up (j s : Nat) : s / 2 ^ j = s / 2 ^ j % 2 + 2 * (s / 2 ^ (j + 1)) := by
  rw [Nat.pow_succ, ← Nat.div_div_eq_div_mul]
  omega
theorem z_lv_bit {f : Nat → Bool} {n j b D c : Nat} (L : z_lv f n j b D) (hc : c < 2) : z_lv f n (j + 1) (b + 2 ^ j * c) (D + c * 4 ^ j) := by
  obtain ⟨hb, hD, hf, hi⟩ := L
  have ep : 2 ^ (j + 1) = 2 ^ j * 2 := Nat.pow_succ 2 j
  have e4 : 4 ^ (j + 1) = 4 ^ j * 4 := Nat.pow_succ 4 j
  have hb2 : b + 2 ^ j * c < 2 ^ (j + 1) := by
    rcases (show c = 0 ∨ c = 1 by omega) with rfl | rfl <;> omega
  refine ⟨hb2, ?_, ?_, ?_⟩
  · rcases (show c = 0 ∨ c = 1 by omega) with rfl | rfl <;> omega
  · refine (z_fit_succ hD (by omega)).mpr ⟨z_fit_low hf, Or.inr ?_⟩
    rw [z_div_at hb, Nat.mod_eq_of_lt hc]
  · intro s hs hfit
    obtain ⟨h1, h2⟩ := (z_fit_succ hD (by omega)).mp hfit
    have h3 : s / 2 ^ j % 2 = c := by
      rcases h2 with q | q
      · omega
      · exact q.symm
    rw [hi s hs h1]
    congr 1
    have hu := z_up j s
    rw [h3] at hu
    rw [hu, ep, Nat.mul_add, Nat.mul_assoc, Nat.add_assoc]
theorem z_lv_any {f : Nat → Bool} {n j b D : Nat} (hj : j < n) (L : z_lv f n j b D) (hd : z_dep f n j b = false) : z_lv f n (j + 1) b (D + 2 * 4 ^ j) := by
  obtain ⟨hb, hD, hf, hi⟩ := L
  have ep : 2 ^ (j + 1) = 2 ^ j * 2 := Nat.pow_succ 2 j
  have e4 : 4 ^ (j + 1) = 4 ^ j * 4 := Nat.pow_succ 4 j
  have hsm : z_same f n (j + 1) b (b + 2 ^ j) = true := by unfold z_dep at hd; simpa using hd
  refine ⟨by omega, by omega, (z_fit_succ hD (by omega)).mpr ⟨hf, Or.inl rfl⟩, ?_⟩
  intro s hs hfit
  obtain ⟨h1, -⟩ := (z_fit_succ hD (by omega)).mp hfit
  have hu := z_up j s
  have hlt := z_div_lt (show j + 1 ≤ n by omega) hs
  rw [hi s hs h1]
  rcases Nat.mod_two_eq_zero_or_one (s / 2 ^ j) with q | q
  · rw [q, Nat.zero_add] at hu
    rw [hu, ep, Nat.mul_assoc]
  · rw [q] at hu
    have := z_same_iff.mp hsm (s / 2 ^ (j + 1)) hlt
    rw [this, hu, ep]
    congr 1
    rw [Nat.mul_add, Nat.mul_one, Nat.mul_assoc]
    omega
