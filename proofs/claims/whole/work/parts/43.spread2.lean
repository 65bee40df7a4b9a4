/-! ===== the reference's spread ===== -/
theorem z_bb {a b : Bool} (h : a = true ↔ b = true) : a = b := by
  cases a <;> cases b <;> simp at h ⊢
theorem z_sl : ∀ n, n < 32 → ((nI n &&& 31).toBitVec.smod 32).toNat = n := by decide +kernel
theorem z_shlN {i j : Nat} (hj : j < 7) (hi : i < 1024) : nI i <<< (nI j &&& 31) = nI (2 ^ j * i) := by
  have hp : 2 ^ j ≤ 2 ^ 7 := Nat.pow_le_pow_right (by decide) (by omega)
  have hm : i * 2 ^ j ≤ 1024 * 2 ^ 7 := Nat.mul_le_mul (by omega) hp
  rw [pk_shlN (nI j &&& 31) j (z_sl j (by omega)) (by omega), Nat.mul_comm]
theorem z_at_lt {k j a t : Nat} (hj : j ≤ k) (ha : a < 2 ^ j) (ht : t < 2 ^ (k - j)) : a + 2 ^ j * t < 2 ^ k := by
  have e : 2 ^ k = 2 ^ j * 2 ^ (k - j) := by rw [← Nat.pow_add]; congr 1; omega
  have h1 : 2 ^ j * (t + 1) ≤ 2 ^ j * 2 ^ (k - j) := Nat.mul_le_mul_left _ (by omega)
  rw [Nat.mul_add, Nat.mul_one] at h1
  omega
section
variable {k g : Nat} {fx : Nat → Int32} {lo hi : Nat → Int64}
theorem zm_qv (hk : k ≤ 7) (hg : g < k) (hf : z_fok fx g) {j a t : Nat} (hj : j < k) (ha : a < 2 ^ j) (ht : t < 2 ^ (k - j)) : zf_Q_valueAt (nI g) (nI a + (nI t <<< (nI j &&& 31))) lo hi fx = some (if z_vv fx lo hi g (a + 2 ^ j * t) then 1 else 0) := by
  have p2 := (z_pow k hk).2.1
  have p3 := (z_pow (k - j) (by omega)).2.1
  have hl := z_at_lt (Nat.le_of_lt hj) ha ht
  rw [z_shlN (by omega) (by omega), nI_add, zm_valueAt lo hi (by omega) (by omega) hf]
theorem zm_sameLeft_loop (hk : k ≤ 7) (hg : g < k) (hf : z_fok fx g) {j a b : Nat} (hj : j < k) (ha : a < 2 ^ j) (hb : b < 2 ^ j) :
    ∀ m i n (fl : Bool), i + m = 2 ^ (k - j) → m < n → (fl = true ↔ ∀ t, t < i → z_vv fx lo hi g (a + 2 ^ j * t) = z_vv fx lo hi g (b + 2 ^ j * t)) →
    zf_Q_sameLeft_6 n (nI g) (nI j) (nI a) (nI b) (if fl then 1 else 0) (nI i) (nI k) lo hi fx = some (if z_same (z_vv fx lo hi g) k j a b then 1 else 0) := by
  obtain ⟨p1, p2, p3⟩ := z_pow (k - j) (by omega)
  have hsub : nI k - nI j = nI (k - j) := pk_sub (by omega)
  intro m
  induction m with
  | zero =>
    intro i n fl hi0 hn h
    obtain ⟨n, rfl⟩ : ∃ n', n = n' + 1 := ⟨n - 1, by omega⟩
    rw [zf_Q_sameLeft_6, hsub, p1, if_pos ((nI_leI (by omega) (by omega)).mpr (by omega))]
    have : fl = z_same (z_vv fx lo hi g) k j a b := by
      have e : fl = true ↔ z_same (z_vv fx lo hi g) k j a b = true := by
        rw [h, z_same_iff, show i = 2 ^ (k - j) by omega]
      exact z_bb e
    rw [this]
    cases z_same (z_vv fx lo hi g) k j a b with
    | true => exact z_gb1
    | false => exact z_gb0
  | succ m ih =>
    intro i n fl hi0 hn h
    obtain ⟨n, rfl⟩ : ∃ n', n = n' + 1 := ⟨n - 1, by omega⟩
    rw [zf_Q_sameLeft_6, hsub, p1, if_neg (fun q => absurd ((nI_leI (by omega) (by omega)).mp q) (by omega))]
    unfold zf_Q_sameLeft_54 zf_Q_sameLeft_55
    rw [show nI i + (1 : Int32) = nI (i + 1) from nI_1 i]
    have nx := fun c hc => ih (i + 1) n c (by omega) (by omega) hc
    cases fl with
    | false =>
      rw [if_pos (by rfl)]
      refine nx false ⟨fun z => (by cases z), fun q => ?_⟩
      exact h.mpr (fun t ht => q t (by omega))
    | true =>
      have h' := h.mp rfl
      rw [if_neg (by decide), zm_qv hk hg hf hj ha (by omega), z_b1_of, zm_qv hk hg hf hj hb (by omega), z_b1_of]
      by_cases q : z_vv fx lo hi g (a + 2 ^ j * i) = z_vv fx lo hi g (b + 2 ^ j * i)
      · rw [if_pos (by rw [q])]
        refine nx true ⟨fun _ t ht => ?_, fun _ => rfl⟩
        by_cases z : t = i
        · rw [z]
          exact q
        · exact h' t (by omega)
      · rw [if_neg (fun w => q (by cases q1 : z_vv fx lo hi g (a + 2 ^ j * i) <;> cases q2 : z_vv fx lo hi g (b + 2 ^ j * i) <;> rw [q1, q2] at w <;> first | rfl | exact absurd w (by decide)))]
        exact nx false ⟨fun z => (by cases z), fun w => absurd (w i (by omega)) q⟩
theorem zm_sameLeft (hk : k ≤ 7) (hg : g < k) (hf : z_fok fx g) {j a b : Nat} (hj : j < k) (ha : a < 2 ^ j) (hb : b < 2 ^ j) : zf_Q_sameLeft (nI g) (nI j) (nI a) (nI b) (nI k) lo hi fx = some (if z_same (z_vv fx lo hi g) k j a b then 1 else 0) :=
  zm_sameLeft_loop hk hg hf hj ha hb (2 ^ (k - j)) 0 z_FU true (by omega) (by have := (z_pow (k - j) (by omega)).2.1; unfold z_FU; omega) ⟨fun _ t ht => absurd ht (by omega), fun _ => rfl⟩
theorem z_sx : ∀ j, j < 7 → ∀ s, s < 128 → (nI s ^^^ ((1 : Int32) <<< (nI j &&& 31))) = nI (if s.testBit j then s - 2 ^ j else s + 2 ^ j) ∧ (if s.testBit j then s - 2 ^ j else s + 2 ^ j) < 128 := by decide +kernel
/-- the state that differs from a + 2^j t in gene j -/
def z_ot (j a t : Nat) : Nat := if t % 2 = 1 then a + 2 ^ j * t - 2 ^ j else a + 2 ^ j * t + 2 ^ j
theorem z_tb {j a t : Nat} (ha : a < 2 ^ j) : (a + 2 ^ j * t).testBit j = decide (t % 2 = 1) := by
  rw [Nat.add_comm, Nat.testBit_two_pow_mul_add t ha, if_neg (Nat.lt_irrefl j), Nat.sub_self, Nat.testBit_zero]
theorem z_dep_iff {f : Nat → Bool} {j a : Nat} (hj : j < k) : z_dep f k j a = true ↔ ∃ t, t < 2 ^ (k - j) ∧ f (a + 2 ^ j * t) ≠ f (z_ot j a t) := by
  have e : 2 ^ (k - j) = 2 ^ (k - (j + 1)) * 2 := by rw [← Nat.pow_succ]; congr 1; omega
  have ep : 2 ^ (j + 1) = 2 ^ j * 2 := Nat.pow_succ 2 j
  have hd : z_dep f k j a = true ↔ ¬ z_same f k (j + 1) a (a + 2 ^ j) = true := by
    unfold z_dep
    cases z_same f k (j + 1) a (a + 2 ^ j) <;> simp
  rw [hd, z_same_iff]
  constructor
  · intro h
    apply Classical.byContradiction
    intro hno
    apply h
    intro t ht
    apply Classical.byContradiction
    intro hne
    apply hno
    refine ⟨2 * t, by omega, ?_⟩
    unfold z_ot
    rw [if_neg (by omega)]
    rw [ep, Nat.mul_assoc] at hne
    intro q
    apply hne
    rw [q]
    congr 1 <;> omega
  · rintro ⟨t, ht, hne⟩ h
    apply hne
    have h2 := h (t / 2) (by omega)
    rw [ep, Nat.mul_assoc] at h2
    unfold z_ot
    rcases Nat.mod_two_eq_zero_or_one t with q | q
    · rw [if_neg (by omega)]
      rw [show 2 * (t / 2) = t by omega] at h2
      rw [h2]
      congr 1 <;> omega
    · rw [if_pos q]
      have e3 : 2 ^ j * t = 2 ^ j * (2 * (t / 2)) + 2 ^ j := by
        have : t = 2 * (t / 2) + 1 := by omega
        rw [this, Nat.mul_add, Nat.mul_one, ← this]
      rw [show a + 2 ^ j * t - 2 ^ j = a + 2 ^ j * (2 * (t / 2)) by omega, h2]
      congr 1 <;> omega
theorem zm_differs_loop (hk : k ≤ 7) (hg : g < k) (hf : z_fok fx g) {j a : Nat} (hj : j < k) (ha : a < 2 ^ j) :
    ∀ m i n (fl : Bool), i + m = 2 ^ (k - j) → m < n → (fl = true ↔ ∃ t, t < i ∧ z_vv fx lo hi g (a + 2 ^ j * t) ≠ z_vv fx lo hi g (z_ot j a t)) →
    zf_Q_differs_6 n (nI g) (nI j) (nI a) (if fl then 1 else 0) (nI i) (nI k) lo hi fx = some (if z_dep (z_vv fx lo hi g) k j a then 1 else 0) := by
  obtain ⟨p1, p2, p3⟩ := z_pow (k - j) (by omega)
  have pk := (z_pow k hk).2.1
  have hsub : nI k - nI j = nI (k - j) := pk_sub (by omega)
  intro m
  induction m with
  | zero =>
    intro i n fl hi0 hn h
    obtain ⟨n, rfl⟩ : ∃ n', n = n' + 1 := ⟨n - 1, by omega⟩
    rw [zf_Q_differs_6, hsub, p1, if_pos ((nI_leI (by omega) (by omega)).mpr (by omega))]
    have : fl = z_dep (z_vv fx lo hi g) k j a := by
      have e : fl = true ↔ z_dep (z_vv fx lo hi g) k j a = true := by
        rw [h, z_dep_iff hj, show i = 2 ^ (k - j) by omega]
      exact z_bb e
    rw [this]
    cases z_dep (z_vv fx lo hi g) k j a with
    | true => exact z_gb1
    | false => exact z_gb0
  | succ m ih =>
    intro i n fl hi0 hn h
    obtain ⟨n, rfl⟩ : ∃ n', n = n' + 1 := ⟨n - 1, by omega⟩
    rw [zf_Q_differs_6, hsub, p1, if_neg (fun q => absurd ((nI_leI (by omega) (by omega)).mp q) (by omega))]
    unfold zf_Q_differs_53 zf_Q_differs_58
    rw [show nI i + (1 : Int32) = nI (i + 1) from nI_1 i]
    have nx := fun c hc => ih (i + 1) n c (by omega) (by omega) hc
    cases fl with
    | true =>
      obtain ⟨t, ht, hne⟩ := h.mp rfl
      rw [if_neg (by decide)]
      exact nx true ⟨fun _ => ⟨t, by omega, hne⟩, fun _ => rfl⟩
    | false =>
      have h' : ∀ t, t < i → z_vv fx lo hi g (a + 2 ^ j * t) = z_vv fx lo hi g (z_ot j a t) := fun t ht => by
        apply Classical.byContradiction
        intro hne
        cases h.mpr ⟨t, ht, hne⟩
      have hl := z_at_lt (Nat.le_of_lt hj) ha (show i < 2 ^ (k - j) by omega)
      have hx := z_sx j (by omega) (a + 2 ^ j * i) (by omega)
      have eo : (if (a + 2 ^ j * i).testBit j then a + 2 ^ j * i - 2 ^ j else a + 2 ^ j * i + 2 ^ j) = z_ot j a i := by
        rw [z_tb ha]
        unfold z_ot
        by_cases q : i % 2 = 1
        · rw [if_pos q, if_pos (decide_eq_true q)]
        · rw [if_neg q, if_neg (by rw [decide_eq_false q]; decide)]
      rw [eo] at hx
      rw [if_pos (by rfl), zm_qv hk hg hf hj ha (by omega), z_b1_of, z_shlN (by omega) (by omega), nI_add, hx.1, zm_valueAt lo hi (by omega) hx.2 hf, z_b1_of]
      by_cases q : z_vv fx lo hi g (a + 2 ^ j * i) = z_vv fx lo hi g (z_ot j a i)
      · rw [if_pos (by rw [q])]
        refine nx false ⟨fun z => (by cases z), ?_⟩
        rintro ⟨t, ht, hne⟩
        by_cases z : t = i
        · rw [z] at hne
          exact absurd q hne
        · exact absurd (h' t (by omega)) hne
      · rw [if_neg (fun w => q (by cases q1 : z_vv fx lo hi g (a + 2 ^ j * i) <;> cases q2 : z_vv fx lo hi g (z_ot j a i) <;> rw [q1, q2] at w <;> first | rfl | exact absurd w (by decide)))]
        exact nx true ⟨fun _ => ⟨i, by omega, q⟩, fun _ => rfl⟩
theorem zm_differs (hk : k ≤ 7) (hg : g < k) (hf : z_fok fx g) {j a : Nat} (hj : j < k) (ha : a < 2 ^ j) : zf_Q_differs (nI g) (nI j) (nI a) (nI k) lo hi fx = some (if z_dep (z_vv fx lo hi g) k j a then 1 else 0) :=
  zm_differs_loop hk hg hf hj ha (2 ^ (k - j)) 0 z_FU false (by omega) (by have := (z_pow (k - j) (by omega)).2.1; unfold z_FU; omega) ⟨fun z => (by cases z), fun ⟨t, ht, _⟩ => absurd ht (by omega)⟩
/-- is a the first of its kind -/
theorem zm_fresh_loop (hk : k ≤ 7) (hg : g < k) (hf : z_fok fx g) {j a : Nat} (hj : j < k) (ha : a < 2 ^ j) {k25 : Int32 → Int32 → Int32 → Int32 → Int32 → (Nat → Int64) → (Nat → Int64) → (Nat → Int32) → Option (Int32)} {x2 : Int32} :
    ∀ m i n (fl : Bool), i + m = a → m < n → (fl = true ↔ z_dep (z_vv fx lo hi g) k j a = true ∧ ∀ b, b < i → z_same (z_vv fx lo hi g) k j a b = false) →
    zf_Q_spread_46 k25 n (nI g) x2 (nI j) (nI a) (if fl then 1 else 0) (nI i) (nI k) lo hi fx = k25 (nI g) (x2 + (if z_fresh (z_vv fx lo hi g) k j a then 1 else 0)) (nI j) (nI (a + 1)) (nI k) lo hi fx := by
  have pj := (z_pow j (by omega)).2.1
  have fin : ∀ fl : Bool, (fl = true ↔ z_fresh (z_vv fx lo hi g) k j a = true) → zf_Q_spread_84 k25 (nI g) x2 (nI j) (nI a) (if fl then 1 else 0) (nI k) lo hi fx = k25 (nI g) (x2 + (if z_fresh (z_vv fx lo hi g) k j a then 1 else 0)) (nI j) (nI (a + 1)) (nI k) lo hi fx := by
    intro fl h
    unfold zf_Q_spread_84 zf_Q_spread_95
    rw [show nI a + (1 : Int32) = nI (a + 1) from nI_1 a]
    have : fl = z_fresh (z_vv fx lo hi g) k j a := z_bb h
    rw [← this]
    cases fl with
    | true => rw [if_neg (by decide)]; rfl
    | false => rw [if_pos (by rfl)]; rfl
  intro m
  induction m with
  | zero =>
    intro i n fl hi0 hn h
    obtain ⟨n, rfl⟩ : ∃ n', n = n' + 1 := ⟨n - 1, by omega⟩
    rw [zf_Q_spread_46, if_pos ((nI_leI (by omega) (by omega)).mpr (by omega))]
    exact fin fl (by rw [h, z_fresh_iff, show i = a by omega])
  | succ m ih =>
    intro i n fl hi0 hn h
    obtain ⟨n, rfl⟩ : ∃ n', n = n' + 1 := ⟨n - 1, by omega⟩
    rw [zf_Q_spread_46, if_neg (fun q => absurd ((nI_leI (by omega) (by omega)).mp q) (by omega))]
    cases fl with
    | false =>
      rw [if_pos (by rfl)]
      refine fin false ⟨fun z => (by cases z), fun q => ?_⟩
      obtain ⟨q1, q2⟩ := z_fresh_iff.mp q
      exact h.mpr ⟨q1, fun b hb => q2 b (by omega)⟩
    | true =>
      obtain ⟨h1, h2⟩ := h.mp rfl
      rw [if_neg (by decide), zm_sameLeft hk hg hf hj ha (by omega), z_b1_of]
      unfold zf_Q_spread_76
      rw [show nI i + (1 : Int32) = nI (i + 1) from nI_1 i]
      have nx := fun c hc => ih (i + 1) n c (by omega) (by omega) hc
      cases q : z_same (z_vv fx lo hi g) k j a i with
      | false =>
        rw [if_pos (by rfl)]
        refine nx true ⟨fun _ => ⟨h1, fun b hb => ?_⟩, fun _ => rfl⟩
        by_cases z : b = i
        · rw [z]
          exact q
        · exact h2 b (by omega)
      | true =>
        rw [if_neg (by decide)]
        exact nx false ⟨fun z => (by cases z), fun w => by have := w.2 i (by omega); rw [q] at this; cases this⟩
theorem zm_level_loop (hk : k ≤ 7) (hg : g < k) (hf : z_fok fx g) {j : Nat} (hj : j < k) {k14 : Int32 → Int32 → Int32 → Int32 → (Nat → Int64) → (Nat → Int64) → (Nat → Int32) → Option (Int32)} {c : Nat} :
    ∀ m i n, i + m = 2 ^ j → m < n → zf_Q_spread_25 k14 n (nI g) (nI (c + z_cnt (z_fresh (z_vv fx lo hi g) k j) i)) (nI j) (nI i) (nI k) lo hi fx = k14 (nI g) (nI (c + z_cnt (z_fresh (z_vv fx lo hi g) k j) (2 ^ j))) (nI (j + 1)) (nI k) lo hi fx := by
  obtain ⟨p1, p2, p3⟩ := z_pow j (by omega)
  intro m
  induction m with
  | zero =>
    intro i n hi0 hn
    obtain ⟨n, rfl⟩ : ∃ n', n = n' + 1 := ⟨n - 1, by omega⟩
    rw [zf_Q_spread_25, p1, if_pos ((nI_leI (by omega) (by omega)).mpr (by omega)), show nI j + (1 : Int32) = nI (j + 1) from nI_1 j, show i = 2 ^ j by omega]
  | succ m ih =>
    intro i n hi0 hn
    obtain ⟨n, rfl⟩ : ∃ n', n = n' + 1 := ⟨n - 1, by omega⟩
    rw [zf_Q_spread_25, p1, if_neg (fun q => absurd ((nI_leI (by omega) (by omega)).mp q) (by omega)), zm_differs hk hg hf hj (by omega), z_b1_of]
    have e := zm_fresh_loop (lo := lo) (hi := hi) (x2 := nI (c + z_cnt (z_fresh (z_vv fx lo hi g) k j) i)) (k25 := zf_Q_spread_25 k14 n) hk hg hf hj (show i < 2 ^ j by omega) i 0 z_FU (z_dep (z_vv fx lo hi g) k j i) (by omega) (by unfold z_FU; omega) ⟨fun q => ⟨q, fun b hb => absurd hb (by omega)⟩, fun q => q.1⟩
    rw [show zf_Q_spread_46 (zf_Q_spread_25 k14 n) z_FU (nI g) (nI (c + z_cnt (z_fresh (z_vv fx lo hi g) k j) i)) (nI j) (nI i) (if z_dep (z_vv fx lo hi g) k j i then 1 else 0) (0 : Int32) (nI k) lo hi fx = _ from e]
    have ec : nI (c + z_cnt (z_fresh (z_vv fx lo hi g) k j) i) + (if z_fresh (z_vv fx lo hi g) k j i then (1 : Int32) else 0) = nI (c + z_cnt (z_fresh (z_vv fx lo hi g) k j) (i + 1)) := by
      show _ = nI (c + (z_cnt (z_fresh (z_vv fx lo hi g) k j) i + if z_fresh (z_vv fx lo hi g) k j i then 1 else 0))
      cases z_fresh (z_vv fx lo hi g) k j i with
      | true => exact nI_1 _
      | false => exact nI_add _ 0
    rw [ec]
    exact ih (i + 1) n (by omega) (by omega)
theorem zm_qspread_loop (hk : k ≤ 7) (hg : g < k) (hf : z_fok fx g) :
    ∀ m j n, j + m = k → m < n → zf_Q_spread_14 n (nI g) (nI (z_sm (fun j => z_cnt (z_fresh (z_vv fx lo hi g) k j) (2 ^ j)) j)) (nI j) (nI k) lo hi fx = some (nI (z_sm (fun j => z_cnt (z_fresh (z_vv fx lo hi g) k j) (2 ^ j)) k)) := by
  intro m
  induction m with
  | zero =>
    intro j n hi0 hn
    obtain ⟨n, rfl⟩ : ∃ n', n = n' + 1 := ⟨n - 1, by omega⟩
    rw [zf_Q_spread_14, if_pos ((nI_leI (by omega) (by omega)).mpr (by omega)), show j = k by omega]
  | succ m ih =>
    intro j n hi0 hn
    obtain ⟨n, rfl⟩ : ∃ n', n = n' + 1 := ⟨n - 1, by omega⟩
    have p2 := (z_pow j (by omega)).2.1
    rw [zf_Q_spread_14, if_neg (fun q => absurd ((nI_leI (by omega) (by omega)).mp q) (by omega))]
    have e := zm_level_loop (lo := lo) (hi := hi) (k14 := zf_Q_spread_14 n) (c := z_sm (fun j => z_cnt (z_fresh (z_vv fx lo hi g) k j) (2 ^ j)) j) hk hg hf (show j < k by omega) (2 ^ j) 0 z_FU (by omega) (by unfold z_FU; omega)
    rw [show zf_Q_spread_25 (zf_Q_spread_14 n) z_FU (nI g) (nI (z_sm (fun j => z_cnt (z_fresh (z_vv fx lo hi g) k j) (2 ^ j)) j)) (nI j) (0 : Int32) (nI k) lo hi fx = _ from e]
    exact ih (j + 1) n (by omega) (by omega)
end
theorem zm_spread {k : Nat} {R_count : Int32} {R_names R_fixed : Nat → Int32} {R_low R_high : Nat → Int64} {Q_genes : Int32} {Q_names : Nat → Int32} {Q_low Q_high : Nat → Int64} {Q_fixed : Nat → Int32}
    (I : zI_G k R_count R_names R_fixed R_low R_high Q_genes Q_names Q_low Q_high Q_fixed) (x : Int32) (C_numbers C_zeros C_ones : Nat → Int32) (C_nodes : Int32) :
    ∃ r a b c d, zf_N_spread x R_count R_fixed R_low R_high C_numbers C_zeros C_ones C_nodes = some (r, a, b, c, d) ∧ zf_Q_spread x Q_genes Q_low Q_high Q_fixed = some r := by
  obtain ⟨hk, rfl, rfl, h⟩ := I
  have p2 := (z_pow k hk).2.1
  unfold zf_N_spread zf_Q_spread
  rw [zm_isGene]
  rcases zm_hasGene x hk with ⟨g, hg, rfl, e1, -⟩ | ⟨e1, -⟩
  · obtain ⟨-, h2, h3, h4, h5⟩ := h g hg
    rw [e1, z_b1_of, z_b1_of, z_i1, z_i1]
    obtain ⟨c, Z, O, e⟩ := zm_tab_loop R_low R_high hk hg h3 C_zeros C_ones (2 ^ k) 0 z_FU C_numbers (by omega) (by unfold z_FU; omega) (fun a ha => absurd ha (by omega))
    unfold zf_C_countNodes
    rw [show zf_C_countNodes_7 z_FU (nI g) (0 : Int32) (nI k) R_fixed R_low R_high C_numbers C_zeros C_ones (0 : Int32) = _ from e, z_b5_of]
    refine ⟨_, _, _, _, _, rfl, ?_⟩
    have hf2 : z_fok Q_fixed g := by unfold z_fok at h3 ⊢; rw [← h2]; exact h3
    have ef : z_vv R_fixed R_low R_high g = z_vv Q_fixed Q_low Q_high g := funext fun s => z_vv_congr h2 h4 h5 s
    rw [ef]
    exact zm_qspread_loop (lo := Q_low) (hi := Q_high) hk hg hf2 k 0 z_FU (by omega) (by unfold z_FU; omega)
  · rw [e1, z_b1_of, z_b1_of, z_i0, z_i0]
    exact ⟨_, _, _, _, _, rfl, rfl⟩
