/-! ===== small rows over the words of the functions ===== -/
theorem z_gd_n {α : Type} {j n : Nat} {K : Option α} (h : j < n) (hn : n < 2 ^ 31) : z_gd (nI j) n K = K := z_gd_in (vp_in_nI h hn)
theorem z_i1 {α : Type} {A B : α} : (if (1 : Int32) = 0 then A else B) = B := if_neg (by decide)
theorem z_i0 {α : Type} {A B : α} : (if (0 : Int32) = 0 then A else B) = A := if_pos rfl
theorem z_le64 {s : Nat} (hs : s < 2 ^ 31) : ((64 : Int32) ≤ nI s) ↔ 64 ≤ s := nI_leI (a := 64) (by decide) hs
/-- a bit of a pair of words -/
def z_rb (lo hi : Int64) (s : Nat) : Bool := if s < 64 then z_bt lo s else z_bt hi (s - 64)
theorem z_rb_ext {a b c d : Int64} (h : ∀ s, s < 128 → z_rb a b s = z_rb c d s) : a = c ∧ b = d := by
  constructor
  · apply z_bt_ext
    intro i hi
    have := h i (by omega)
    unfold z_rb at this
    rw [if_pos hi, if_pos hi] at this
    exact this
  · apply z_bt_ext
    intro i hi
    have := h (i + 64) (by omega)
    unfold z_rb at this
    rw [if_neg (by omega), if_neg (by omega), Nat.add_sub_cancel] at this
    exact this
theorem z_rb_or (a b c d : Int64) (s : Nat) : z_rb (a ||| c) (b ||| d) s = (z_rb a b s || z_rb c d s) := by
  unfold z_rb
  split
  · exact z_bt_or a c s
  · exact z_bt_or b d (s - 64)
theorem z_rb_and (a b c d : Int64) (s : Nat) : z_rb (a &&& c) (b &&& d) s = (z_rb a b s && z_rb c d s) := by
  unfold z_rb
  split
  · exact z_bt_and a c s
  · exact z_bt_and b d (s - 64)
theorem z_rb_0 (s : Nat) : z_rb 0 0 s = false := by
  unfold z_rb
  split <;> exact z_bt_0 _
theorem zm_bitOf (lo hi : Int64) {s : Nat} (hs : s < 128) : zf_N_bitOf lo hi (nI s) = some (if z_rb lo hi s then 1 else 0) := by
  unfold zf_N_bitOf zf_N_bitOf_12 z_rb
  rw [z_and63 s hs]
  by_cases h : s < 64
  · rw [if_neg (fun q => absurd ((z_le64 (by omega)).mp q) (by omega)), if_pos h, z_bit32 lo (z_shu (s % 64) (by omega)), Nat.mod_eq_of_lt h]
  · rw [if_pos ((z_le64 (by omega)).mpr (by omega)), if_neg h, z_bit32 hi (z_shu (s % 64) (by omega)), show s % 64 = s - 64 by omega]
/-- the value of gene g in state s -/
def z_vv (fx : Nat → Int32) (lo hi : Nat → Int64) (g s : Nat) : Bool := if fx g = 2 then z_rb (lo g) (hi g) s else decide (fx g = 1)
def z_fok (fx : Nat → Int32) (g : Nat) : Prop := fx g = 0 ∨ fx g = 1 ∨ fx g = 2
theorem zm_valueOf {fx : Nat → Int32} (lo hi : Nat → Int64) {g s : Nat} (hg : g < 7) (hs : s < 128) (hf : z_fok fx g) : zf_R_valueOf (nI g) (nI s) fx lo hi = some (if z_vv fx lo hi g s then 1 else 0) := by
  unfold zf_R_valueOf z_vv
  rw [nI_clamp (by omega)]
  simp only [z_gd_n hg (show 7 < 2 ^ 31 by decide)]
  rcases hf with h | h | h
  · rw [h, if_neg (show ¬ (0 : Int32) = 2 by decide), if_neg (show ¬ (0 : Int32) = 2 by decide)]
    rfl
  · rw [h, if_neg (show ¬ (1 : Int32) = 2 by decide), if_neg (show ¬ (1 : Int32) = 2 by decide)]
    rfl
  · rw [h, if_pos rfl, if_pos rfl, zm_bitOf _ _ hs]
    rfl
theorem zm_valueAt {fx : Nat → Int32} (lo hi : Nat → Int64) {g s : Nat} (hg : g < 7) (hs : s < 128) (hf : z_fok fx g) : zf_Q_valueAt (nI g) (nI s) lo hi fx = some (if z_vv fx lo hi g s then 1 else 0) := by
  unfold zf_Q_valueAt zf_Q_valueAt_45 z_vv
  rw [nI_clamp (by omega)]
  simp only [z_gd_n hg (show 7 < 2 ^ 31 by decide)]
  rcases hf with h | h | h
  · rw [h, if_neg (show ¬ (2 : Int32) ≤ 0 by decide), if_neg (show ¬ (0 : Int32) = 2 by decide)]
    rfl
  · rw [h, if_neg (show ¬ (2 : Int32) ≤ 1 by decide), if_neg (show ¬ (1 : Int32) = 2 by decide)]
    rfl
  · rw [h, if_pos (by decide), if_pos rfl]
    unfold z_rb
    by_cases q : s < 64
    · rw [if_neg (fun z => absurd ((z_le64 (by omega)).mp z) (by omega)), if_pos q, z_sbit (lo g) q]
      split <;> rfl
    · rw [if_pos ((z_le64 (by omega)).mpr (by omega)), if_neg q, show nI s - 64 = nI (s - 64) from pk_sub (b := 64) (by omega), z_sbit (hi g) (by omega)]
      split <;> rfl
/-- the number whose bits f has -/
def z_num (f : Nat → Bool) : Nat → Nat
  | 0 => 0
  | n + 1 => z_num f n + if f n then 2 ^ n else 0
theorem z_num_lt (f : Nat → Bool) (n : Nat) : z_num f n < 2 ^ n := by
  induction n with
  | zero => exact Nat.one_pos
  | succ n ih =>
    have e : 2 ^ (n + 1) = 2 ^ n + 2 ^ n := by rw [Nat.pow_succ]; omega
    unfold z_num
    split <;> omega
theorem z_num_congr {f g : Nat → Bool} {n : Nat} (h : ∀ i, i < n → f i = g i) : z_num f n = z_num g n := by
  induction n with
  | zero => rfl
  | succ n ih =>
    unfold z_num
    rw [ih (fun i hi => h i (by omega)), h n (by omega)]
theorem z_num_bit (f : Nat → Bool) (n i : Nat) : (z_num f n).testBit i = (decide (i < n) && f i) := by
  induction n with
  | zero => simp [z_num]
  | succ n ih =>
    unfold z_num
    have hl := z_num_lt f n
    by_cases hf : f n = true
    · rw [hf, if_pos rfl, Nat.add_comm]
      rcases Nat.lt_trichotomy i n with q | q | q
      · rw [Nat.testBit_two_pow_add_gt q, ih, decide_eq_true q, decide_eq_true (show i < n + 1 by omega)]
      · subst q
        rw [Nat.testBit_two_pow_add_eq, ih, decide_eq_false (Nat.lt_irrefl i), decide_eq_true (show i < i + 1 by omega), hf]
        rfl
      · have hp : 2 ^ (n + 1) ≤ 2 ^ i := Nat.pow_le_pow_right (by decide) q
        have e : 2 ^ (n + 1) = 2 ^ n + 2 ^ n := by rw [Nat.pow_succ]; omega
        rw [Nat.testBit_lt_two_pow (show 2 ^ n + z_num f n < 2 ^ i by omega), decide_eq_false (by omega)]
        rfl
    · have hf : f n = false := by cases h : f n with
        | true => exact absurd h hf
        | false => rfl
      rw [hf, if_neg (by decide), Nat.add_zero, ih]
      by_cases q : i = n
      · subst q
        rw [hf, Bool.and_false, Bool.and_false]
      · congr 1
        exact decide_eq_decide.mpr (by omega)
theorem z_or1 : ∀ i, i < 7 → ∀ t, t < 2 ^ i → (nI t ||| ((1 : Int32) <<< (nI i &&& 31)) = nI (t + 2 ^ i) ∧ nI t ||| ((0 : Int32) <<< (nI i &&& 31)) = nI t) ∧ (nI t + ((1 : Int32) <<< (nI i &&& 31)) = nI (t + 2 ^ i) ∧ nI t + ((0 : Int32) <<< (nI i &&& 31)) = nI t) := by decide +kernel
theorem zm_step_loop {fx : Nat → Int32} (lo hi : Nat → Int64) {k s : Nat} (hk : k ≤ 7) (hs : s < 128) (hf : ∀ g, g < k → z_fok fx g) :
    ∀ m i n, i + m = k → m < n → zf_R_stepTogether_4 n (nI s) (nI (z_num (fun g => z_vv fx lo hi g s) i)) (nI i) (nI k) fx lo hi = some (nI (z_num (fun g => z_vv fx lo hi g s) k)) := by
  intro m
  induction m with
  | zero =>
    intro i n hi0 hn
    obtain ⟨n, rfl⟩ : ∃ n', n = n' + 1 := ⟨n - 1, by omega⟩
    rw [zf_R_stepTogether_4, if_pos ((nI_leI (by omega) (by omega)).mpr (by omega)), show i = k by omega]
  | succ m ih =>
    intro i n hi0 hn
    obtain ⟨n, rfl⟩ : ∃ n', n = n' + 1 := ⟨n - 1, by omega⟩
    rw [zf_R_stepTogether_4, if_neg (fun q => absurd ((nI_leI (by omega) (by omega)).mp q) (by omega)), zm_valueOf lo hi (by omega) hs (hf i (by omega)), z_b1_of]
    have e := z_or1 i (by omega) _ (z_num_lt (fun g => z_vv fx lo hi g s) i)
    have e2 : nI (z_num (fun g => z_vv fx lo hi g s) i) ||| ((if z_vv fx lo hi i s then (1 : Int32) else 0) <<< (nI i &&& 31)) = nI (z_num (fun g => z_vv fx lo hi g s) (i + 1)) := by
      show _ = nI (z_num (fun g => z_vv fx lo hi g s) i + if z_vv fx lo hi i s then 2 ^ i else 0)
      cases z_vv fx lo hi i s with
      | true => exact e.1.1
      | false => exact e.1.2
    rw [e2, show nI i + (1 : Int32) = nI (i + 1) from nI_1 i]
    exact ih (i + 1) n (by omega) (by omega)
theorem zm_stepTogether {fx : Nat → Int32} (lo hi : Nat → Int64) {k s : Nat} (hk : k ≤ 7) (hs : s < 128) (hf : ∀ g, g < k → z_fok fx g) : zf_R_stepTogether (nI s) (nI k) fx lo hi = some (nI (z_num (fun g => z_vv fx lo hi g s) k)) := by
  unfold zf_R_stepTogether
  exact zm_step_loop lo hi hk hs hf k 0 z_FU (by omega) (by unfold z_FU; omega)
theorem zm_next_loop {fx : Nat → Int32} (lo hi : Nat → Int64) {k s : Nat} (hk : k ≤ 7) (hs : s < 128) (hf : ∀ g, g < k → z_fok fx g) :
    ∀ m i n, i + m = k → m < n → zf_Q_next_14 n (nI s) (nI (z_num (fun g => z_vv fx lo hi g s) i)) (nI i) (nI k) lo hi fx = some (nI (z_num (fun g => z_vv fx lo hi g s) k)) := by
  intro m
  induction m with
  | zero =>
    intro i n hi0 hn
    obtain ⟨n, rfl⟩ : ∃ n', n = n' + 1 := ⟨n - 1, by omega⟩
    rw [zf_Q_next_14, if_pos ((nI_leI (by omega) (by omega)).mpr (by omega)), show i = k by omega]
  | succ m ih =>
    intro i n hi0 hn
    obtain ⟨n, rfl⟩ : ∃ n', n = n' + 1 := ⟨n - 1, by omega⟩
    rw [zf_Q_next_14, if_neg (fun q => absurd ((nI_leI (by omega) (by omega)).mp q) (by omega)), zm_valueAt lo hi (by omega) hs (hf i (by omega)), z_b1_of]
    have e := z_or1 i (by omega) _ (z_num_lt (fun g => z_vv fx lo hi g s) i)
    have e2 : nI (z_num (fun g => z_vv fx lo hi g s) i) + ((if z_vv fx lo hi i s then (1 : Int32) else 0) <<< (nI i &&& 31)) = nI (z_num (fun g => z_vv fx lo hi g s) (i + 1)) := by
      show _ = nI (z_num (fun g => z_vv fx lo hi g s) i + if z_vv fx lo hi i s then 2 ^ i else 0)
      cases z_vv fx lo hi i s with
      | true => exact e.2.1
      | false => exact e.2.2
    rw [e2, show nI i + (1 : Int32) = nI (i + 1) from nI_1 i]
    exact ih (i + 1) n (by omega) (by omega)
/-! ===== genes, states ===== -/
theorem z_pow : ∀ k, k ≤ 7 → ((1 : Int32) <<< (nI k &&& 31)) = nI (2 ^ k) ∧ 2 ^ k ≤ 128 ∧ 1 ≤ 2 ^ k := by decide +kernel
/-- a number that is one of 0 .. n - 1, or not -/
theorem z_ix (x : Int32) {n : Nat} (hn : n < 2 ^ 31) : (∃ j : Nat, j < n ∧ x = nI j) ∨ (x < 0 ∨ (¬ x < 0 ∧ nI n ≤ x)) := by
  rcases pk_ix x hn with h | h | h
  · exact Or.inr (Or.inl h)
  · by_cases q : x < 0
    · exact Or.inr (Or.inl q)
    · exact Or.inr (Or.inr ⟨q, h⟩)
  · exact Or.inl h
theorem zm_hasGene (x : Int32) {k : Nat} (hk : k ≤ 7) : (∃ g, g < k ∧ x = nI g ∧ zf_R_hasGene x (nI k) = some 1 ∧ zf_Q_isGene x (nI k) = some 1) ∨ (zf_R_hasGene x (nI k) = some 0 ∧ zf_Q_isGene x (nI k) = some 0) := by
  unfold zf_R_hasGene zf_Q_isGene
  rcases z_ix x (show k < 2 ^ 31 by omega) with ⟨g, hg, rfl⟩ | h | ⟨h1, h2⟩
  · refine Or.inl ⟨g, hg, rfl, ?_, ?_⟩
    · rw [if_neg (nI_pos (by omega)), if_neg (fun q => absurd ((nI_leI (by omega) (by omega)).mp q) (by omega))]
      exact z_gb1
    · rw [if_neg (nI_pos (by omega)), if_neg (fun q => absurd ((nI_leI (by omega) (by omega)).mp q) (by omega))]
      exact z_gb1
  · refine Or.inr ⟨?_, ?_⟩
    · rw [if_pos h]
      exact z_gb0
    · rw [if_pos h]
      exact z_gb0
  · refine Or.inr ⟨?_, ?_⟩
    · rw [if_neg h1, if_pos h2]
      exact z_gb0
    · rw [if_neg h1, if_pos h2]
      exact z_gb0
theorem zm_hasState (x : Int32) {k : Nat} (hk : k ≤ 7) : (∃ s, s < 2 ^ k ∧ 0 < k ∧ x = nI s ∧ zf_R_hasState x (nI k) = some 1) ∨ zf_R_hasState x (nI k) = some 0 := by
  obtain ⟨p1, p2, p3⟩ := z_pow k hk
  unfold zf_R_hasState
  rw [p1]
  by_cases h0 : k = 0
  · subst h0
    refine Or.inr ?_
    rw [if_pos (by decide)]
    exact z_gb0
  rw [if_neg (nI_nle (by omega) (by omega))]
  rcases z_ix x (show 2 ^ k < 2 ^ 31 by omega) with ⟨g, hg, rfl⟩ | h | ⟨h1, h2⟩
  · refine Or.inl ⟨g, hg, by omega, rfl, ?_⟩
    rw [if_neg (nI_pos (by omega)), if_neg (fun q => absurd ((nI_leI (by omega) (by omega)).mp q) (by omega))]
    exact z_gb1
  · refine Or.inr ?_
    rw [if_pos h]
    exact z_gb0
  · refine Or.inr ?_
    rw [if_neg h1, if_pos h2]
    exact z_gb0
theorem zm_isState (x c : Int32) : zf_Q_isState x c = zf_R_hasState x c := rfl
theorem zm_isGene (x c : Int32) : zf_Q_isGene x c = zf_R_hasGene x c := rfl
/-! ===== a name's place ===== -/
def z_find (f : Nat → Int32) (x : Int32) : Nat → Nat → Int32
  | 0, _ => -1
  | m + 1, i => if f i = x then nI i else z_find f x m (i + 1)
theorem z_find_congr {f g : Nat → Int32} {x : Int32} : ∀ {m i : Nat}, (∀ j, i ≤ j → j < i + m → f j = g j) → z_find f x m i = z_find g x m i := by
  intro m
  induction m with
  | zero => intro i _; rfl
  | succ m ih =>
    intro i h
    unfold z_find
    rw [h i (by omega) (by omega), ih (fun j h1 h2 => h j (by omega) (by omega))]
theorem zm_indexOf_loop (f : Nat → Int32) (x : Int32) {k N : Nat} (hk : k ≤ N) (hN : N < 2 ^ 31) : ∀ m i n, i + m = k → m < n → zf_N_indexOf_2 n x (nI k) (nI i) N f = some (z_find f x m i) := by
  intro m
  induction m with
  | zero =>
    intro i n hi0 hn
    obtain ⟨n, rfl⟩ : ∃ n', n = n' + 1 := ⟨n - 1, by omega⟩
    rw [zf_N_indexOf_2, if_pos ((nI_leI (by omega) (by omega)).mpr (by omega))]
    rfl
  | succ m ih =>
    intro i n hi0 hn
    obtain ⟨n, rfl⟩ : ∃ n', n = n' + 1 := ⟨n - 1, by omega⟩
    rw [zf_N_indexOf_2, if_neg (fun q => absurd ((nI_leI (by omega) (by omega)).mp q) (by omega)), z_gd_n (by omega) hN, nI_clamp (by omega)]
    unfold z_find
    split
    · rfl
    · rw [show nI i + (1 : Int32) = nI (i + 1) from nI_1 i]
      exact ih (i + 1) n (by omega) (by omega)
theorem zm_indexOf (f : Nat → Int32) (x : Int32) {k N : Nat} (hk : k ≤ N) (hN : N < 1000) : zf_N_indexOf x (nI k) N f = some (z_find f x k 0) := by
  unfold zf_N_indexOf
  exact zm_indexOf_loop f x hk (by omega) k 0 z_FU (by omega) (by unfold z_FU; omega)
theorem zm_gene_loop (f : Nat → Int32) (x : Int32) {k : Nat} (hk : k ≤ 7) : ∀ m i n, i + m = k → m < n → zf_Q_gene_2 n x (nI i) (nI k) f = some (z_find f x m i) := by
  intro m
  induction m with
  | zero =>
    intro i n hi0 hn
    obtain ⟨n, rfl⟩ : ∃ n', n = n' + 1 := ⟨n - 1, by omega⟩
    rw [zf_Q_gene_2, if_pos ((nI_leI (by omega) (by omega)).mpr (by omega))]
    rfl
  | succ m ih =>
    intro i n hi0 hn
    obtain ⟨n, rfl⟩ : ∃ n', n = n' + 1 := ⟨n - 1, by omega⟩
    rw [zf_Q_gene_2, if_neg (fun q => absurd ((nI_leI (by omega) (by omega)).mp q) (by omega)), z_gd_n (by omega) (by decide), nI_clamp (by omega)]
    unfold z_find
    split
    · rfl
    · rw [show nI i + (1 : Int32) = nI (i + 1) from nI_1 i]
      exact ih (i + 1) n (by omega) (by omega)
/-! ===== the genes of both, and the methods that only read them ===== -/
def zI_G (k : Nat) (R_count : Int32) (R_names R_fixed : Nat → Int32) (R_low R_high : Nat → Int64) (Q_genes : Int32) (Q_names : Nat → Int32) (Q_low Q_high : Nat → Int64) (Q_fixed : Nat → Int32) : Prop :=
  k ≤ 7 ∧ R_count = nI k ∧ Q_genes = nI k ∧ ∀ g, g < k → R_names g = Q_names g ∧ R_fixed g = Q_fixed g ∧ z_fok R_fixed g ∧ R_low g = Q_low g ∧ R_high g = Q_high g
theorem z_vv_congr {f f' : Nat → Int32} {lo hi lo' hi' : Nat → Int64} {g : Nat} (h1 : f g = f' g) (h2 : lo g = lo' g) (h3 : hi g = hi' g) (s : Nat) : z_vv f lo hi g s = z_vv f' lo' hi' g s := by
  unfold z_vv
  rw [h1, h2, h3]
section
variable {k : Nat} {R_count : Int32} {R_names R_fixed : Nat → Int32} {R_low R_high : Nat → Int64} {Q_genes : Int32} {Q_names : Nat → Int32} {Q_low Q_high : Nat → Int64} {Q_fixed : Nat → Int32}
theorem zm_gene (I : zI_G k R_count R_names R_fixed R_low R_high Q_genes Q_names Q_low Q_high Q_fixed) (x : Int32) : ∃ r, zf_N_gene x R_count R_names = some r ∧ zf_Q_gene x Q_genes Q_names = some r := by
  obtain ⟨hk, rfl, rfl, h⟩ := I
  refine ⟨z_find R_names x k 0, ?_, ?_⟩
  · unfold zf_N_gene
    rw [zm_indexOf R_names x (N := 7) hk (by decide)]
    rfl
  · unfold zf_Q_gene
    rw [z_find_congr (g := Q_names) (fun j _ hj => (h j (by omega)).1)]
    exact zm_gene_loop Q_names x hk k 0 z_FU (by omega) (by unfold z_FU; omega)
theorem zm_value (I : zI_G k R_count R_names R_fixed R_low R_high Q_genes Q_names Q_low Q_high Q_fixed) (x y : Int32) : ∃ r, zf_N_value x y R_count R_fixed R_low R_high = some r ∧ zf_Q_value x y Q_genes Q_low Q_high Q_fixed = some r := by
  obtain ⟨hk, rfl, rfl, h⟩ := I
  have p2 := (z_pow k hk).2.1
  unfold zf_N_value zf_Q_value
  rw [zm_isGene]
  simp only [zm_isState]
  rcases zm_hasGene x hk with ⟨g, hg, rfl, e1, -⟩ | ⟨e1, -⟩
  · rw [e1, z_b1_of, z_b1_of, z_i1, z_i1]
    rcases zm_hasState y hk with ⟨s, hs, hk0, rfl, e2⟩ | e2
    · obtain ⟨-, h2, h3, h4, h5⟩ := h g hg
      rw [e2, z_b1_of, z_b1_of, z_i1, z_i1, zm_valueOf R_low R_high (by omega) (by omega) h3, zm_valueAt Q_low Q_high (by omega) (by omega) (by unfold z_fok at h3 ⊢; rw [← h2]; exact h3)]
      exact ⟨_, rfl, by rw [z_vv_congr h2 h4 h5]; rfl⟩
    · rw [e2, z_b1_of, z_b1_of, z_i0, z_i0]
      exact ⟨_, rfl, rfl⟩
  · rw [e1, z_b1_of, z_b1_of, z_i0, z_i0]
    exact ⟨_, rfl, rfl⟩
theorem zm_next (I : zI_G k R_count R_names R_fixed R_low R_high Q_genes Q_names Q_low Q_high Q_fixed) (x : Int32) : ∃ r, zf_N_next x R_count R_fixed R_low R_high = some r ∧ zf_Q_next x Q_genes Q_low Q_high Q_fixed = some r := by
  obtain ⟨hk, rfl, rfl, h⟩ := I
  have p2 := (z_pow k hk).2.1
  unfold zf_N_next zf_Q_next
  rw [zm_isState]
  rcases zm_hasState x hk with ⟨s, hs, hk0, rfl, e2⟩ | e2
  · rw [e2, z_b1_of, z_b1_of, z_i1, z_i1, zm_stepTogether R_low R_high hk (by omega) (fun g hg => (h g hg).2.2.1)]
    refine ⟨_, rfl, ?_⟩
    have e := zm_next_loop Q_low Q_high (fx := Q_fixed) (s := s) hk (by omega) (fun g hg => by obtain ⟨-, h2, h3, -⟩ := h g hg; unfold z_fok at h3 ⊢; rw [← h2]; exact h3) k 0 z_FU (by omega) (by unfold z_FU; omega)
    rw [z_num_congr (f := fun g => z_vv R_fixed R_low R_high g s) (g := fun g => z_vv Q_fixed Q_low Q_high g s) (fun g hg => by obtain ⟨-, h2, -, h4, h5⟩ := h g hg; exact z_vv_congr h2 h4 h5 s)]
    exact e
  · rw [e2, z_b1_of, z_b1_of, z_i0, z_i0]
    exact ⟨_, rfl, rfl⟩
/-- fix: the answer, the new fixed ones, and whether all analysis is forgotten -/
theorem zm_fix (I : zI_G k R_count R_names R_fixed R_low R_high Q_genes Q_names Q_low Q_high Q_fixed) (x y A_count A_states Q_analysed : Int32) :
    (zf_N_fix x y R_count R_fixed A_count A_states = some (0, R_fixed, A_count, A_states) ∧ zf_Q_fix x y Q_genes Q_fixed Q_analysed = some (0, Q_fixed, Q_analysed)) ∨
    ∃ R_fixed' Q_fixed', zf_N_fix x y R_count R_fixed A_count A_states = some (1, R_fixed', 0, 0) ∧ zf_Q_fix x y Q_genes Q_fixed Q_analysed = some (1, Q_fixed', 0) ∧ zI_G k R_count R_names R_fixed' R_low R_high Q_genes Q_names Q_low Q_high Q_fixed' := by
  obtain ⟨hk, rfl, rfl, h⟩ := I
  unfold zf_N_fix zf_Q_fix
  rw [zm_isGene]
  rcases zm_hasGene x hk with ⟨g, hg, rfl, e1, -⟩ | ⟨e1, -⟩
  · rw [e1, z_b1_of, z_b1_of, z_i1, z_i1]
    by_cases h0 : y < 0
    · rw [if_pos h0, if_pos h0]
      exact Or.inl ⟨z_gb0, z_gb0⟩
    rw [if_neg h0, if_neg h0]
    by_cases h1 : y ≤ 2
    · rw [if_pos h1, if_pos h1, z_gd_n (by omega) (by decide), z_gd_n (by omega) (by decide), nI_clamp (by omega)]
      refine Or.inr ⟨_, _, z_gb1, z_gb1, hk, rfl, rfl, fun a ha => ?_⟩
      obtain ⟨a1, a2, a3, a4⟩ := h a ha
      by_cases q : a = g
      · subst q
        refine ⟨a1, by rw [pk_us, pk_us], ?_, a4⟩
        unfold z_fok
        rw [pk_us]
        obtain ⟨j, hj, rfl⟩ := nI_of2 (M := 2) (n := 2) (by decide) h0 h1
        rcases (show j = 0 ∨ j = 1 ∨ j = 2 by omega) with rfl | rfl | rfl
        · exact Or.inl rfl
        · exact Or.inr (Or.inl rfl)
        · exact Or.inr (Or.inr rfl)
      · refine ⟨a1, by rw [pk_un q, pk_un q]; exact a2, ?_, a4⟩
        unfold z_fok
        rw [pk_un q]
        exact a3
    · rw [if_neg h1, if_neg h1]
      exact Or.inl ⟨z_gb0, z_gb0⟩
  · rw [e1, z_b1_of, z_b1_of, z_i0, z_i0]
    exact Or.inl ⟨z_gb0, z_gb0⟩
end
