/-! ===== the spread: f holds the values in all states of n genes ===== -/
def z_same (f : Nat → Bool) (n j a b : Nat) : Bool := (List.range (2 ^ (n - j))).all (fun t => f (a + 2 ^ j * t) == f (b + 2 ^ j * t))
theorem z_same_iff {f : Nat → Bool} {n j a b : Nat} : z_same f n j a b = true ↔ ∀ t, t < 2 ^ (n - j) → f (a + 2 ^ j * t) = f (b + 2 ^ j * t) := by
  unfold z_same
  rw [List.all_eq_true]
  constructor
  · intro h t ht
    exact eq_of_beq (h t (List.mem_range.mpr ht))
  · intro h t ht
    exact beq_iff_eq.mpr (h t (List.mem_range.mp ht))
theorem z_same_refl (f : Nat → Bool) (n j a : Nat) : z_same f n j a a = true := z_same_iff.mpr (fun _ _ => rfl)
theorem z_same_symm {f : Nat → Bool} {n j a b : Nat} (h : z_same f n j a b = true) : z_same f n j b a = true := z_same_iff.mpr (fun t ht => (z_same_iff.mp h t ht).symm)
theorem z_same_trans {f : Nat → Bool} {n j a b c : Nat} (h : z_same f n j a b = true) (h2 : z_same f n j b c = true) : z_same f n j a c = true := z_same_iff.mpr (fun t ht => (z_same_iff.mp h t ht).trans (z_same_iff.mp h2 t ht))
/-- a function of the genes from j on is two functions of those from j + 1 on -/
theorem z_same_two {f : Nat → Bool} {n j a b : Nat} (hj : j < n) : z_same f n j a b = true ↔ (z_same f n (j + 1) a b = true ∧ z_same f n (j + 1) (a + 2 ^ j) (b + 2 ^ j) = true) := by
  have e : 2 ^ (n - j) = 2 ^ (n - (j + 1)) * 2 := by rw [← Nat.pow_succ]; congr 1; omega
  have ep : 2 ^ (j + 1) = 2 ^ j * 2 := Nat.pow_succ 2 j
  rw [z_same_iff, z_same_iff, z_same_iff, e, ep]
  constructor
  · intro h
    constructor
    · intro t ht
      have := h (2 * t) (by omega)
      rw [Nat.mul_assoc]
      exact this
    · intro t ht
      have := h (2 * t + 1) (by omega)
      rw [show a + 2 ^ j + 2 ^ j * 2 * t = a + 2 ^ j * (2 * t + 1) by rw [Nat.mul_add, Nat.mul_one, Nat.mul_assoc]; omega, show b + 2 ^ j + 2 ^ j * 2 * t = b + 2 ^ j * (2 * t + 1) by rw [Nat.mul_add, Nat.mul_one, Nat.mul_assoc]; omega]
      exact this
  · rintro ⟨h1, h2⟩ t ht
    rcases Nat.mod_two_eq_zero_or_one t with q | q
    · have := h1 (t / 2) (by omega)
      rw [Nat.mul_assoc, show 2 * (t / 2) = t by omega] at this
      exact this
    · have := h2 (t / 2) (by omega)
      rw [show a + 2 ^ j + 2 ^ j * 2 * (t / 2) = a + 2 ^ j * (2 * (t / 2) + 1) by rw [Nat.mul_add, Nat.mul_one, Nat.mul_assoc]; omega, show b + 2 ^ j + 2 ^ j * 2 * (t / 2) = b + 2 ^ j * (2 * (t / 2) + 1) by rw [Nat.mul_add, Nat.mul_one, Nat.mul_assoc]; omega, show 2 * (t / 2) + 1 = t by omega] at this
      exact this
/-- gene j makes a difference -/
def z_dep (f : Nat → Bool) (n j a : Nat) : Bool := !z_same f n (j + 1) a (a + 2 ^ j)
def z_fresh (f : Nat → Bool) (n j a : Nat) : Bool := z_dep f n j a && (List.range a).all (fun b => !z_same f n j a b)
theorem z_fresh_iff {f : Nat → Bool} {n j a : Nat} : z_fresh f n j a = true ↔ (z_dep f n j a = true ∧ ∀ b, b < a → z_same f n j a b = false) := by
  unfold z_fresh
  rw [Bool.and_eq_true, List.all_eq_true]
  constructor
  · rintro ⟨h1, h2⟩
    exact ⟨h1, fun b hb => by have := h2 b (List.mem_range.mpr hb); simpa using this⟩
  · rintro ⟨h1, h2⟩
    exact ⟨h1, fun b hb => by rw [h2 b (List.mem_range.mp hb)]; rfl⟩
theorem z_dep_same {f : Nat → Bool} {n j a b : Nat} (hj : j < n) (h : z_same f n j a b = true) (hd : z_dep f n j a = true) : z_dep f n j b = true := by
  obtain ⟨h1, h2⟩ := (z_same_two hj).mp h
  unfold z_dep at hd ⊢
  cases q : z_same f n (j + 1) b (b + 2 ^ j) with
  | false => rfl
  | true =>
    rw [z_same_trans (z_same_trans h1 q) (z_same_symm h2)] at hd
    cases hd
/-- the first that is the same -/
theorem z_rep_ex (f : Nat → Bool) (n j a : Nat) : ∃ b, b ≤ a ∧ z_same f n j b a = true ∧ ∀ c, c < b → z_same f n j c a = false := by
  obtain ⟨b, h1, h2, h3⟩ := z_least (P := fun b => z_same f n j b a = true) a (z_same_refl f n j a)
  exact ⟨b, h1, h2, fun c hc => by
    cases q : z_same f n j c a with
    | false => rfl
    | true => exact absurd q (h3 c hc)⟩
noncomputable def z_rep (f : Nat → Bool) (n j a : Nat) : Nat := Classical.choose (z_rep_ex f n j a)
theorem z_rep_le (f : Nat → Bool) (n j a : Nat) : z_rep f n j a ≤ a := (Classical.choose_spec (z_rep_ex f n j a)).1
theorem z_rep_same (f : Nat → Bool) (n j a : Nat) : z_same f n j (z_rep f n j a) a = true := (Classical.choose_spec (z_rep_ex f n j a)).2.1
theorem z_rep_min (f : Nat → Bool) (n j a : Nat) {c : Nat} (h : c < z_rep f n j a) : z_same f n j c a = false := (Classical.choose_spec (z_rep_ex f n j a)).2.2 c h
theorem z_rep_eq {f : Nat → Bool} {n j a b : Nat} (h : z_same f n j a b = true) : z_rep f n j a = z_rep f n j b := by
  rcases Nat.lt_trichotomy (z_rep f n j a) (z_rep f n j b) with q | q | q
  · have := z_rep_min f n j b q
    rw [z_same_trans (z_rep_same f n j a) h] at this
    cases this
  · exact q
  · have := z_rep_min f n j a q
    rw [z_same_trans (z_rep_same f n j b) (z_same_symm h)] at this
    cases this
theorem z_rep_fresh {f : Nat → Bool} {n j a : Nat} (hj : j < n) (hd : z_dep f n j a = true) : z_fresh f n j (z_rep f n j a) = true := by
  refine z_fresh_iff.mpr ⟨z_dep_same hj (z_same_symm (z_rep_same f n j a)) hd, fun c hc => ?_⟩
  cases q : z_same f n j (z_rep f n j a) c with
  | false => rfl
  | true =>
    have := z_rep_min f n j a hc
    rw [z_same_trans (z_same_symm q) (z_rep_same f n j a)] at this
    cases this
theorem z_fresh_rep {f : Nat → Bool} {n j a b : Nat} (ha : z_fresh f n j a = true) (h : z_same f n j a b = true) : z_rep f n j b = a := by
  rw [← z_rep_eq h]
  have h1 := z_rep_le f n j a
  by_cases q : z_rep f n j a = a
  · exact q
  · have := (z_fresh_iff.mp ha).2 (z_rep f n j a) (by omega)
    rw [z_same_symm (z_rep_same f n j a)] at this
    cases this
/-- the number that a gets at level j, where num has the numbers of level j + 1 and 'first' nodes are there -/
noncomputable def z_nm (f : Nat → Bool) (n j first : Nat) (num : Nat → Nat) (a : Nat) : Nat := if z_dep f n j a then first + z_cnt (z_fresh f n j) (z_rep f n j a) + 2 else num a
theorem z_nm_iff {f : Nat → Bool} {n j first : Nat} {num : Nat → Nat} (hj : j < n) (h1 : ∀ a, a < 2 ^ (j + 1) → num a < first + 2) (h2 : ∀ a b, a < 2 ^ (j + 1) → b < 2 ^ (j + 1) → (num a = num b ↔ z_same f n (j + 1) a b = true)) {a b : Nat} (ha : a < 2 ^ j) (hb : b < 2 ^ j) :
    z_nm f n j first num a = z_nm f n j first num b ↔ z_same f n j a b = true := by
  have ep : 2 ^ (j + 1) = 2 ^ j * 2 := Nat.pow_succ 2 j
  have ha1 := h1 a (by omega)
  have hb1 := h1 b (by omega)
  unfold z_nm
  cases da : z_dep f n j a with
  | true =>
    rw [if_pos (by rfl)]
    cases db : z_dep f n j b with
    | true =>
      rw [if_pos (by rfl)]
      constructor
      · intro h
        have : z_rep f n j a = z_rep f n j b := z_cnt_inj (z_rep_fresh hj da) (z_rep_fresh hj db) (by omega)
        exact z_same_trans (z_same_symm (z_rep_same f n j a)) (by rw [this]; exact z_rep_same f n j b)
      · intro h
        rw [z_rep_eq h]
    | false =>
      rw [if_neg (by decide)]
      constructor
      · intro h
        omega
      · intro h
        rw [z_dep_same hj h da] at db
        cases db
  | false =>
    rw [if_neg (by decide)]
    cases db : z_dep f n j b with
    | true =>
      rw [if_pos (by rfl)]
      constructor
      · intro h
        omega
      · intro h
        rw [z_dep_same hj (z_same_symm h) db] at da
        cases da
    | false =>
      rw [if_neg (by decide), h2 a b (by omega) (by omega), z_same_two hj]
      have sa : z_same f n (j + 1) a (a + 2 ^ j) = true := by unfold z_dep at da; simpa using da
      have sb : z_same f n (j + 1) b (b + 2 ^ j) = true := by unfold z_dep at db; simpa using db
      exact ⟨fun h => ⟨h, z_same_trans (z_same_trans (z_same_symm sa) h) sb⟩, fun h => h.1⟩
theorem z_nm_lt {f : Nat → Bool} {n j first : Nat} {num : Nat → Nat} (hj : j < n) {a : Nat} (ha : a < 2 ^ j) (h1 : num a < first + 2) : z_nm f n j first num a < first + z_cnt (z_fresh f n j) (2 ^ j) + 2 := by
  unfold z_nm
  cases da : z_dep f n j a with
  | true =>
    rw [if_pos (by rfl)]
    have := z_cnt_lt2 (show z_rep f n j a < 2 ^ j by have := z_rep_le f n j a; omega) (z_rep_fresh hj da)
    omega
  | false =>
    rw [if_neg (by decide)]
    omega
/-- the search of a pair among the nodes of this level -/
theorem zm_search (x y : Int32) (Z O : Nat → Int32) {nodes : Nat} (hn : nodes < 128) : ∀ m q n, q + m = nodes → m < n →
    (∃ q', q ≤ q' ∧ q' < nodes ∧ Z q' = x ∧ O q' = y ∧ zf_C_numberOf_10 n x y (nI q) Z O (nI nodes) = some (nI (q' + 2), Z, O, nI nodes)) ∨
    ((∀ q', q ≤ q' → q' < nodes → ¬ (Z q' = x ∧ O q' = y)) ∧ zf_C_numberOf_10 n x y (nI q) Z O (nI nodes) = some (nI (nodes + 2), upd Z nodes x, upd O nodes y, nI (nodes + 1))) := by
  intro m
  induction m with
  | zero =>
    intro q n hq hm
    obtain ⟨n, rfl⟩ : ∃ n', n = n' + 1 := ⟨n - 1, by omega⟩
    refine Or.inr ⟨fun q' h1 h2 => by omega, ?_⟩
    rw [zf_C_numberOf_10, if_pos ((nI_leI (by omega) (by omega)).mpr (by omega)), z_gd_n hn (by decide), z_gd_n hn (by decide), nI_clamp (by omega), show nI nodes + (1 : Int32) = nI (nodes + 1) from nI_1 nodes, show nI (nodes + 1) + (1 : Int32) = nI (nodes + 2) from nI_1 (nodes + 1)]
  | succ m ih =>
    intro q n hq hm
    obtain ⟨n, rfl⟩ : ∃ n', n = n' + 1 := ⟨n - 1, by omega⟩
    rw [zf_C_numberOf_10, if_neg (fun z => absurd ((nI_leI (by omega) (by omega)).mp z) (by omega)), z_gd_n (by omega) (by decide), nI_clamp (by omega), show nI q + (1 : Int32) = nI (q + 1) from nI_1 q, show nI q + (2 : Int32) = nI (q + 2) from nI_add q 2, z_gd_n (by omega) (by decide)]
    have nx := ih (q + 1) n (by omega) (by omega)
    have go : ¬ (Z q = x ∧ O q = y) → ((∃ q', q ≤ q' ∧ q' < nodes ∧ Z q' = x ∧ O q' = y ∧ zf_C_numberOf_10 n x y (nI (q + 1)) Z O (nI nodes) = some (nI (q' + 2), Z, O, nI nodes)) ∨
        ((∀ q', q ≤ q' → q' < nodes → ¬ (Z q' = x ∧ O q' = y)) ∧ zf_C_numberOf_10 n x y (nI (q + 1)) Z O (nI nodes) = some (nI (nodes + 2), upd Z nodes x, upd O nodes y, nI (nodes + 1)))) := by
      intro hno
      rcases nx with ⟨q', a, b, c, d, e⟩ | ⟨a, b⟩
      · exact Or.inl ⟨q', by omega, b, c, d, e⟩
      · refine Or.inr ⟨fun q' h1 h2 => ?_, b⟩
        by_cases z : q' = q
        · rw [z]
          exact hno
        · exact a q' (by omega) h2
    by_cases h1 : Z q = x
    · rw [if_pos h1]
      by_cases h2 : O q = y
      · rw [if_pos h2]
        exact Or.inl ⟨q, Nat.le_refl q, by omega, h1, h2, rfl⟩
      · rw [if_neg h2]
        exact go (fun z => h2 z.2)
    · rw [if_neg h1]
      exact go (fun z => h1 z.1)
theorem zm_joinAt_loop {f : Nat → Bool} {n j first : Nat} {num : Nat → Nat} (hj : j < n) (h1 : ∀ a, a < 2 ^ (j + 1) → num a < first + 2) (h2 : ∀ a b, a < 2 ^ (j + 1) → b < 2 ^ (j + 1) → (num a = num b ↔ z_same f n (j + 1) a b = true)) (hb : first + 2 ^ j ≤ 128) (hb2 : 2 ^ (j + 1) ≤ 128) :
    ∀ m i fuel cur Z O, i + m = 2 ^ j → m < fuel → (∀ a, a < i → cur a = nI (z_nm f n j first num a)) → (∀ a, i ≤ a → a < 2 ^ (j + 1) → cur a = nI (num a)) →
    (∀ a, a < i → z_fresh f n j a = true → Z (first + z_cnt (z_fresh f n j) a) = nI (num a) ∧ O (first + z_cnt (z_fresh f n j) a) = nI (num (a + 2 ^ j))) →
    ∃ cur' Z' O', zf_C_joinAt_12 fuel (nI first) (nI (2 ^ j)) (nI i) cur Z O (nI (first + z_cnt (z_fresh f n j) i)) = some (cur', Z', O', nI (first + z_cnt (z_fresh f n j) (2 ^ j))) ∧ ∀ a, a < 2 ^ j → cur' a = nI (z_nm f n j first num a) := by
  have ep : 2 ^ (j + 1) = 2 ^ j * 2 := Nat.pow_succ 2 j
  intro m
  induction m with
  | zero =>
    intro i fuel cur Z O hi0 hm c1 c2 c3
    obtain ⟨fuel, rfl⟩ : ∃ n', fuel = n' + 1 := ⟨fuel - 1, by omega⟩
    refine ⟨cur, Z, O, ?_, fun a ha => c1 a (by omega)⟩
    rw [zf_C_joinAt_12, if_pos ((nI_leI (by omega) (by omega)).mpr (by omega)), show i = 2 ^ j by omega]
  | succ m ih =>
    intro i fuel cur Z O hi0 hm c1 c2 c3
    obtain ⟨fuel, rfl⟩ : ∃ n', fuel = n' + 1 := ⟨fuel - 1, by omega⟩
    have hcl := z_cnt_le (z_fresh f n j) i
    have n1 := h1 i (by omega)
    have n2 := h1 (i + 2 ^ j) (by omega)
    have e1 := c2 i (Nat.le_refl i) (by omega)
    have e2 := c2 (i + 2 ^ j) (by omega) (by omega)
    have hxy : (nI (num i) = nI (num (i + 2 ^ j))) ↔ z_same f n (j + 1) i (i + 2 ^ j) = true := (nI_eq (by omega) (by omega)).trans (h2 i (i + 2 ^ j) (by omega) (by omega))
    rw [zf_C_joinAt_12, if_neg (fun z => absurd ((nI_leI (by omega) (by omega)).mp z) (by omega)), show nI i + nI (2 ^ j) = nI (i + 2 ^ j) from nI_add i (2 ^ j), show nI i + (1 : Int32) = nI (i + 1) from nI_1 i, z_gd_n (show i < 128 by omega) (by decide), z_gd_n (show i + 2 ^ j < 128 by omega) (by decide), nI_clamp (n := i) (by omega), nI_clamp (n := i + 2 ^ j) (by omega), e1, e2]
    unfold zf_C_numberOf
    have ec : z_cnt (z_fresh f n j) (i + 1) = z_cnt (z_fresh f n j) i + if z_fresh f n j i then 1 else 0 := rfl
    -- what the next round needs, once the number of i is known
    have fin : ∀ (Z' O' : Nat → Int32), (∀ a, a < i + 1 → z_fresh f n j a = true → Z' (first + z_cnt (z_fresh f n j) a) = nI (num a) ∧ O' (first + z_cnt (z_fresh f n j) a) = nI (num (a + 2 ^ j))) →
        ∃ cur' Z'' O'', zf_C_joinAt_12 fuel (nI first) (nI (2 ^ j)) (nI (i + 1)) (upd cur i (nI (z_nm f n j first num i))) Z' O' (nI (first + z_cnt (z_fresh f n j) (i + 1))) = some (cur', Z'', O'', nI (first + z_cnt (z_fresh f n j) (2 ^ j))) ∧ ∀ a, a < 2 ^ j → cur' a = nI (z_nm f n j first num a) := by
      intro Z' O' hz
      refine ih (i + 1) fuel _ Z' O' (by omega) (by omega) (fun a ha => ?_) (fun a ha hb => ?_) hz
      · by_cases z : a = i
        · rw [z, pk_us]
        · rw [pk_un z]
          exact c1 a (by omega)
      · rw [pk_un (show a ≠ i by omega)]
        exact c2 a (by omega) hb
    cases hd : z_dep f n j i with
    | false =>
      have hs : z_same f n (j + 1) i (i + 2 ^ j) = true := by unfold z_dep at hd; simpa using hd
      have hnf : z_fresh f n j i = false := by unfold z_fresh; rw [hd]; rfl
      have hnm : z_nm f n j first num i = num i := by unfold z_nm; rw [hd]; rfl
      replace ec : z_cnt (z_fresh f n j) (i + 1) = z_cnt (z_fresh f n j) i := by rw [ec, hnf]; rfl
      rw [if_pos (hxy.mpr hs), z_b4_of, z_gd_n (show i < 128 by omega) (by decide), ← hnm, ← ec]
      exact fin Z O (fun a ha hf => by
        by_cases z : a = i
        · rw [z, hnf] at hf
          cases hf
        · exact c3 a (by omega) hf)
    | true =>
      have hs : ¬ z_same f n (j + 1) i (i + 2 ^ j) = true := by unfold z_dep at hd; simpa using hd
      have hnm : z_nm f n j first num i = first + z_cnt (z_fresh f n j) (z_rep f n j i) + 2 := by unfold z_nm; rw [hd]; rfl
      rw [if_neg (fun z => hs (hxy.mp z))]
      rcases zm_search (nI (num i)) (nI (num (i + 2 ^ j))) Z O (nodes := first + z_cnt (z_fresh f n j) i) (by omega) (z_cnt (z_fresh f n j) i) first z_FU rfl (by unfold z_FU; omega) with ⟨q', a1, a2, a3, a4, a5⟩ | ⟨a1, a2⟩
      · obtain ⟨b, b1, b2, b3⟩ := z_nth (f := z_fresh f n j) (n := i) (j := q' - first) (by omega)
        obtain ⟨d1, d2⟩ := c3 b b1 b2
        rw [show first + z_cnt (z_fresh f n j) b = q' by omega] at d1 d2
        have m1 := h1 b (by omega)
        have m2 := h1 (b + 2 ^ j) (by omega)
        have s1 : z_same f n (j + 1) b i = true := (h2 b i (by omega) (by omega)).mp ((nI_eq (by omega) (by omega)).mp (d1.symm.trans a3))
        have s2 : z_same f n (j + 1) (b + 2 ^ j) (i + 2 ^ j) = true := (h2 (b + 2 ^ j) (i + 2 ^ j) (by omega) (by omega)).mp ((nI_eq (by omega) (by omega)).mp (d2.symm.trans a4))
        have sb := (z_same_two hj).mpr ⟨s1, s2⟩
        have hnf : z_fresh f n j i = false := by
          cases w : z_fresh f n j i with
          | false => rfl
          | true =>
            have := (z_fresh_iff.mp w).2 b b1
            rw [z_same_symm sb] at this
            cases this
        replace ec : z_cnt (z_fresh f n j) (i + 1) = z_cnt (z_fresh f n j) i := by rw [ec, hnf]; rfl
        rw [z_fresh_rep b2 sb] at hnm
        rw [a5, z_b4_of, z_gd_n (show i < 128 by omega) (by decide), show q' + 2 = z_nm f n j first num i by omega, ← ec]
        exact fin Z O (fun a ha hf => by
          by_cases z : a = i
          · rw [z, hnf] at hf
            cases hf
          · exact c3 a (by omega) hf)
      · have hrf := z_rep_fresh hj hd
        have hrl := z_rep_le f n j i
        have hrs := z_rep_same f n j i
        have hri : z_rep f n j i = i := by
          by_cases z : z_rep f n j i = i
          · exact z
          · obtain ⟨d1, d2⟩ := c3 (z_rep f n j i) (by omega) hrf
            obtain ⟨s1, s2⟩ := (z_same_two hj).mp hrs
            have hlt := z_cnt_lt2 (show z_rep f n j i < i by omega) hrf
            exact absurd ⟨by rw [d1, (h2 _ i (by omega) (by omega)).mpr s1], by rw [d2, (h2 _ (i + 2 ^ j) (by omega) (by omega)).mpr s2]⟩ (a1 (first + z_cnt (z_fresh f n j) (z_rep f n j i)) (by omega) (by omega))
        rw [hri] at hnm hrf
        rw [hrf, if_pos (by rfl)] at ec
        rw [a2, z_b4_of, z_gd_n (show i < 128 by omega) (by decide), ← hnm, show first + z_cnt (z_fresh f n j) i + 1 = first + z_cnt (z_fresh f n j) (i + 1) by omega]
        exact fin _ _ (fun a ha hf => by
          by_cases z : a = i
          · rw [z, pk_us, pk_us]
            exact ⟨rfl, rfl⟩
          · have hlt := z_cnt_lt2 (show a < i by omega) hf
            rw [pk_un (by omega), pk_un (by omega)]
            exact c3 a (by omega) hf)
/-- a sum over the levels -/
def z_sm (g : Nat → Nat) : Nat → Nat
  | 0 => 0
  | n + 1 => z_sm g n + g n
theorem z_sm_le {f : Nat → Bool} {n : Nat} : ∀ J, z_sm (fun j => z_cnt (z_fresh f n j) (2 ^ j)) J + 1 ≤ 2 ^ J := by
  intro J
  induction J with
  | zero => exact Nat.le_refl 1
  | succ J ih =>
    have h := z_cnt_le (z_fresh f n J) (2 ^ J)
    have ep : 2 ^ (J + 1) = 2 ^ J * 2 := Nat.pow_succ 2 J
    show z_sm (fun j => z_cnt (z_fresh f n j) (2 ^ j)) J + z_cnt (z_fresh f n J) (2 ^ J) + 1 ≤ _
    omega
theorem zm_levels {f : Nat → Bool} {n : Nat} (hn : n ≤ 7) (rc : Int32) (fx : Nat → Int32) (lo hi : Nat → Int64) :
    ∀ J fuel nodes cur Z O (num : Nat → Nat), J ≤ n → J < fuel → (∀ a, a < 2 ^ J → cur a = nI (num a) ∧ num a < nodes + 2) → (∀ a b, a < 2 ^ J → b < 2 ^ J → (num a = num b ↔ z_same f n J a b = true)) → nodes + 2 ^ J ≤ 2 ^ n →
    ∃ cur' Z' O', zf_C_countNodes_42 fuel (nI J - 1) rc fx lo hi cur Z O (nI nodes) = some (nI (nodes + z_sm (fun j => z_cnt (z_fresh f n j) (2 ^ j)) J), cur', Z', O', nI (nodes + z_sm (fun j => z_cnt (z_fresh f n j) (2 ^ j)) J)) := by
  have p2 := (z_pow n hn).2.1
  intro J
  induction J with
  | zero =>
    intro fuel nodes cur Z O num hJ hm h1 h2 h3
    obtain ⟨fuel, rfl⟩ : ∃ n', fuel = n' + 1 := ⟨fuel - 1, by omega⟩
    refine ⟨cur, Z, O, ?_⟩
    rw [zf_C_countNodes_42, if_pos (by decide)]
    rfl
  | succ J ih =>
    intro fuel nodes cur Z O num hJ hm h1 h2 h3
    obtain ⟨fuel, rfl⟩ : ∃ n', fuel = n' + 1 := ⟨fuel - 1, by omega⟩
    have ep : 2 ^ (J + 1) = 2 ^ J * 2 := Nat.pow_succ 2 J
    have hp1 := (z_pow J (by omega)).1
    have hcl := z_cnt_le (z_fresh f n J) (2 ^ J)
    rw [zf_C_countNodes_42, nI_pred J, if_neg (nI_pos (by omega)), show nI J + (-1 : Int32) = nI J - 1 from by rw [Int32.sub_eq_add_neg]]
    unfold zf_C_joinAt
    obtain ⟨cur1, Z1, O1, e, g⟩ := zm_joinAt_loop (f := f) (n := n) (j := J) (first := nodes) (num := num) (by omega) (fun a ha => (h1 a ha).2) h2 (by omega) (by omega) (2 ^ J) 0 z_FU cur Z O (by omega) (by unfold z_FU; omega) (fun a ha => absurd ha (by omega)) (fun a _ ha => (h1 a ha).1) (fun a ha => absurd ha (by omega))
    rw [hp1]
    have e' : zf_C_joinAt_12 z_FU (nI nodes) (nI (2 ^ J)) (0 : Int32) cur Z O (nI nodes) = some (cur1, Z1, O1, nI (nodes + z_cnt (z_fresh f n J) (2 ^ J))) := e
    rw [e', z_b4_of]
    obtain ⟨cur2, Z2, O2, e2⟩ := ih fuel (nodes + z_cnt (z_fresh f n J) (2 ^ J)) cur1 Z1 O1 (z_nm f n J nodes num) (by omega) (by omega) (fun a ha => ⟨g a ha, z_nm_lt (by omega) ha (h1 a (by omega)).2⟩) (fun a b ha hb => z_nm_iff (by omega) (fun a ha => (h1 a ha).2) h2 ha hb) (by omega)
    refine ⟨cur2, Z2, O2, ?_⟩
    rw [e2, show nodes + z_cnt (z_fresh f n J) (2 ^ J) + z_sm (fun j => z_cnt (z_fresh f n j) (2 ^ j)) J = nodes + z_sm (fun j => z_cnt (z_fresh f n j) (2 ^ j)) (J + 1) from by show _ = nodes + (z_sm (fun j => z_cnt (z_fresh f n j) (2 ^ j)) J + z_cnt (z_fresh f n J) (2 ^ J)); omega]
theorem zm_tab_loop {k g : Nat} {fx : Nat → Int32} (lo hi : Nat → Int64) (hk : k ≤ 7) (hg : g < k) (hf : z_fok fx g) (Z O : Nat → Int32) :
    ∀ m i fuel cur, i + m = 2 ^ k → m < fuel → (∀ a, a < i → cur a = nI (if z_vv fx lo hi g a then 1 else 0)) →
    ∃ cur' Z' O', zf_C_countNodes_7 fuel (nI g) (nI i) (nI k) fx lo hi cur Z O 0 = some (nI (z_sm (fun j => z_cnt (z_fresh (z_vv fx lo hi g) k j) (2 ^ j)) k), cur', Z', O', nI (z_sm (fun j => z_cnt (z_fresh (z_vv fx lo hi g) k j) (2 ^ j)) k)) := by
  obtain ⟨p1, p2, p3⟩ := z_pow k hk
  intro m
  induction m with
  | zero =>
    intro i fuel cur hi0 hm h
    obtain ⟨fuel, rfl⟩ : ∃ n', fuel = n' + 1 := ⟨fuel - 1, by omega⟩
    rw [zf_C_countNodes_7, p1, if_pos ((nI_leI (by omega) (by omega)).mpr (by omega))]
    obtain ⟨c, Z', O', e⟩ := zm_levels (f := z_vv fx lo hi g) hk (nI k) fx lo hi k z_FU 0 cur Z O (fun a => if z_vv fx lo hi g a then 1 else 0) (Nat.le_refl k) (by unfold z_FU; omega) (fun a ha => ⟨h a (by omega), by split <;> omega⟩) (fun a b ha hb => by
      rw [z_same_iff, Nat.sub_self]
      constructor
      · intro q t ht
        rw [show t = 0 by omega, Nat.mul_zero, Nat.add_zero, Nat.add_zero]
        cases q1 : z_vv fx lo hi g a <;> cases q2 : z_vv fx lo hi g b <;> simp_all
      · intro q
        have := q 0 (by decide)
        rw [Nat.mul_zero, Nat.add_zero, Nat.add_zero] at this
        rw [this]) (by omega)
    rw [Nat.zero_add] at e
    exact ⟨c, Z', O', e⟩
  | succ m ih =>
    intro i fuel cur hi0 hm h
    obtain ⟨fuel, rfl⟩ : ∃ n', fuel = n' + 1 := ⟨fuel - 1, by omega⟩
    rw [zf_C_countNodes_7, p1, if_neg (fun z => absurd ((nI_leI (by omega) (by omega)).mp z) (by omega)), zm_valueOf lo hi (by omega) (by omega) hf, z_b1_of, z_gd_n (by omega) (by decide), nI_clamp (by omega), show nI i + (1 : Int32) = nI (i + 1) from nI_1 i]
    refine ih (i + 1) fuel _ (by omega) (by omega) (fun a ha => ?_)
    by_cases z : a = i
    · rw [z, pk_us]
      cases z_vv fx lo hi g i <;> rfl
    · rw [pk_un z]
      exact h a (by omega)
