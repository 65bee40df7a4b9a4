/-! ===== cubes: f says which of the states of n genes are in the set ===== -/
/-- what genes j .. j + m - 1 give when they may have any value -/
def z_any : Nat → Nat → Nat
  | _, 0 => 0
  | j, m + 1 => 2 * 4 ^ j + z_any (j + 1) m
def z_full (f : Nat → Bool) (m j b : Nat) : Bool := (List.range (2 ^ m)).all (fun t => f (b + 2 ^ j * t))
def z_void (f : Nat → Bool) (m j b : Nat) : Bool := (List.range (2 ^ m)).all (fun t => !f (b + 2 ^ j * t))
theorem z_full_iff {f : Nat → Bool} {m j b : Nat} : z_full f m j b = true ↔ ∀ t, t < 2 ^ m → f (b + 2 ^ j * t) = true := by
  unfold z_full
  rw [List.all_eq_true]
  exact ⟨fun h t ht => h t (List.mem_range.mpr ht), fun h t ht => h t (List.mem_range.mp ht)⟩
theorem z_void_iff {f : Nat → Bool} {m j b : Nat} : z_void f m j b = true ↔ ∀ t, t < 2 ^ m → f (b + 2 ^ j * t) = false := by
  unfold z_void
  rw [List.all_eq_true]
  exact ⟨fun h t ht => by have := h t (List.mem_range.mpr ht); simpa using this, fun h t ht => by rw [h t (List.mem_range.mp ht)]; rfl⟩
/-- the cubes of those states that are as b on the genes before j; D: what these are given; m: how many genes there are from j on -/
def z_cb (f : Nat → Bool) (n : Nat) : Nat → Nat → Nat → Nat → List Nat
  | 0, j, b, D => if z_full f 0 j b then [D] else []
  | m + 1, j, b, D => if z_full f (m + 1) j b then [D + z_any j (m + 1)] else if z_void f (m + 1) j b then [] else
      if z_dep f n j b then z_cb f n m (j + 1) b D ++ z_cb f n m (j + 1) (b + 2 ^ j) (D + 4 ^ j) else z_cb f n m (j + 1) b (D + 2 * 4 ^ j)
theorem z_cb_len (f : Nat → Bool) (n : Nat) : ∀ m j b D, (z_cb f n m j b D).length ≤ 2 ^ m := by
  intro m
  induction m with
  | zero =>
    intro j b D
    unfold z_cb
    split
    · exact Nat.le_refl 1
    · exact Nat.zero_le _
  | succ m ih =>
    intro j b D
    have e : 2 ^ (m + 1) = 2 ^ m * 2 := Nat.pow_succ 2 m
    have h0 : 1 ≤ 2 ^ m := Nat.one_le_two_pow
    unfold z_cb
    split
    · show 1 ≤ _
      omega
    split
    · exact Nat.zero_le _
    split
    · have a := ih (j + 1) b D
      have c := ih (j + 1) (b + 2 ^ j) (D + 4 ^ j)
      rw [List.length_append]
      omega
    · have a := ih (j + 1) b (D + 2 * 4 ^ j)
      omega
theorem z_cnt_full {f : Nat → Bool} {n : Nat} : z_cnt f n = n ↔ ∀ t, t < n → f t = true := by
  induction n with
  | zero => exact ⟨fun _ t ht => absurd ht (Nat.not_lt_zero t), fun _ => rfl⟩
  | succ n ih =>
    have hl := z_cnt_le f n
    show z_cnt f n + (if f n then 1 else 0) = n + 1 ↔ _
    constructor
    · intro h t ht
      cases q : f n with
      | false =>
        rw [q, if_neg (by decide)] at h
        omega
      | true =>
        rw [q, if_pos (by rfl)] at h
        by_cases z : t = n
        · rw [z]
          exact q
        · exact ih.mp (by omega) t (by omega)
    · intro h
      rw [h n (by omega), if_pos (by rfl), ih.mpr (fun t ht => h t (by omega))]
theorem z_cnt_void {f : Nat → Bool} {n : Nat} : z_cnt f n = 0 ↔ ∀ t, t < n → f t = false := by
  constructor
  · intro h t ht
    cases q : f t with
    | false => rfl
    | true =>
      have := z_cnt_lt2 ht q
      omega
  · exact z_cnt_none
theorem zm_inside_loop (lo hi : Int64) {k j b : Nat} (hk : k ≤ 7) (hj : j ≤ k) (hb : b < 2 ^ j) : ∀ m i n, i + m = 2 ^ (k - j) → m < n → zf_M_countInside_5 n (nI j) (nI (z_cnt (fun t => z_rb lo hi (b + 2 ^ j * t)) i)) (nI (b + 2 ^ j * i)) (nI k) lo hi = some (nI (z_cnt (fun t => z_rb lo hi (b + 2 ^ j * t)) (2 ^ (k - j)))) := by
  obtain ⟨p1, p2, p3⟩ := z_pow k hk
  have pj := (z_pow j (by omega)).1
  have e : 2 ^ k = 2 ^ j * 2 ^ (k - j) := by rw [← Nat.pow_add]; congr 1; omega
  intro m
  induction m with
  | zero =>
    intro i n hi0 hn
    obtain ⟨n, rfl⟩ : ∃ n', n = n' + 1 := ⟨n - 1, by omega⟩
    have hi1 : i = 2 ^ (k - j) := by omega
    have h9 : b + 2 ^ j * i < 2 ^ j + 2 ^ k := by rw [hi1, ← e]; omega
    have pj2 := (z_pow j (by omega)).2.1
    rw [zf_M_countInside_5, p1, if_pos ((nI_leI (by omega) (by omega)).mpr (by rw [hi1, ← e]; omega)), hi1]
  | succ m ih =>
    intro i n hi0 hn
    obtain ⟨n, rfl⟩ : ∃ n', n = n' + 1 := ⟨n - 1, by omega⟩
    have hl := z_at_lt hj hb (show i < 2 ^ (k - j) by omega)
    rw [zf_M_countInside_5, p1, if_neg (fun q => absurd ((nI_leI (by omega) (by omega)).mp q) (by omega)), zm_bitOf lo hi (by omega), z_b1_of, pj, nI_add, show b + 2 ^ j * i + 2 ^ j = b + 2 ^ j * (i + 1) by rw [Nat.mul_add, Nat.mul_one]; omega]
    have ec : nI (z_cnt (fun t => z_rb lo hi (b + 2 ^ j * t)) i) + (if z_rb lo hi (b + 2 ^ j * i) then (1 : Int32) else 0) = nI (z_cnt (fun t => z_rb lo hi (b + 2 ^ j * t)) (i + 1)) := by
      show _ = nI (z_cnt (fun t => z_rb lo hi (b + 2 ^ j * t)) i + if z_rb lo hi (b + 2 ^ j * i) then 1 else 0)
      cases z_rb lo hi (b + 2 ^ j * i) with
      | true => exact nI_1 _
      | false => exact nI_add _ 0
    rw [ec]
    exact ih (i + 1) n (by omega) (by omega)
theorem zm_inside (lo hi : Int64) {k j b : Nat} (hk : k ≤ 7) (hj : j ≤ k) (hb : b < 2 ^ j) : zf_M_countInside (nI j) (nI b) (nI k) lo hi = some (nI (z_cnt (fun t => z_rb lo hi (b + 2 ^ j * t)) (2 ^ (k - j)))) := by
  have p := (z_pow (k - j) (by omega)).2.1
  have e := zm_inside_loop lo hi hk hj hb (2 ^ (k - j)) 0 z_FU (by omega) (by unfold z_FU; omega)
  rw [Nat.mul_zero, Nat.add_zero] at e
  exact e
theorem zm_diff_loop (lo hi : Int64) {k j b : Nat} (hk : k ≤ 7) (hj : j < k) (hb : b < 2 ^ j) : ∀ m i n, i + m = 2 ^ (k - (j + 1)) → m < n → (∀ t, t < i → z_rb lo hi (b + 2 ^ (j + 1) * t) = z_rb lo hi (b + 2 ^ j + 2 ^ (j + 1) * t)) →
    zf_M_makesDifference_7 n (nI (2 ^ j)) (nI (b + 2 ^ (j + 1) * i)) (nI k) lo hi = some (if z_dep (z_rb lo hi) k j b then 1 else 0) := by
  obtain ⟨p1, p2, p3⟩ := z_pow k hk
  have pj := (z_pow j (by omega)).2.1
  have e : 2 ^ k = 2 ^ (j + 1) * 2 ^ (k - (j + 1)) := by rw [← Nat.pow_add]; congr 1; omega
  have ep : 2 ^ (j + 1) = 2 ^ j * 2 := Nat.pow_succ 2 j
  have hdep : z_dep (z_rb lo hi) k j b = false ↔ ∀ t, t < 2 ^ (k - (j + 1)) → z_rb lo hi (b + 2 ^ (j + 1) * t) = z_rb lo hi (b + 2 ^ j + 2 ^ (j + 1) * t) := by
    rw [← z_same_iff]
    unfold z_dep
    cases z_same (z_rb lo hi) k (j + 1) b (b + 2 ^ j) <;> simp
  intro m
  induction m with
  | zero =>
    intro i n hi0 hn h
    obtain ⟨n, rfl⟩ : ∃ n', n = n' + 1 := ⟨n - 1, by omega⟩
    have hi1 : i = 2 ^ (k - (j + 1)) := by omega
    rw [zf_M_makesDifference_7, p1, if_pos ((nI_leI (by omega) (by rw [hi1, ← e]; omega)).mpr (by rw [hi1, ← e]; omega)), z_gb0, hdep.mpr (fun t ht => h t (by omega))]
    rfl
  | succ m ih =>
    intro i n hi0 hn h
    obtain ⟨n, rfl⟩ : ∃ n', n = n' + 1 := ⟨n - 1, by omega⟩
    have hl := z_at_lt (a := b + 2 ^ j) (show j + 1 ≤ k by omega) (by omega) (show i < 2 ^ (k - (j + 1)) by omega)
    rw [zf_M_makesDifference_7, p1, if_neg (fun q => absurd ((nI_leI (by omega) (by omega)).mp q) (by omega)), zm_bitOf lo hi (by omega), z_b1_of, nI_add, show b + 2 ^ (j + 1) * i + 2 ^ j = b + 2 ^ j + 2 ^ (j + 1) * i by omega, zm_bitOf lo hi (by omega), z_b1_of, show (2 : Int32) * nI (2 ^ j) = nI (2 * 2 ^ j) from pk_mul 2 (2 ^ j), nI_add, show b + 2 ^ (j + 1) * i + 2 * 2 ^ j = b + 2 ^ (j + 1) * (i + 1) by rw [Nat.mul_add, Nat.mul_one]; omega]
    by_cases q : z_rb lo hi (b + 2 ^ (j + 1) * i) = z_rb lo hi (b + 2 ^ j + 2 ^ (j + 1) * i)
    · rw [if_pos (by rw [q])]
      refine ih (i + 1) n (by omega) (by omega) (fun t ht => ?_)
      by_cases z : t = i
      · rw [z]
        exact q
      · exact h t (by omega)
    · rw [if_neg (fun w => q (by cases q1 : z_rb lo hi (b + 2 ^ (j + 1) * i) <;> cases q2 : z_rb lo hi (b + 2 ^ j + 2 ^ (j + 1) * i) <;> rw [q1, q2] at w <;> first | rfl | exact absurd w (by decide))), z_gb1]
      have : z_dep (z_rb lo hi) k j b = true := by
        cases w : z_dep (z_rb lo hi) k j b with
        | true => rfl
        | false => exact absurd (hdep.mp w i (by omega)) q
      rw [this]
      rfl
theorem zm_diff (lo hi : Int64) {k j b : Nat} (hk : k ≤ 7) (hj : j < k) (hb : b < 2 ^ j) : zf_M_makesDifference (nI j) (nI b) (nI k) lo hi = some (if z_dep (z_rb lo hi) k j b then 1 else 0) := by
  have p := (z_pow (k - (j + 1)) (by omega)).2.1
  have pj := (z_pow j (by omega)).1
  unfold zf_M_makesDifference
  rw [pj]
  have e := zm_diff_loop lo hi hk hj hb (2 ^ (k - (j + 1))) 0 z_FU (by omega) (by unfold z_FU; omega) (fun t ht => absurd ht (by omega))
  rw [Nat.mul_zero, Nat.add_zero] at e
  exact e
theorem z_giv : ∀ g, g < 7 → ((1 : Int32) <<< (((2 : Int32) * nI g) &&& 31)) = nI (4 ^ g) ∧ ((2 : Int32) <<< (((2 : Int32) * nI g) &&& 31)) = nI (2 * 4 ^ g) := by decide +kernel
theorem zm_anyFrom_loop {k : Nat} (hk : k ≤ 7) : ∀ m j n c, j + m = k → m < n → zf_M_anyFrom_4 n (nI c) (nI j) (nI k) = some (nI (c + z_any j m)) := by
  intro m
  induction m with
  | zero =>
    intro j n c hj hn
    obtain ⟨n, rfl⟩ : ∃ n', n = n' + 1 := ⟨n - 1, by omega⟩
    rw [zf_M_anyFrom_4, if_pos ((nI_leI (by omega) (by omega)).mpr (by omega))]
    rfl
  | succ m ih =>
    intro j n c hj hn
    obtain ⟨n, rfl⟩ : ∃ n', n = n' + 1 := ⟨n - 1, by omega⟩
    rw [zf_M_anyFrom_4, if_neg (fun q => absurd ((nI_leI (by omega) (by omega)).mp q) (by omega))]
    unfold zf_M_given
    rw [(z_giv j (by omega)).2, z_b1_of, nI_add, show nI j + (1 : Int32) = nI (j + 1) from nI_1 j, ih (j + 1) n (c + 2 * 4 ^ j) (by omega) (by omega)]
    show _ = some (nI (c + (2 * 4 ^ j + z_any (j + 1) m)))
    rw [Nat.add_assoc]
/-- a list laid into an array from a place on -/
def z_lay (f : Nat → Int32) : Nat → List Nat → (Nat → Int32)
  | _, [] => f
  | c, x :: l => z_lay (upd f c (nI x)) (c + 1) l
theorem z_lay_app (f : Nat → Int32) (c : Nat) (l l2 : List Nat) : z_lay f c (l ++ l2) = z_lay (z_lay f c l) (c + l.length) l2 := by
  induction l generalizing f c with
  | nil => rfl
  | cons x l ih =>
    show z_lay (upd f c (nI x)) (c + 1) (l ++ l2) = _
    rw [ih]
    show _ = z_lay (z_lay (upd f c (nI x)) (c + 1) l) (c + (l.length + 1)) l2
    rw [show c + 1 + l.length = c + (l.length + 1) by omega]
theorem z_lay_low (f : Nat → Int32) (c : Nat) (l : List Nat) {i : Nat} (h : i < c) : z_lay f c l i = f i := by
  induction l generalizing f c with
  | nil => rfl
  | cons x l ih =>
    show z_lay (upd f c (nI x)) (c + 1) l i = _
    rw [ih _ _ (by omega), pk_un (by omega)]
theorem z_lay_at (f : Nat → Int32) (c : Nat) (l : List Nat) {i : Nat} (h : i < l.length) : z_lay f c l (c + i) = nI (l.getD i 0) := by
  induction l generalizing f c i with
  | nil => exact absurd h (Nat.not_lt_zero i)
  | cons x l ih =>
    show z_lay (upd f c (nI x)) (c + 1) l (c + i) = _
    cases i with
    | zero =>
      rw [z_lay_low _ _ _ (by omega), Nat.add_zero, pk_us]
      rfl
    | succ i =>
      rw [show c + (i + 1) = c + 1 + i by omega, ih _ _ (by rw [List.length_cons] at h; omega)]
      rfl
theorem zm_split (lo hi : Int64) {k : Nat} (hk : k ≤ 7) : ∀ m d j b D c made, j + m = k → m < d → b < 2 ^ j → c + 2 ^ m ≤ 128 →
    zf_M_split d (nI j) (nI b) (nI D) made (nI c) (nI k) lo hi = some (z_lay made c (z_cb (z_rb lo hi) k m j b D), nI (c + (z_cb (z_rb lo hi) k m j b D).length)) := by
  intro m
  induction m with
  | zero =>
    intro d j b D c made hj hd hb hc
    obtain ⟨d, rfl⟩ : ∃ n', d = n' + 1 := ⟨d - 1, by omega⟩
    have hjk : j = k := by omega
    subst hjk
    rw [zf_M_split, zf_M_split_b, zm_inside lo hi hk (Nat.le_refl j) hb, z_b1_of, show nI j - nI j = nI 0 from by rw [pk_sub (Nat.le_refl j), Nat.sub_self], (z_pow 0 (by decide)).1, Nat.sub_self]
    have e0 : z_cnt (fun t => z_rb lo hi (b + 2 ^ j * t)) (2 ^ 0) = if z_rb lo hi b then 1 else 0 := by
      show 0 + (if z_rb lo hi (b + 2 ^ j * 0) then 1 else 0) = _
      rw [Nat.zero_add, Nat.mul_zero, Nat.add_zero]
    have e1 : z_full (z_rb lo hi) 0 j b = z_rb lo hi b := by
      show (z_rb lo hi (b + 2 ^ j * 0) && true) = _
      rw [Nat.mul_zero, Nat.add_zero, Bool.and_true]
    rw [e0]
    unfold z_cb
    rw [e1]
    cases q : z_rb lo hi b with
    | true =>
      rw [if_pos (show nI (if true = true then 1 else 0) = nI (2 ^ 0) from rfl), if_pos (show true = true from rfl)]
      unfold zf_M_anyFrom
      rw [show (0 : Int32) = nI 0 from rfl, zm_anyFrom_loop hk 0 j z_FU 0 rfl (by unfold z_FU; omega), z_b1_of, z_gd_n (by omega) (by decide), nI_clamp (by omega), nI_add, show nI c + (1 : Int32) = nI (c + 1) from nI_1 c]
      rfl
    | false =>
      rw [if_neg (show ¬ nI (if false = true then 1 else 0) = nI (2 ^ 0) by decide), if_pos (show nI (if false = true then 1 else 0) ≤ 0 by decide), if_neg (show ¬ false = true by decide)]
      rfl
  | succ m ih =>
    intro d j b D c made hj hd hb hc
    obtain ⟨d, rfl⟩ : ∃ n', d = n' + 1 := ⟨d - 1, by omega⟩
    have em : k - j = m + 1 := by omega
    have e2 : 2 ^ (m + 1) = 2 ^ m * 2 := Nat.pow_succ 2 m
    have ep : 2 ^ (j + 1) = 2 ^ j * 2 := Nat.pow_succ 2 j
    obtain ⟨q1, q2, q3⟩ := z_pow (m + 1) (by omega)
    have hcl := z_cnt_le (fun t => z_rb lo hi (b + 2 ^ j * t)) (2 ^ (m + 1))
    rw [zf_M_split, zf_M_split_b, zm_inside lo hi hk (by omega) hb, z_b1_of, show nI k - nI j = nI (k - j) from pk_sub (by omega), em, q1]
    have hfull : (nI (z_cnt (fun t => z_rb lo hi (b + 2 ^ j * t)) (2 ^ (m + 1))) = nI (2 ^ (m + 1))) ↔ z_full (z_rb lo hi) (m + 1) j b = true := by
      rw [nI_eq (by omega) (by omega), z_cnt_full, z_full_iff]
    have hvoid : (nI (z_cnt (fun t => z_rb lo hi (b + 2 ^ j * t)) (2 ^ (m + 1))) ≤ 0) ↔ z_void (z_rb lo hi) (m + 1) j b = true := by
      rw [show (0 : Int32) = nI 0 from rfl, nI_leI (by omega) (by decide), Nat.le_zero, z_cnt_void, z_void_iff]
    unfold z_cb
    by_cases hf : z_full (z_rb lo hi) (m + 1) j b = true
    · rw [if_pos (hfull.mpr hf), if_pos hf]
      unfold zf_M_anyFrom
      rw [show (0 : Int32) = nI 0 from rfl, zm_anyFrom_loop hk (m + 1) j z_FU 0 (by omega) (by unfold z_FU; omega), z_b1_of, z_gd_n (by omega) (by decide), nI_clamp (by omega), nI_add, show nI c + (1 : Int32) = nI (c + 1) from nI_1 c, Nat.zero_add]
      rfl
    rw [if_neg (fun z => hf (hfull.mp z)), if_neg hf]
    by_cases hv : z_void (z_rb lo hi) (m + 1) j b = true
    · rw [if_pos (hvoid.mpr hv), if_pos hv]
      rfl
    rw [if_neg (fun z => hv (hvoid.mp z)), if_neg hv, if_neg (fun q => absurd ((nI_leI (by omega) (by omega)).mp q) (by omega)), zm_diff lo hi hk (by omega) hb, z_b1_of]
    unfold zf_M_given
    rw [(z_giv j (by omega)).1, (z_giv j (by omega)).2, (z_pow j (by omega)).1, show nI j + (1 : Int32) = nI (j + 1) from nI_1 j]
    simp only [z_b1_of, nI_add]
    cases hd2 : z_dep (z_rb lo hi) k j b with
    | false =>
      rw [if_pos (by rfl), if_neg (by decide), ih d (j + 1) b (D + 2 * 4 ^ j) c made (by omega) (by omega) (by omega) (by omega), z_b2_of]
    | true =>
      have l1 := z_cb_len (z_rb lo hi) k m (j + 1) b D
      rw [if_neg (by decide), if_pos (by rfl), ih d (j + 1) b D c made (by omega) (by omega) (by omega) (by omega), z_b2_of, ih d (j + 1) (b + 2 ^ j) (D + 4 ^ j) _ _ (by omega) (by omega) (by omega) (by omega), z_b2_of, z_lay_app, List.length_append, Nat.add_assoc]
