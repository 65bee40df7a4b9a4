/-! ===== the reference's stack of what is still to be looked at ===== -/
def z_stk (gt gv : Nat → Int32) : List (Nat × Nat × Nat) → Prop
  | [] => True
  | q :: l => gt l.length = nI q.1 ∧ gv l.length = nI q.2.2 ∧ z_stk gt gv l
theorem z_stk_upd {gt gv : Nat → Int32} {m : Nat} {x y : Int32} : ∀ {l : List (Nat × Nat × Nat)}, l.length ≤ m → z_stk gt gv l → z_stk (upd gt m x) (upd gv m y) l := by
  intro l
  induction l with
  | nil => intro _ _; trivial
  | cons q l ih =>
    intro h hs
    rw [List.length_cons] at h
    obtain ⟨a, b, c⟩ := hs
    exact ⟨by rw [pk_un (by omega)]; exact a, by rw [pk_un (by omega)]; exact b, ih (by omega) c⟩
def z_lst (f : Nat → Bool) (k : Nat) : List (Nat × Nat × Nat) → List Nat
  | [] => []
  | q :: l => z_cb f k (k - q.1) q.1 q.2.1 q.2.2 ++ z_lst f k l
def z_ms (k : Nat) : List (Nat × Nat × Nat) → Nat
  | [] => 0
  | q :: l => (2 ^ (k - q.1 + 1) - 1) + z_ms k l
def z_des : Nat → List (Nat × Nat × Nat) → Prop
  | _, [] => True
  | m, q :: l => q.1 < m ∧ z_des q.1 l
theorem z_des_le {m m' : Nat} (h : m ≤ m') : ∀ {l : List (Nat × Nat × Nat)}, z_des m l → z_des m' l := by
  intro l hl
  cases l with
  | nil => trivial
  | cons q l => exact ⟨Nat.lt_of_lt_of_le hl.1 h, hl.2⟩
theorem z_des_len : ∀ {l : List (Nat × Nat × Nat)} {m : Nat}, z_des m l → l.length ≤ m := by
  intro l
  induction l with
  | nil => intro m _; exact Nat.zero_le m
  | cons q l ih =>
    intro m h
    have := ih h.2
    have := h.1
    rw [List.length_cons]
    omega
def z_stp (k : Nat) : List (Nat × Nat × Nat) → Prop
  | [] => True
  | q :: l => q.1 ≤ k ∧ z_des (q.1 + 1) l
theorem z_stp_tail {k : Nat} {q : Nat × Nat × Nat} {l : List (Nat × Nat × Nat)} (h : z_stp k (q :: l)) : z_stp k l := by
  obtain ⟨h1, h2⟩ := h
  cases l with
  | nil => trivial
  | cons p l => exact ⟨by have := h2.1; omega, z_des_le (by omega) h2.2⟩
/-- what comes of the cubes that are left, when 'seen' have been seen: the one that is asked for, or how many -/
def z_wk (x2 : Int32) : Nat → List Nat → Int32
  | seen, [] => if 0 ≤ x2 then -1 else nI seen
  | seen, c :: l => if nI seen = x2 then nI c else z_wk x2 (seen + 1) l
theorem z_void_full {f : Nat → Bool} {m j b : Nat} (h : z_void f m j b = true) : z_full f m j b = false := by
  have h1 := z_void_iff.mp h 0 (Nat.two_pow_pos m)
  cases q : z_full f m j b with
  | false => rfl
  | true =>
    rw [z_full_iff.mp q 0 (Nat.two_pow_pos m)] at h1
    cases h1
theorem z_one_state {f : Nat → Bool} {j b : Nat} (h : z_void f 0 j b = false) : z_full f 0 j b = true := by
  refine z_full_iff.mpr (fun t ht => ?_)
  have e : z_void f 0 j b = !f (b + 2 ^ j * 0) := by
    show (!f (b + 2 ^ j * 0) && true) = _
    rw [Bool.and_true]
  rw [show t = 0 by omega]
  rw [e] at h
  simpa using h
theorem z_cb_void {f : Nat → Bool} {n m j b D : Nat} (h : z_void f m j b = true) : z_cb f n m j b D = [] := by
  cases m with
  | zero =>
    unfold z_cb
    rw [z_void_full h]
    rfl
  | succ m =>
    unfold z_cb
    rw [z_void_full h, h]
    rfl
theorem z_cb_full {f : Nat → Bool} {n m j b D : Nat} (h : z_full f m j b = true) : z_cb f n m j b D = [D + z_any j m] := by
  cases m with
  | zero =>
    unfold z_cb
    rw [h]
    rfl
  | succ m =>
    unfold z_cb
    rw [h]
    rfl
theorem z_cb_dep {f : Nat → Bool} {n m j b D : Nat} (h1 : z_full f (m + 1) j b = false) (h2 : z_void f (m + 1) j b = false) (h3 : z_dep f n j b = true) : z_cb f n (m + 1) j b D = z_cb f n m (j + 1) b D ++ z_cb f n m (j + 1) (b + 2 ^ j) (D + 4 ^ j) := by
  show (if z_full f (m + 1) j b then [D + z_any j (m + 1)] else if z_void f (m + 1) j b then [] else if z_dep f n j b then z_cb f n m (j + 1) b D ++ z_cb f n m (j + 1) (b + 2 ^ j) (D + 4 ^ j) else z_cb f n m (j + 1) b (D + 2 * 4 ^ j)) = _
  rw [h1, h2, h3]
  rfl
theorem z_cb_any {f : Nat → Bool} {n m j b D : Nat} (h1 : z_full f (m + 1) j b = false) (h2 : z_void f (m + 1) j b = false) (h3 : z_dep f n j b = false) : z_cb f n (m + 1) j b D = z_cb f n m (j + 1) b (D + 2 * 4 ^ j) := by
  show (if z_full f (m + 1) j b then [D + z_any j (m + 1)] else if z_void f (m + 1) j b then [] else if z_dep f n j b then z_cb f n m (j + 1) b D ++ z_cb f n m (j + 1) (b + 2 ^ j) (D + 4 ^ j) else z_cb f n m (j + 1) b (D + 2 * 4 ^ j)) = _
  rw [h1, h2, h3]
  rfl
section
variable {k : Nat} {rl rh : Nat → Int64} {Ql : Nat → Int32} {x v : Nat} {x2 : Int32}
theorem zm_look_any (hk : k ≤ 7) {k13 : Int32 → Int32 → Int32 → Int32 → (Nat → Int64) → (Nat → Int64) → (Nat → Int32) → Int32 → (Nat → Int32) → (Nat → Int32) → Option (Int32 × Int32 × (Nat → Int32) × (Nat → Int32))} {x3 o : Int32} {gt gv : Nat → Int32} :
    ∀ m j n c, j + m = k → m < n → zf_Q_look_73 k13 n (nI x) x2 x3 (nI c) (nI j) (nI k) rl rh Ql o gt gv = if x3 = x2 then some (nI (c + z_any j m), o, gt, gv) else k13 (nI x) x2 (x3 + 1) (nI k) rl rh Ql o gt gv := by
  intro m
  induction m with
  | zero =>
    intro j n c hj hn
    obtain ⟨n, rfl⟩ : ∃ n', n = n' + 1 := ⟨n - 1, by omega⟩
    rw [zf_Q_look_73, if_pos ((nI_leI (by omega) (by omega)).mpr (by omega))]
    rfl
  | succ m ih =>
    intro j n c hj hn
    obtain ⟨n, rfl⟩ : ∃ n', n = n' + 1 := ⟨n - 1, by omega⟩
    rw [zf_Q_look_73, if_neg (fun q => absurd ((nI_leI (by omega) (by omega)).mp q) (by omega)), (z_giv j (by omega)).2, nI_add, show nI j + (1 : Int32) = nI (j + 1) from nI_1 j, ih (j + 1) n (c + 2 * 4 ^ j) (by omega) (by omega)]
    show _ = if x3 = x2 then some (nI (c + (2 * 4 ^ j + z_any (j + 1) m)), o, gt, gv) else _
    rw [Nat.add_assoc]
theorem zm_later {c j D : Nat} {gt gv : Nat → Int32} (h : c < 32) : zf_Q_later (nI j) (nI D) (nI c) gt gv = some (nI (c + 1), upd gt c (nI j), upd gv c (nI D)) := by
  unfold zf_Q_later
  rw [z_gd_n h (by decide), z_gd_n h (by decide), nI_clamp (by omega), show nI c + (1 : Int32) = nI (c + 1) from nI_1 c]
theorem zm_look (hk : k ≤ 7) (hx : x < 128) (hv : v < 128) (hl : Ql x = nI v) : ∀ fuel l seen gt gv, z_ms k l < fuel → (∀ q ∈ l, z_lv (z_R rl rh v) k q.1 q.2.1 q.2.2) → z_stp k l → z_stk gt gv l →
    ∃ o gt' gv', zf_Q_look_13 fuel (nI x) x2 (nI seen) (nI k) rl rh Ql (nI l.length) gt gv = some (z_wk x2 seen (z_lst (z_R rl rh v) k l), o, gt', gv') := by
  intro fuel
  induction fuel with
  | zero => intro l seen gt gv h; exact absurd h (Nat.not_lt_zero _)
  | succ fuel ih =>
    intro l seen gt gv hms hlv hst hsk
    cases l with
    | nil =>
      refine ⟨nI 0, gt, gv, ?_⟩
      rw [zf_Q_look_13, if_pos (by decide)]
      show (if 0 ≤ x2 then _ else _) = some (if 0 ≤ x2 then -1 else nI seen, _, _, _)
      by_cases q : 0 ≤ x2
      · rw [if_pos q, if_pos q]
        rfl
      · rw [if_neg q, if_neg q]
        rfl
    | cons q l =>
      obtain ⟨j, b, D⟩ := q
      have L : z_lv (z_R rl rh v) k j b D := hlv _ List.mem_cons_self
      have hj : j ≤ k := hst.1
      have hd : z_des (j + 1) l := hst.2
      have hlen := z_des_len hd
      obtain ⟨a1, a2, a3⟩ := hsk
      have a1 : gt l.length = nI j := a1
      have a2 : gv l.length = nI D := a2
      have hlv' : ∀ q ∈ l, z_lv (z_R rl rh v) k q.1 q.2.1 q.2.2 := fun q h => hlv q (List.mem_cons_of_mem _ h)
      have hms' : (2 ^ (k - j + 1) - 1) + z_ms k l < fuel + 1 := hms
      have hp1 : 1 ≤ 2 ^ (k - j) := Nat.one_le_two_pow
      have hp2 : 2 ^ (k - j + 1) = 2 ^ (k - j) * 2 := Nat.pow_succ 2 (k - j)
      have hlst : z_lst (z_R rl rh v) k ((j, b, D) :: l) = z_cb (z_R rl rh v) k (k - j) j b D ++ z_lst (z_R rl rh v) k l := rfl
      rw [hlst, List.length_cons, zf_Q_look_13, if_neg (nI_nle (by omega) (by omega)), nI_pred, z_gd_n (show l.length < 32 by omega) (by decide), z_gd_n (show l.length < 32 by omega) (by decide), nI_clamp (by omega), a1, a2, zm_share hk hx hv hl hj L, z_b1_of]
      cases hV : z_void (z_R rl rh v) (k - j) j b with
      | true =>
        have hK : z_kind (z_R rl rh v) k j b = 0 := by unfold z_kind; rw [hV]; rfl
        rw [hK, if_neg (by decide), if_neg (by decide), if_neg (by decide), z_cb_void hV]
        exact ih l seen gt gv (by omega) hlv' (z_stp_tail hst) a3
      | false =>
        cases hF : z_full (z_R rl rh v) (k - j) j b with
        | true =>
          have hK : z_kind (z_R rl rh v) k j b = 1 := by unfold z_kind; rw [hV, hF]; rfl
          rw [hK, if_pos (by decide), zm_look_any hk (k - j) j z_FU D (by omega) (by unfold z_FU; omega), z_cb_full hF]
          show ∃ o gt' gv', (if nI seen = x2 then _ else _) = some (if nI seen = x2 then nI (D + z_any j (k - j)) else z_wk x2 (seen + 1) (z_lst (z_R rl rh v) k l), o, gt', gv')
          by_cases q : nI seen = x2
          · rw [if_pos q, if_pos q]
            exact ⟨_, _, _, rfl⟩
          · rw [if_neg q, if_neg q, show nI seen + (1 : Int32) = nI (seen + 1) from nI_1 seen]
            exact ih l (seen + 1) gt gv (by omega) hlv' (z_stp_tail hst) a3
        | false =>
          have hjk : j < k := by
            rcases Nat.lt_or_ge j k with z | z
            · exact z
            · rw [show k - j = 0 by omega] at hV hF
              rw [z_one_state hV] at hF
              cases hF
          obtain ⟨m, hm⟩ : ∃ m, k - j = m + 1 := ⟨k - j - 1, by omega⟩
          have hm2 : k - (j + 1) = m := by omega
          rw [hm] at hV hF hms' hp1 hp2 ⊢
          have hp3 : 2 ^ (m + 1) = 2 ^ m * 2 := Nat.pow_succ 2 m
          have hp4 : 1 ≤ 2 ^ m := Nat.one_le_two_pow
          cases hdp : z_dep (z_R rl rh v) k j b with
          | false =>
            have hK : z_kind (z_R rl rh v) k j b = 3 := by unfold z_kind; rw [hm, hV, hF, hdp, Bool.and_false]; rfl
            rw [hK, if_neg (by decide), if_pos (by decide), (z_giv j (by omega)).2, nI_add, show nI j + (1 : Int32) = nI (j + 1) from nI_1 j, zm_later (show l.length < 32 by omega), z_b3_of, z_cb_any hF hV hdp]
            have := ih ((j + 1, b, D + 2 * 4 ^ j) :: l) seen (upd gt l.length (nI (j + 1))) (upd gv l.length (nI (D + 2 * 4 ^ j))) (by
              show (2 ^ (k - (j + 1) + 1) - 1) + z_ms k l < fuel
              rw [hm2]
              omega) (fun q hq => by
              rcases List.mem_cons.mp hq with rfl | hq
              · exact z_lv_any hjk L hdp
              · exact hlv' q hq) ⟨by omega, z_des_le (by omega) hd⟩ ⟨pk_us, pk_us, z_stk_upd (Nat.le_refl _) a3⟩
            rw [List.length_cons] at this
            show ∃ o gt' gv', _ = some (z_wk x2 seen (z_cb (z_R rl rh v) k m (j + 1) b (D + 2 * 4 ^ j) ++ z_lst (z_R rl rh v) k l), o, gt', gv')
            have e : z_lst (z_R rl rh v) k ((j + 1, b, D + 2 * 4 ^ j) :: l) = z_cb (z_R rl rh v) k m (j + 1) b (D + 2 * 4 ^ j) ++ z_lst (z_R rl rh v) k l := by
              show z_cb (z_R rl rh v) k (k - (j + 1)) (j + 1) b (D + 2 * 4 ^ j) ++ _ = _
              rw [hm2]
            rw [e] at this
            exact this
          | true =>
            have hK : z_kind (z_R rl rh v) k j b = 2 := by unfold z_kind; rw [hm, hV, hF, hdp, decide_eq_true hjk]; rfl
            have L0 : z_lv (z_R rl rh v) k (j + 1) b D := by
              have := z_lv_bit L (c := 0) (by decide)
              rw [Nat.mul_zero, Nat.add_zero, Nat.zero_mul, Nat.add_zero] at this
              exact this
            have L1 : z_lv (z_R rl rh v) k (j + 1) (b + 2 ^ j) (D + 4 ^ j) := by
              have := z_lv_bit L (c := 1) (by decide)
              rw [Nat.mul_one, Nat.one_mul] at this
              exact this
            rw [hK, if_neg (by decide), if_neg (by decide), if_pos (by decide), (z_giv j (by omega)).1, nI_add, show nI j + (1 : Int32) = nI (j + 1) from nI_1 j, zm_later (show l.length < 32 by omega), z_b3_of, zm_later (show l.length + 1 < 32 by omega), z_b3_of, z_cb_dep hF hV hdp]
            have := ih ((j + 1, b, D) :: (j + 1, b + 2 ^ j, D + 4 ^ j) :: l) seen (upd (upd gt l.length (nI (j + 1))) (l.length + 1) (nI (j + 1))) (upd (upd gv l.length (nI (D + 4 ^ j))) (l.length + 1) (nI D)) (by
              show (2 ^ (k - (j + 1) + 1) - 1) + ((2 ^ (k - (j + 1) + 1) - 1) + z_ms k l) < fuel
              rw [hm2]
              omega) (fun q hq => by
              rcases List.mem_cons.mp hq with rfl | hq
              · exact L0
              · rcases List.mem_cons.mp hq with rfl | hq
                · exact L1
                · exact hlv' q hq) ⟨by omega, by show j + 1 < j + 1 + 1; omega, hd⟩ ⟨pk_us, pk_us, by rw [pk_un (by omega)]; exact pk_us, by rw [pk_un (by omega)]; exact pk_us, z_stk_upd (by omega) (z_stk_upd (Nat.le_refl _) a3)⟩
            rw [List.length_cons, List.length_cons] at this
            have e : z_lst (z_R rl rh v) k ((j + 1, b, D) :: (j + 1, b + 2 ^ j, D + 4 ^ j) :: l) = (z_cb (z_R rl rh v) k m (j + 1) b D ++ z_cb (z_R rl rh v) k m (j + 1) (b + 2 ^ j) (D + 4 ^ j)) ++ z_lst (z_R rl rh v) k l := by
              show z_cb (z_R rl rh v) k (k - (j + 1)) (j + 1) b D ++ (z_cb (z_R rl rh v) k (k - (j + 1)) (j + 1) (b + 2 ^ j) (D + 4 ^ j) ++ _) = _
              rw [hm2, List.append_assoc]
            rw [e] at this
            exact this
theorem z_wk_all (l : List Nat) : ∀ seen, seen + l.length < 2 ^ 31 → z_wk (-1) seen l = nI (seen + l.length) := by
  induction l with
  | nil =>
    intro seen _
    show (if (0 : Int32) ≤ -1 then (-1 : Int32) else nI seen) = _
    rw [if_neg (by decide)]
    rfl
  | cons c l ih =>
    intro seen h
    rw [List.length_cons] at h
    show (if nI seen = -1 then nI c else z_wk (-1) (seen + 1) l) = _
    rw [if_neg (z_nI_ne (by omega)), ih (seen + 1) (by omega), List.length_cons, show seen + 1 + l.length = seen + (l.length + 1) by omega]
theorem z_wk_at {i : Nat} (hi : i < 2 ^ 31) (l : List Nat) : ∀ seen, seen ≤ i → seen + l.length < 2 ^ 31 → z_wk (nI i) seen l = if i - seen < l.length then nI (l.getD (i - seen) 0) else -1 := by
  induction l with
  | nil =>
    intro seen h1 h2
    show (if 0 ≤ nI i then (-1 : Int32) else nI seen) = _
    rw [if_pos (nI_pos' hi), if_neg (show ¬ i - seen < ([] : List Nat).length from Nat.not_lt_zero _)]
  | cons c l ih =>
    intro seen h1 h2
    rw [List.length_cons] at h2
    show (if nI seen = nI i then nI c else z_wk (nI i) (seen + 1) l) = _
    by_cases q : seen = i
    · rw [q, if_pos rfl, Nat.sub_self, if_pos (by rw [List.length_cons]; omega)]
      rfl
    · rw [if_neg (fun z => q ((nI_eq (by omega) hi).mp z)), ih (seen + 1) (by omega) (by omega), List.length_cons]
      obtain ⟨d, hd⟩ : ∃ d, i - seen = d + 1 := ⟨i - seen - 1, by omega⟩
      rw [hd, show i - (seen + 1) = d by omega]
      by_cases w : d < l.length
      · rw [if_pos w, if_pos (by omega)]
        rfl
      · rw [if_neg w, if_neg (by omega)]
end
