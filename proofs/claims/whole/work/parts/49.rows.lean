/-! ===== the reference's scan, a row a character ===== -/
theorem z_fu {p : Nat} (h : p < 1000) : z_FU - p = (z_FU - (p + 1)) + 1 := by
  unfold z_FU
  omega
def zmm (c : Nat) (pa : Option (Int64 × Int64)) (M : List Nat) : List Nat := match pa with
  | none => M
  | some _ => c :: M
def zvv (pa : Option (Int64 × Int64)) (V : List (Int64 × Int64)) : List (Int64 × Int64) := match pa with
  | none => V
  | some a => a :: V
def z_pv (pa : Option (Int64 × Int64)) (v : (Int64 × Int64)) : (Int64 × Int64) := match pa with
  | none => v
  | some a => z_nd a v
def z_sv (pa : Option (Int64 × Int64)) (v : (Int64 × Int64)) : (Int64 × Int64) := match pa with
  | none => v
  | some a => z_rr a v
def zok (o a : Nat) (M : List Nat) (V : List (Int64 × Int64)) : Prop := o ≤ 12 ∧ M.length ≤ 3 * o + a ∧ V.length ≤ 2 * o + a ∧ M.count 33 + M.count 40 ≤ o ∧ ∀ x ∈ M, x < 1000
theorem zg_apply {m : Nat} {x1 o : Int32} {M : List Nat} {c : Nat} {vl vh : Nat → Int64} {mk : Nat → Int32} {a b : (Int64 × Int64)} {V : List (Int64 × Int64)} (hc : c = 38 ∨ c = 124) (hx : c = 38 ∨ x1 ≠ 38) (h : z_am mk (c :: M)) (hv : z_av vl vh (b :: a :: V)) (hl : M.length < 60) (hV : V.length < 60) (hM : ∀ x ∈ c :: M, x < 1000) :
    ∃ vl' vh', zf_Q_goesOn_20 (m + 1) x1 o (nI (c :: M).length) mk (nI (b :: a :: V).length) vl vh = zf_Q_goesOn_20 m x1 o (nI M.length) mk (nI (a :: V).length) vl' vh' ∧ z_av vl' vh' ((if c = 38 then z_nd a b else z_rr a b) :: V) := by
  obtain ⟨vl', vh', e, h2⟩ := zm_apply_op (o := o) hc h hv (by omega) (by omega)
  refine ⟨vl', vh', ?_, h2⟩
  have w1 : zf_Q_waits 38 (nI (c :: M).length) mk = some (if (c :: M).head? = some 38 then 1 else 0) := zm_waits h (by rw [List.length_cons]; omega) (c := 38) (by decide) hM
  have w2 : zf_Q_waits 124 (nI (c :: M).length) mk = some (if (c :: M).head? = some 124 then 1 else 0) := zm_waits h (by rw [List.length_cons]; omega) (c := 124) (by decide) hM
  rw [zf_Q_goesOn_20, w1, w2]
  unfold zf_Q_goesOn_44
  rcases hc with rfl | rfl
  · rw [if_pos (by rfl), z_b1_of, z_i1, e]
    rfl
  · rcases hx with hx | hx
    · exact absurd hx (by decide)
    · rw [if_neg (by simp), z_b1_of, z_i0, if_neg hx, if_pos (by rfl), z_b1_of, z_i1, e]
      rfl
theorem zg_stop {m : Nat} {x1 o va : Int32} {M : List Nat} {vl vh : Nat → Int64} {mk : Nat → Int32} (h38 : M.head? ≠ some 38) (hx : x1 = 38 ∨ M.head? ≠ some 124) (h : z_am mk M) (hl : M.length < 60) (hM : ∀ x ∈ M, x < 1000) :
    zf_Q_goesOn_20 (m + 1) x1 o (nI M.length) mk va vl vh = zf_Q_goesOn_51 x1 o (nI M.length) mk va vl vh := by
  have w1 : zf_Q_waits 38 (nI M.length) mk = some (if M.head? = some 38 then 1 else 0) := zm_waits h (by omega) (c := 38) (by decide) hM
  have w2 : zf_Q_waits 124 (nI M.length) mk = some (if M.head? = some 124 then 1 else 0) := zm_waits h (by omega) (c := 124) (by decide) hM
  rw [zf_Q_goesOn_20, w1, w2, if_neg h38, z_b1_of, z_i0]
  by_cases q : x1 = 38
  · rw [if_pos q]
  · rcases hx with hx | hx
    · exact absurd hx q
    · rw [if_neg q, if_neg hx, z_b1_of, z_i0]
theorem ze_apply {m : Nat} {x1 o ru : Int32} {lo hi : Nat → Int64} {M : List Nat} {c : Nat} {vl vh : Nat → Int64} {mk : Nat → Int32} {a b : (Int64 × Int64)} {V : List (Int64 × Int64)} (hc : c = 38 ∨ c = 124) (h : z_am mk (c :: M)) (hv : z_av vl vh (b :: a :: V)) (hl : M.length < 60) (hV : V.length < 60) (hM : ∀ x ∈ c :: M, x < 1000) :
    ∃ vl' vh', zf_Q_ends_0 (m + 1) x1 lo hi o (nI (c :: M).length) mk (nI (b :: a :: V).length) vl vh ru = zf_Q_ends_0 m x1 lo hi o (nI M.length) mk (nI (a :: V).length) vl' vh' ru ∧ z_av vl' vh' ((if c = 38 then z_nd a b else z_rr a b) :: V) := by
  obtain ⟨vl', vh', e, h2⟩ := zm_apply_op (o := o) hc h hv (by omega) (by omega)
  refine ⟨vl', vh', ?_, h2⟩
  have w1 : zf_Q_waits 38 (nI (c :: M).length) mk = some (if (c :: M).head? = some 38 then 1 else 0) := zm_waits h (by rw [List.length_cons]; omega) (c := 38) (by decide) hM
  have w2 : zf_Q_waits 124 (nI (c :: M).length) mk = some (if (c :: M).head? = some 124 then 1 else 0) := zm_waits h (by rw [List.length_cons]; omega) (c := 124) (by decide) hM
  rw [zf_Q_ends_0, w1, w2]
  unfold zf_Q_ends_18
  rcases hc with rfl | rfl
  · rw [if_pos (by rfl), z_b1_of, z_i1, e]
    rfl
  · rw [if_neg (by simp), z_b1_of, z_i0, if_pos (by rfl), z_b1_of, z_i1, e]
    rfl
theorem ze_stop {m : Nat} {x1 o va ru : Int32} {lo hi : Nat → Int64} {M : List Nat} {vl vh : Nat → Int64} {mk : Nat → Int32} (h : z_am mk (40 :: M)) (hl : M.length < 60) (hM : ∀ x ∈ 40 :: M, x < 1000) :
    zf_Q_ends_0 (m + 1) x1 lo hi o (nI (40 :: M).length) mk va vl vh ru = some (0, lo, hi, o, nI (40 :: M).length, va, vl, vh, ru) := by
  have w1 : zf_Q_waits 38 (nI (40 :: M).length) mk = some (if (40 :: M).head? = some 38 then 1 else 0) := zm_waits h (by rw [List.length_cons]; omega) (c := 38) (by decide) hM
  have w2 : zf_Q_waits 124 (nI (40 :: M).length) mk = some (if (40 :: M).head? = some 124 then 1 else 0) := zm_waits h (by rw [List.length_cons]; omega) (c := 124) (by decide) hM
  rw [zf_Q_ends_0, w1, w2, if_neg (by simp), z_b1_of, z_i0, if_neg (by simp), z_b1_of, z_i0, if_neg (nI_nle (by rw [List.length_cons]; omega) (by rw [List.length_cons]; omega)), z_gb0]
def z_top (M : List Nat) : Prop := M = [] ∨ ∃ M', M = 40 :: M'
theorem z_top_ne {M : List Nat} (h : z_top M) : M.head? ≠ some 38 ∧ M.head? ≠ some 124 ∧ M.head? ≠ some 33 := by
  rcases h with rfl | ⟨M', rfl⟩
  · exact ⟨by simp, by simp, by simp⟩
  · exact ⟨by simp, by simp, by simp⟩
theorem zmm_ok {c : Nat} {pa : Option (Int64 × Int64)} {M : List Nat} (hc : c < 1000) (h : ∀ x ∈ M, x < 1000) : ∀ x ∈ zmm c pa M, x < 1000 := by
  cases pa with
  | none => exact h
  | some a =>
    intro x hx
    rcases List.mem_cons.mp hx with q | q
    · omega
    · exact h x q
/-- all that waits inside -/
theorem zg_red {m : Nat} {x1 o : Int32} {M : List Nat} {vl vh : Nat → Int64} {mk : Nat → Int32} {so pa : Option (Int64 × Int64)} {v : (Int64 × Int64)} {V : List (Int64 × Int64)} (hx : x1 ≠ 38) (ht : z_top M) (h : z_am mk (zmm 38 pa (zmm 124 so M))) (hv : z_av vl vh (v :: zvv pa (zvv so V))) (hl : M.length < 50) (hV : V.length < 50) (hM : ∀ x ∈ M, x < 1000) :
    ∃ vl' vh', zf_Q_goesOn_20 (m + 3) x1 o (nI (zmm 38 pa (zmm 124 so M)).length) mk (nI (v :: zvv pa (zvv so V)).length) vl vh = zf_Q_goesOn_51 x1 o (nI M.length) mk (nI (z_sv so (z_pv pa v) :: V).length) vl' vh' ∧ z_av vl' vh' (z_sv so (z_pv pa v) :: V) ∧ z_am mk M := by
  obtain ⟨t1, t2, _⟩ := z_top_ne ht
  have hM2 : ∀ x ∈ zmm 124 so M, x < 1000 := zmm_ok (by decide) hM
  have hM3 : ∀ x ∈ zmm 38 pa (zmm 124 so M), x < 1000 := zmm_ok (by decide) hM2
  cases pa with
  | none =>
    cases so with
    | none => exact ⟨vl, vh, zg_stop t1 (Or.inr t2) h (by show M.length < 60; omega) hM, hv, h⟩
    | some a =>
      obtain ⟨vl1, vh1, e1, h1⟩ := zg_apply (m := m + 2) (x1 := x1) (o := o) (c := 124) (Or.inr rfl) (Or.inr hx) h hv (by omega) (by omega) hM2
      exact ⟨vl1, vh1, e1.trans (zg_stop t1 (Or.inr t2) h.2 (by omega) hM), h1, h.2⟩
  | some b =>
    cases so with
    | none =>
      obtain ⟨vl1, vh1, e1, h1⟩ := zg_apply (m := m + 2) (x1 := x1) (o := o) (c := 38) (Or.inl rfl) (Or.inl rfl) h hv (by show M.length < 60; omega) (by show V.length < 60; omega) hM3
      exact ⟨vl1, vh1, e1.trans (zg_stop t1 (Or.inr t2) h.2 (by show M.length < 60; omega) hM), h1, h.2⟩
    | some a =>
      obtain ⟨vl1, vh1, e1, h1⟩ := zg_apply (m := m + 2) (x1 := x1) (o := o) (c := 38) (Or.inl rfl) (Or.inl rfl) h hv (by show M.length + 1 < 60; omega) (by show V.length + 1 < 60; omega) hM3
      obtain ⟨vl2, vh2, e2, h2⟩ := zg_apply (m := m + 1) (x1 := x1) (o := o) (c := 124) (Or.inr rfl) (Or.inr hx) h.2 h1 (by omega) (by omega) hM2
      exact ⟨vl2, vh2, e1.trans (e2.trans (zg_stop t1 (Or.inr t2) h.2.2 (by omega) hM)), h2, h.2.2⟩
theorem zg_and {m : Nat} {o : Int32} {M : List Nat} {vl vh : Nat → Int64} {mk : Nat → Int32} {pa : Option (Int64 × Int64)} {v : (Int64 × Int64)} {V : List (Int64 × Int64)} (ht : M.head? ≠ some 38) (h : z_am mk (zmm 38 pa M)) (hv : z_av vl vh (v :: zvv pa V)) (hl : M.length < 50) (hV : V.length < 50) (hM : ∀ x ∈ M, x < 1000) :
    ∃ vl' vh', zf_Q_goesOn_20 (m + 3) 38 o (nI (zmm 38 pa M).length) mk (nI (v :: zvv pa V).length) vl vh = zf_Q_goesOn_51 38 o (nI M.length) mk (nI (z_pv pa v :: V).length) vl' vh' ∧ z_av vl' vh' (z_pv pa v :: V) ∧ z_am mk M := by
  have hM3 : ∀ x ∈ zmm 38 pa M, x < 1000 := zmm_ok (by decide) hM
  cases pa with
  | none => exact ⟨vl, vh, zg_stop ht (Or.inl rfl) h (by show M.length < 60; omega) hM, hv, h⟩
  | some b =>
    obtain ⟨vl1, vh1, e1, h1⟩ := zg_apply (m := m + 2) (x1 := 38) (o := o) (c := 38) (Or.inl rfl) (Or.inl rfl) h hv (by omega) (by omega) hM3
    exact ⟨vl1, vh1, e1.trans (zg_stop ht (Or.inl rfl) h.2 (by omega) hM), h1, h.2⟩
theorem ze_red {m : Nat} {x1 o ru : Int32} {lo hi : Nat → Int64} {M : List Nat} {vl vh : Nat → Int64} {mk : Nat → Int32} {so pa : Option (Int64 × Int64)} {v : (Int64 × Int64)} {V : List (Int64 × Int64)} (h : z_am mk (zmm 38 pa (zmm 124 so M))) (hv : z_av vl vh (v :: zvv pa (zvv so V))) (hl : M.length < 50) (hV : V.length < 50) (hM : ∀ x ∈ M, x < 1000) :
    ∃ m' vl' vh', zf_Q_ends_0 (m + 3) x1 lo hi o (nI (zmm 38 pa (zmm 124 so M)).length) mk (nI (v :: zvv pa (zvv so V)).length) vl vh ru = zf_Q_ends_0 (m' + 1) x1 lo hi o (nI M.length) mk (nI (z_sv so (z_pv pa v) :: V).length) vl' vh' ru ∧ z_av vl' vh' (z_sv so (z_pv pa v) :: V) ∧ z_am mk M := by
  have hM2 : ∀ x ∈ zmm 124 so M, x < 1000 := zmm_ok (by decide) hM
  have hM3 : ∀ x ∈ zmm 38 pa (zmm 124 so M), x < 1000 := zmm_ok (by decide) hM2
  cases pa with
  | none =>
    cases so with
    | none => exact ⟨m + 2, vl, vh, rfl, hv, h⟩
    | some a =>
      obtain ⟨vl1, vh1, e1, h1⟩ := ze_apply (m := m + 2) (x1 := x1) (o := o) (ru := ru) (lo := lo) (hi := hi) (c := 124) (Or.inr rfl) h hv (by omega) (by omega) hM2
      exact ⟨m + 1, vl1, vh1, e1, h1, h.2⟩
  | some b =>
    cases so with
    | none =>
      obtain ⟨vl1, vh1, e1, h1⟩ := ze_apply (m := m + 2) (x1 := x1) (o := o) (ru := ru) (lo := lo) (hi := hi) (c := 38) (Or.inl rfl) h hv (by show M.length < 60; omega) (by show V.length < 60; omega) hM3
      exact ⟨m + 1, vl1, vh1, e1, h1, h.2⟩
    | some a =>
      obtain ⟨vl1, vh1, e1, h1⟩ := ze_apply (m := m + 2) (x1 := x1) (o := o) (ru := ru) (lo := lo) (hi := hi) (c := 38) (Or.inl rfl) h hv (by show M.length + 1 < 60; omega) (by show V.length + 1 < 60; omega) hM3
      obtain ⟨vl2, vh2, e2, h2⟩ := ze_apply (m := m + 1) (x1 := x1) (o := o) (ru := ru) (lo := lo) (hi := hi) (c := 124) (Or.inr rfl) h.2 h1 (by omega) (by omega) hM2
      exact ⟨m, vl2, vh2, e1.trans e2, h2, h.2.2⟩
