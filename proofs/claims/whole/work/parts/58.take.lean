/-! ===== work and take ===== -/
def z_as (st : Nat → Int64) : List Int64 → Prop
  | [] => True
  | v :: l => st l.length = v ∧ z_as st l
theorem z_as_upd {st : Nat → Int64} {m : Nat} {x : Int64} : ∀ {l : List Int64}, l.length ≤ m → z_as st l → z_as (vp_updL st m x) l := by
  intro l
  induction l with
  | nil => intro _ _; trivial
  | cons c l ih =>
    intro h hs
    rw [List.length_cons] at h
    exact ⟨by rw [pk_uLn (by omega)]; exact hs.1, ih (by omega) hs.2⟩
theorem z_as_push {st : Nat → Int64} {l : List Int64} {m : Nat} {x : Int64} (hm : m = l.length) (h : z_as st l) : z_as (vp_updL st m x) (x :: l) := by
  subst hm
  exact ⟨pk_uLs, z_as_upd (Nat.le_refl _) h⟩
theorem z_addm1 (m : Nat) : nI (m + 1) + (-1 : Int32) = nI m := by
  have := nI_pred m
  rw [Int32.sub_eq_add_neg] at this
  exact this
theorem zm_work_loop {π : (Int64 × Int64) → Int64} (hng : ∀ v, π (z_ng v) = π v ^^^ (-1)) (hnd : ∀ a b, π (z_nd a b) = π a &&& π b) (hrr : ∀ a b, π (z_rr a b) = π a ||| π b) {val : Nat → (Int64 × Int64)} {last : Int64} {nm code : Nat → Int32} {cnt : Int32} : ∀ ks a s st s' fuel, zrd code a ks → zev val ks s = some s' → z_as st (s.map π) → s.length + ks.length ≤ 240 → a + ks.length ≤ 240 → ks.length < fuel →
    (∀ c ∈ ks, c = 33 ∨ c = 38 ∨ c = 124 ∨ (z_lf c ∧ zf_R_leafBits (nI c) last nm cnt = some (π (val c)))) → ∃ st', zf_R_work_6 fuel (nI (a + ks.length)) last (nI s.length) (nI a) nm cnt code st = some (st' 0, st') ∧ z_as st' (s'.map π) := by
  intro ks
  induction ks with
  | nil =>
    intro a s st s' fuel h1 h2 h3 h4 h5 h6 h7
    obtain ⟨fuel, rfl⟩ : ∃ f', fuel = f' + 1 := ⟨fuel - 1, by omega⟩
    obtain rfl : s = s' := Option.some.inj h2
    refine ⟨st, ?_, h3⟩
    rw [zf_R_work_6, if_pos (nI_le (by rw [List.length_nil]; omega) (by omega)), show (0 : Int32) = nI 0 from rfl, z_gd_n (j := 0) (by decide) (by decide), nI_clamp (n := 0) (by decide)]
  | cons c ks ih =>
    intro a s st s' fuel h1 h2 h3 h4 h5 h6 h7
    obtain ⟨fuel, rfl⟩ : ∃ f', fuel = f' + 1 := ⟨fuel - 1, by omega⟩
    rw [List.length_cons] at h4 h5 h6
    have hca : code a = nI c := h1.1
    have h2' : (zst val c s).bind (zev val ks) = some s' := h2
    have h7' : ∀ x ∈ ks, x = 33 ∨ x = 38 ∨ x = 124 ∨ (z_lf x ∧ zf_R_leafBits (nI x) last nm cnt = some (π (val x))) := fun x hx => h7 x (List.mem_cons_of_mem _ hx)
    have elen : a + (c :: ks).length = (a + 1) + ks.length := by
      rw [List.length_cons]
      omega
    rw [elen, zf_R_work_6, if_neg (fun z => absurd ((nI_leI (by omega) (by omega)).mp z) (by omega)), z_gd_n (by omega) (by decide), nI_clamp (n := a) (by omega), hca, show nI a + (1 : Int32) = nI (a + 1) from nI_1 a]
    rcases h7 c List.mem_cons_self with rfl | rfl | rfl | ⟨q1, q2⟩
    · cases s with
      | nil => exact absurd h2' (by intro z; cases z)
      | cons v t =>
        have h2'' : zev val ks (z_ng v :: t) = some s' := h2'
        rw [List.length_cons] at h4
        have e1 : ¬ (nI (v :: t).length < (1 : Int32)) := fun z => absurd ((nI_ltI (a := (v :: t).length) (b := 1) (by rw [List.length_cons]; omega) (by decide)).mp z) (by rw [List.length_cons]; omega)
        rw [if_pos (show nI 33 = (33 : Int32) by decide), if_neg e1, List.length_cons, z_sub1, z_gd_n (by omega) (by decide), z_gd_n (by omega) (by decide), nI_clamp (n := t.length) (by omega)]
        have hv : st t.length = π v := by
          have := h3.1
          rw [List.length_map] at this
          exact this
        rw [hv, ← hng]
        exact ih (a + 1) (z_ng v :: t) _ s' fuel h1.2 h2'' (z_as_push (by rw [List.length_map]) h3.2) (by rw [List.length_cons]; omega) (by omega) (by omega) h7'
    · unfold zf_R_work_59
      rw [if_neg (show ¬ (nI 38 = (33 : Int32)) by decide), if_pos (show nI 38 = (38 : Int32) by decide)]
      match s, h2', h3, h4 with
      | [], h2', _, _ => exact absurd h2' (by intro z; cases z)
      | [_], h2', _, _ => exact absurd h2' (by intro z; cases z)
      | b :: v :: t, h2', h3, h4 =>
        have h2'' : zev val ks (z_nd v b :: t) = some s' := h2'
        rw [List.length_cons, List.length_cons] at h4
        have e1 : ¬ (nI (b :: v :: t).length < (2 : Int32)) := fun z => absurd ((nI_ltI (a := (b :: v :: t).length) (b := 2) (by rw [List.length_cons, List.length_cons]; omega) (by decide)).mp z) (by rw [List.length_cons, List.length_cons]; omega)
        rw [if_neg e1, List.length_cons, List.length_cons, z_addm1, z_sub1, z_gd_n (j := t.length) (by omega) (by decide), z_gd_n (j := t.length + 1) (by omega) (by decide), z_gd_n (j := t.length) (by omega) (by decide), nI_clamp (n := t.length) (by omega), nI_clamp (n := t.length + 1) (by omega)]
        have hb : st (t.length + 1) = π b := by
          have := h3.1
          rw [List.length_map, List.length_cons] at this
          exact this
        have hv : st t.length = π v := by
          have := h3.2.1
          rw [List.length_map] at this
          exact this
        rw [hv, hb, ← hnd, show nI a + (1 : Int32) = nI (a + 1) from nI_1 a]
        exact ih (a + 1) (z_nd v b :: t) _ s' fuel h1.2 h2'' (z_as_push (by rw [List.length_map]) h3.2.2) (by rw [List.length_cons]; omega) (by omega) (by omega) h7'
    · unfold zf_R_work_59 zf_R_work_97
      rw [if_neg (show ¬ (nI 124 = (33 : Int32)) by decide), if_neg (show ¬ (nI 124 = (38 : Int32)) by decide), if_pos (show nI 124 = (124 : Int32) by decide)]
      match s, h2', h3, h4 with
      | [], h2', _, _ => exact absurd h2' (by intro z; cases z)
      | [_], h2', _, _ => exact absurd h2' (by intro z; cases z)
      | b :: v :: t, h2', h3, h4 =>
        have h2'' : zev val ks (z_rr v b :: t) = some s' := h2'
        rw [List.length_cons, List.length_cons] at h4
        have e1 : ¬ (nI (b :: v :: t).length < (2 : Int32)) := fun z => absurd ((nI_ltI (a := (b :: v :: t).length) (b := 2) (by rw [List.length_cons, List.length_cons]; omega) (by decide)).mp z) (by rw [List.length_cons, List.length_cons]; omega)
        rw [if_neg e1, List.length_cons, List.length_cons, z_addm1, z_sub1, z_gd_n (j := t.length) (by omega) (by decide), z_gd_n (j := t.length + 1) (by omega) (by decide), z_gd_n (j := t.length) (by omega) (by decide), nI_clamp (n := t.length) (by omega), nI_clamp (n := t.length + 1) (by omega)]
        have hb : st (t.length + 1) = π b := by
          have := h3.1
          rw [List.length_map, List.length_cons] at this
          exact this
        have hv : st t.length = π v := by
          have := h3.2.1
          rw [List.length_map] at this
          exact this
        rw [hv, hb, ← hrr, show nI a + (1 : Int32) = nI (a + 1) from nI_1 a]
        exact ih (a + 1) (z_rr v b :: t) _ s' fuel h1.2 h2'' (z_as_push (by rw [List.length_map]) h3.2.2) (by rw [List.length_cons]; omega) (by omega) (by omega) h7'
    · have hl := z_lf_lt q1
      have h2'' : zev val ks (val c :: s) = some s' := by
        unfold zst at h2'
        rw [if_neg (by omega), if_neg (by omega), if_neg (by omega)] at h2'
        exact h2'
      have e33 : ¬ (nI c = (33 : Int32)) := z_nek 33 (by omega) (by decide) (by omega)
      have e38 : ¬ (nI c = (38 : Int32)) := z_nek 38 (by omega) (by decide) (by omega)
      have e124 : ¬ (nI c = (124 : Int32)) := z_nek 124 (by omega) (by decide) (by omega)
      have e240 : ¬ ((240 : Int32) ≤ nI s.length) := fun z => absurd ((nI_leI (a := 240) (b := s.length) (by decide) (by omega)).mp z) (by omega)
      unfold zf_R_work_59 zf_R_work_97 zf_R_work_135
      rw [if_neg e33, if_neg e38, if_neg e124, if_neg e240, q2, z_b1_of, z_gd_n (j := s.length) (by omega) (by decide), nI_clamp (n := s.length) (by omega), show nI a + (1 : Int32) = nI (a + 1) from nI_1 a, show nI s.length + (1 : Int32) = nI (val c :: s).length from nI_1 _]
      exact ih (a + 1) (val c :: s) _ s' fuel h1.2 h2'' (z_as_push (by rw [List.length_map]) h3) (by rw [List.length_cons]; omega) (by omega) (by omega) h7'
theorem z_find_cases {f : Nat → Int32} {x : Int32} : ∀ m i, z_find f x m i = -1 ∨ ∃ t, i ≤ t ∧ t < i + m ∧ z_find f x m i = nI t := by
  intro m
  induction m with
  | zero => intro i; exact Or.inl rfl
  | succ m ih =>
    intro i
    unfold z_find
    split
    · exact Or.inr ⟨i, by omega, by omega, rfl⟩
    · rcases ih (i + 1) with q | ⟨t, q1, q2, q3⟩
      · exact Or.inl q
      · exact Or.inr ⟨t, by omega, by omega, q3⟩
theorem zm_leafBits {nm : Nat → Int32} {j c : Nat} (hj : j ≤ 7) (hc : z_lf c) (h : z_isn c = true → zkn nm j c = true) : zf_R_leafBits (nI c) 0 nm (nI j) = some (z_vl j nm c).1 ∧ zf_R_leafBits (nI c) (-1) nm (nI j) = some (z_vl j nm c).2 := by
  have hl := z_lf_lt hc
  unfold zf_R_leafBits zf_R_leafBits_55
  rcases hc with q | q | q
  · have hq := z_isn_t q
    have e48 : ¬ (nI c = (48 : Int32)) := z_nek 48 (by omega) (by decide) (by omega)
    have e49 : ¬ (nI c = (49 : Int32)) := z_nek 49 (by omega) (by decide) (by omega)
    have hk := h q
    unfold zkn at hk
    have hk' := bne_iff_ne.mp hk
    have ev : z_vl j nm c = z_gv (z_find nm (nI c) j 0) := by
      unfold z_vl
      rw [if_neg (by omega), if_pos q]
    rcases z_find_cases (f := nm) (x := nI c) j 0 with z | ⟨t, z1, z2, z3⟩
    · exact absurd z hk'
    · have e6 : ((6 : Int32) ≤ nI t) ↔ 6 ≤ t := nI_leI (a := 6) (by decide) (by omega)
      rw [ev, zm_indexOf nm _ (k := j) (N := 7) hj (by decide), z_b1_of, z_b1_of, z3, z_gv_nI t (by omega), if_neg e48, if_neg e49, if_neg e48, if_neg e49, if_neg (nI_pos (by omega)), if_neg (nI_pos (by omega))]
      by_cases r : 6 ≤ t
      · rw [if_pos (e6.mpr r), if_pos (e6.mpr r), if_neg (by omega)]
        exact ⟨rfl, rfl⟩
      · rw [if_neg (fun z => r (e6.mp z)), if_neg (fun z => r (e6.mp z)), z_gd_n (by omega) (by decide), nI_clamp (by omega), if_pos (by omega)]
        exact ⟨rfl, rfl⟩
  · subst q
    exact ⟨rfl, rfl⟩
  · subst q
    exact ⟨rfl, rfl⟩
theorem zm_take_loop {nm code en fu : Nat → Int32} {j cl : Nat} {wf : Nat → (Nat → (Int64 × Int64)) → (Int64 × Int64)} (hj : j ≤ 7) (hcl : cl ≤ 240) (hr : ∀ g, g < j → (∃ c, z_isn c = true ∧ nm g = nI c) ∧ zRule code en fu cl g (wf g)) (hs : ∀ c, c < 26 → fu c ≠ 0 → zkn nm j (97 + c) = true) :
    ∀ m g fuel R_names R_fixed R_low R_high stack, g + m = j → m < fuel → ∃ N' F' L' H' S', zf_R_take_12 fuel (if g = 0 then 0 else en (g - 1)) (nI g) nm (nI j) code en (nI j) R_names R_fixed R_low R_high stack = some (nI j, N', F', L', H', S') ∧ (∀ i, i < g → N' i = R_names i ∧ F' i = R_fixed i ∧ L' i = R_low i ∧ H' i = R_high i) ∧ (∀ i, g ≤ i → i < j → N' i = nm i ∧ F' i = 2 ∧ L' i = (wf i (z_vl j nm)).1 ∧ H' i = (wf i (z_vl j nm)).2) := by
  intro m
  induction m with
  | zero =>
    intro g fuel R_names R_fixed R_low R_high stack hg hf
    obtain ⟨fuel, rfl⟩ : ∃ f', fuel = f' + 1 := ⟨fuel - 1, by omega⟩
    refine ⟨R_names, R_fixed, R_low, R_high, stack, ?_, fun i _ => ⟨rfl, rfl, rfl, rfl⟩, fun i h1 h2 => absurd h1 (by omega)⟩
    rw [zf_R_take_12, if_pos (nI_le (by omega) (by omega))]
  | succ m ih =>
    intro g fuel R_names R_fixed R_low R_high stack hg hf
    obtain ⟨fuel, rfl⟩ : ∃ f', fuel = f' + 1 := ⟨fuel - 1, by omega⟩
    obtain ⟨⟨c, c1, c2⟩, a, ks, r1, r2, r3, r4, r5, r6⟩ := hr g (by omega)
    have hc := z_isn_t c1
    have hleaf : ∀ x ∈ ks, x = 33 ∨ x = 38 ∨ x = 124 ∨ (z_lf x ∧ zf_R_leafBits (nI x) 0 nm (nI j) = some (z_vl j nm x).1 ∧ zf_R_leafBits (nI x) (-1) nm (nI j) = some (z_vl j nm x).2) := by
      intro x hx
      rcases r6 x hx with z | z | z | ⟨z1, z2⟩
      · exact Or.inl z
      · exact Or.inr (Or.inl z)
      · exact Or.inr (Or.inr (Or.inl z))
      · refine Or.inr (Or.inr (Or.inr ⟨z1, zm_leafBits hj z1 (fun y => ?_)⟩))
        have hy := z_isn_t y
        have := hs (x - 97) (by omega) (z2 y)
        rw [show 97 + (x - 97) = x by omega] at this
        exact this
    obtain ⟨s1, e1, q1⟩ := zm_work_loop (π := Prod.fst) (fun _ => rfl) (fun _ _ => rfl) (fun _ _ => rfl) (last := 0) (nm := nm) (cnt := nI j) (code := code) ks a [] stack [wf g (z_vl j nm)] z_FU r4 (r5 _ _) trivial (by rw [List.length_nil]; omega) (by omega) (by unfold z_FU; omega) (fun x hx => by
      rcases hleaf x hx with z | z | z | z
      · exact Or.inl z
      · exact Or.inr (Or.inl z)
      · exact Or.inr (Or.inr (Or.inl z))
      · exact Or.inr (Or.inr (Or.inr ⟨z.1, z.2.1⟩)))
    obtain ⟨s2, e2, q2⟩ := zm_work_loop (π := Prod.snd) (fun _ => rfl) (fun _ _ => rfl) (fun _ _ => rfl) (last := -1) (nm := nm) (cnt := nI j) (code := code) ks a [] s1 [wf g (z_vl j nm)] z_FU r4 (r5 _ _) trivial (by rw [List.length_nil]; omega) (by omega) (by unfold z_FU; omega) (fun x hx => by
      rcases hleaf x hx with z | z | z | z
      · exact Or.inl z
      · exact Or.inr (Or.inl z)
      · exact Or.inr (Or.inr (Or.inl z))
      · exact Or.inr (Or.inr (Or.inr ⟨z.1, z.2.2⟩)))
    have f1 : s1 0 = (wf g (z_vl j nm)).1 := q1.1
    have f2 : s2 0 = (wf g (z_vl j nm)).2 := q2.1
    obtain ⟨N', F', L', H', S', e3, h3, h4⟩ := ih (g + 1) fuel (upd R_names g (nI c)) (upd R_fixed g 2) (vp_updL R_low g (s1 0)) (vp_updL R_high g (s2 0)) s2 (by omega) (by omega)
    refine ⟨N', F', L', H', S', ?_, ?_, ?_⟩
    · rw [if_neg (by omega), show g + 1 - 1 = g from rfl] at e3
      unfold zf_R_take_12 zf_R_work
      rw [if_neg (nI_ge (by omega) (by omega)), r1, nI_clamp (n := g) (by omega), r2, c2, z_nar (by omega), show nI g + (1 : Int32) = nI (g + 1) from nI_1 g]
      simp only [z_gd_n (show g < 7 by omega) (show 7 < 2 ^ 31 by decide)]
      have e1' : zf_R_work_6 z_FU (nI (a + ks.length)) 0 0 (nI a) nm (nI j) code stack = some (s1 0, s1) := e1
      have e2' : zf_R_work_6 z_FU (nI (a + ks.length)) (-1) 0 (nI a) nm (nI j) code s1 = some (s2 0, s2) := e2
      rw [e1', z_b2_of, e2', z_b2_of, ← r2]
      exact e3
    · intro i hi0
      obtain ⟨y1, y2, y3, y4⟩ := h3 i (by omega)
      rw [y1, y2, y3, y4, pk_un (by omega), pk_un (by omega), pk_uLn (by omega), pk_uLn (by omega)]
      exact ⟨rfl, rfl, rfl, rfl⟩
    · intro i hi1 hi2
      by_cases z : i = g
      · subst z
        obtain ⟨y1, y2, y3, y4⟩ := h3 i (by omega)
        rw [y1, y2, y3, y4, pk_us, pk_us, pk_uLs, pk_uLs, f1, f2, c2]
        exact ⟨rfl, rfl, rfl, rfl⟩
      · exact h4 i (by omega) hi2
