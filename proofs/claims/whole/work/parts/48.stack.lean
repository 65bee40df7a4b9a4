/-! ===== load: the reference's two stacks as lists, the top first ===== -/
def z_am (mk : Nat → Int32) : List Nat → Prop
  | [] => True
  | c :: l => mk l.length = nI c ∧ z_am mk l
def z_av (vl vh : Nat → Int64) : List (Int64 × Int64) → Prop
  | [] => True
  | v :: l => vl l.length = v.1 ∧ vh l.length = v.2 ∧ z_av vl vh l
theorem z_am_upd {mk : Nat → Int32} {m : Nat} {x : Int32} : ∀ {l : List Nat}, l.length ≤ m → z_am mk l → z_am (upd mk m x) l := by
  intro l
  induction l with
  | nil => intro _ _; trivial
  | cons c l ih =>
    intro h hs
    rw [List.length_cons] at h
    exact ⟨by rw [pk_un (by omega)]; exact hs.1, ih (by omega) hs.2⟩
theorem z_am_push {mk : Nat → Int32} {l : List Nat} (c : Nat) (h : z_am mk l) : z_am (upd mk l.length (nI c)) (c :: l) := ⟨pk_us, z_am_upd (Nat.le_refl _) h⟩
theorem z_av_upd {vl vh : Nat → Int64} {m : Nat} {x y : Int64} : ∀ {l : List (Int64 × Int64)}, l.length ≤ m → z_av vl vh l → z_av (vp_updL vl m x) (vp_updL vh m y) l := by
  intro l
  induction l with
  | nil => intro _ _; trivial
  | cons c l ih =>
    intro h hs
    rw [List.length_cons] at h
    exact ⟨by rw [pk_uLn (by omega)]; exact hs.1, by rw [pk_uLn (by omega)]; exact hs.2.1, ih (by omega) hs.2.2⟩
theorem z_av_push {vl vh : Nat → Int64} {l : List (Int64 × Int64)} (v : Int64 × Int64) (h : z_av vl vh l) : z_av (vp_updL vl l.length v.1) (vp_updL vh l.length v.2) (v :: l) := ⟨pk_uLs, pk_uLs, z_av_upd (Nat.le_refl _) h⟩
theorem z_nek {c : Nat} (k : Nat) (hc : c < 1000) (hk : k < 1000) (h : c ≠ k) : ¬ (nI c = nI k) := fun z => h ((nI_eq (by omega) (by omega)).mp z)
theorem z_sub1 (m : Nat) : nI (m + 1) - (1 : Int32) = nI m := nI_pred m
theorem zm_waits {mk : Nat → Int32} {M : List Nat} (h : z_am mk M) (hl : M.length ≤ 64) {c : Nat} (hc : c < 1000) (hM : ∀ x ∈ M, x < 1000) : zf_Q_waits (nI c) (nI M.length) mk = some (if M.head? = some c then 1 else 0) := by
  unfold zf_Q_waits
  cases M with
  | nil => rfl
  | cons x l =>
    rw [List.length_cons] at hl ⊢
    have hx := hM x List.mem_cons_self
    rw [if_neg (nI_nle (by omega) (by omega)), z_sub1, z_gd_n (by omega) (by decide), nI_clamp (by omega), h.1, List.head?_cons]
    by_cases q : x = c
    · rw [if_pos (by rw [q]), if_pos (by rw [q]), z_gb1]
    · rw [if_neg (fun z => q ((nI_eq (by omega) (by omega)).mp z)), if_neg (fun z => q (Option.some.inj z)), z_gb0]
/-- ! -/
def z_ng (v : Int64 × Int64) : Int64 × Int64 := (v.1 ^^^ (-1), v.2 ^^^ (-1))
def z_nd (a b : Int64 × Int64) : Int64 × Int64 := (a.1 &&& b.1, a.2 &&& b.2)
def z_rr (a b : Int64 × Int64) : Int64 × Int64 := (a.1 ||| b.1, a.2 ||| b.2)
theorem zm_apply_ng {mk : Nat → Int32} {M : List Nat} {vl vh : Nat → Int64} {v : Int64 × Int64} {V : List (Int64 × Int64)} {o : Nat} (h : z_am mk (33 :: M)) (hv : z_av vl vh (v :: V)) (hl : M.length < 64) (hV : V.length < 64) :
    ∃ vl' vh', zf_Q_apply (nI (o + 1)) (nI (33 :: M).length) mk (nI (v :: V).length) vl vh = some (nI o, nI M.length, nI (v :: V).length, vl', vh') ∧ z_av vl' vh' (z_ng v :: V) := by
  have hm : mk M.length = 33 := h.1
  refine ⟨_, _, ?_, z_av_push (z_ng v) hv.2.2⟩
  unfold zf_Q_apply
  rw [List.length_cons, List.length_cons, z_sub1, z_sub1, z_sub1, z_gd_n hl (by decide), nI_clamp (n := M.length) (by omega), hm, if_pos rfl, nI_clamp (n := V.length) (by omega)]
  simp only [z_gd_n hV (show 64 < 2 ^ 31 by decide)]
  rw [hv.1, hv.2.1]
  rfl
theorem zm_apply_op {mk : Nat → Int32} {M : List Nat} {c : Nat} {vl vh : Nat → Int64} {a b : Int64 × Int64} {V : List (Int64 × Int64)} {o : Int32} (hc : c = 38 ∨ c = 124) (h : z_am mk (c :: M)) (hv : z_av vl vh (b :: a :: V)) (hl : M.length < 64) (hV : V.length + 1 < 64) :
    ∃ vl' vh', zf_Q_apply o (nI (c :: M).length) mk (nI (b :: a :: V).length) vl vh = some (o, nI M.length, nI (a :: V).length, vl', vh') ∧ z_av vl' vh' ((if c = 38 then z_nd a b else z_rr a b) :: V) := by
  have hm : mk M.length = nI c := h.1
  have h1 : vl (a :: V).length = b.1 := hv.1
  have h2 : vh (a :: V).length = b.2 := hv.2.1
  have h3 : vl V.length = a.1 := hv.2.2.1
  have h4 : vh V.length = a.2 := hv.2.2.2.1
  rw [List.length_cons] at h1 h2
  refine ⟨_, _, ?_, z_av_push (if c = 38 then z_nd a b else z_rr a b) hv.2.2.2.2⟩
  unfold zf_Q_apply zf_Q_apply_165 zf_Q_apply_213
  rw [List.length_cons, List.length_cons, List.length_cons, z_sub1, z_sub1, z_sub1, z_gd_n hl (by decide), nI_clamp (n := M.length) (by omega), hm]
  simp only [z_gd_n hV (show 64 < 2 ^ 31 by decide), z_gd_n (show V.length < 64 by omega) (show 64 < 2 ^ 31 by decide)]
  rw [nI_clamp (n := V.length) (by omega), nI_clamp (n := V.length + 1) (by omega), h1, h2, h3, h4]
  rcases hc with rfl | rfl
  · rfl
  · rfl
/-- what ! that wait make of a value -/
def z_fin : Nat → List Nat → List (Int64 × Int64) → Nat × List Nat × List (Int64 × Int64)
  | o + 1, 33 :: M, v :: V => z_fin o M (z_ng v :: V)
  | o, M, V => (o, M, V)
theorem z_fin_id {o : Nat} {M : List Nat} {V : List (Int64 × Int64)} (h : M.head? ≠ some 33) : z_fin o M V = (o, M, V) := by
  unfold z_fin
  split
  · exact absurd rfl h
  · rfl
theorem zm_finish_loop : ∀ (M : List Nat) (o n : Nat) (v : Int64 × Int64) (V : List (Int64 × Int64)) (mk : Nat → Int32) (vl vh : Nat → Int64), M.length < n → z_am mk M → z_av vl vh (v :: V) → M.length ≤ 64 → V.length < 64 → (∀ x ∈ M, x < 1000) → M.count 33 ≤ o →
    ∃ vl' vh', zf_Q_finish_0 n (nI o) (nI M.length) mk (nI (v :: V).length) vl vh = some (nI (z_fin o M (v :: V)).1, nI (z_fin o M (v :: V)).2.1.length, nI (z_fin o M (v :: V)).2.2.length, vl', vh') ∧ z_am mk (z_fin o M (v :: V)).2.1 ∧ z_av vl' vh' (z_fin o M (v :: V)).2.2 := by
  intro M
  induction M with
  | nil =>
    intro o n v V mk vl vh hn hm hv _ _ _ _
    obtain ⟨n, rfl⟩ : ∃ n', n = n' + 1 := ⟨n - 1, by omega⟩
    refine ⟨vl, vh, ?_, ?_, ?_⟩
    · rw [z_fin_id (by simp), zf_Q_finish_0]
      rfl
    · rw [z_fin_id (by simp)]
      exact hm
    · rw [z_fin_id (by simp)]
      exact hv
  | cons x M ih =>
    intro o n v V mk vl vh hn hm hv hl hV hM hc
    obtain ⟨n, rfl⟩ : ∃ n', n = n' + 1 := ⟨n - 1, by omega⟩
    have hw : zf_Q_waits 33 (nI (x :: M).length) mk = some (if (x :: M).head? = some 33 then 1 else 0) := zm_waits hm hl (c := 33) (by decide) hM
    by_cases hx : x = 33
    · subst hx
      have hc1 : M.count 33 + 1 ≤ o := by
        rw [List.count_cons_self] at hc
        exact hc
      obtain ⟨o, rfl⟩ : ∃ o', o = o' + 1 := ⟨o - 1, by omega⟩
      rw [List.length_cons] at hl hn
      obtain ⟨vl1, vh1, e1, hv1⟩ := zm_apply_ng (o := o) hm hv (by omega) hV
      obtain ⟨vl2, vh2, e2, h2, h3⟩ := ih o n (z_ng v) V mk vl1 vh1 (by omega) hm.2 hv1 (by omega) hV (fun y hy => hM y (List.mem_cons_of_mem _ hy)) (by omega)
      refine ⟨vl2, vh2, ?_, h2, h3⟩
      rw [zf_Q_finish_0, hw, if_pos (by rfl), z_b1_of, z_i1, e1]
      exact e2
    · have hh : (x :: M).head? ≠ some 33 := fun q => hx (Option.some.inj q)
      refine ⟨vl, vh, ?_, ?_, ?_⟩
      · rw [z_fin_id hh, zf_Q_finish_0, hw, if_neg hh]
        rfl
      · rw [z_fin_id hh]
        exact hm
      · rw [z_fin_id hh]
        exact hv
theorem zm_finish {M : List Nat} {o : Nat} {v : Int64 × Int64} {V : List (Int64 × Int64)} {mk : Nat → Int32} {vl vh : Nat → Int64} (hm : z_am mk M) (hv : z_av vl vh (v :: V)) (hl : M.length ≤ 64) (hV : V.length < 64) (hM : ∀ x ∈ M, x < 1000) (hc : M.count 33 ≤ o) :
    ∃ vl' vh', zf_Q_finish (nI o) (nI M.length) mk (nI (v :: V).length) vl vh = some (nI (z_fin o M (v :: V)).1, nI (z_fin o M (v :: V)).2.1.length, nI (z_fin o M (v :: V)).2.2.length, vl', vh') ∧ z_am mk (z_fin o M (v :: V)).2.1 ∧ z_av vl' vh' (z_fin o M (v :: V)).2.2 :=
  zm_finish_loop M o z_FU v V mk vl vh (by unfold z_FU; omega) hm hv hl hV hM hc
/-! ===== an operand's value ===== -/
theorem zm_newGene_loop (f : Nat → Int32) (x : Int32) {k : Nat} (hk : k ≤ 7) : ∀ m i n, i + m = k → m < n → zf_Q_newGene_2 n x (nI i) (nI k) f = some (z_find f x m i) := by
  intro m
  induction m with
  | zero =>
    intro i n hi0 hn
    obtain ⟨n, rfl⟩ : ∃ n', n = n' + 1 := ⟨n - 1, by omega⟩
    rw [zf_Q_newGene_2, if_pos ((nI_leI (by omega) (by omega)).mpr (by omega))]
    rfl
  | succ m ih =>
    intro i n hi0 hn
    obtain ⟨n, rfl⟩ : ∃ n', n = n' + 1 := ⟨n - 1, by omega⟩
    rw [zf_Q_newGene_2, if_neg (fun q => absurd ((nI_leI (by omega) (by omega)).mp q) (by omega)), z_gd_n (by omega) (by decide), nI_clamp (by omega)]
    unfold z_find
    split
    · rfl
    · rw [show nI i + (1 : Int32) = nI (i + 1) from nI_1 i]
      exact ih (i + 1) n (by omega) (by omega)
theorem zm_newGene (f : Nat → Int32) (x : Int32) {k : Nat} (hk : k ≤ 7) : zf_Q_newGene x (nI k) f = some (z_find f x k 0) := by
  unfold zf_Q_newGene
  exact zm_newGene_loop f x hk k 0 z_FU (by omega) (by unfold z_FU; omega)
def z_ol (g : Int32) : Nat → Nat → Int64 → Int64 → Int64 × Int64
  | 0, _, l, h => (l, h)
  | m + 1, s, l, h => z_ol g m (s + 1) (l ||| (((nI s >>> (g &&& 31)) &&& (1 : Int32)).toInt64 <<< ((nI s).toInt64 &&& 63))) (h ||| ((((nI s + (64 : Int32)) >>> (g &&& 31)) &&& (1 : Int32)).toInt64 <<< ((nI s).toInt64 &&& 63)))
theorem zm_operand_loop {g : Int32} (hg : ¬ g < 0) (Q_found : Int32) (Q_newNames : Nat → Int32) (Q_nested Q_marks : Int32) (Q_mark : Nat → Int32) (Q_values : Int32) (Q_valueLow Q_valueHigh : Nat → Int64) : ∀ m s n l h, s + m = 64 → m < n → zf_Q_operand_38 n l h g (nI s) Q_found Q_newNames Q_nested Q_marks Q_mark Q_values Q_valueLow Q_valueHigh = zf_Q_operand_89 (z_ol g m s l h).1 (z_ol g m s l h).2 Q_found Q_newNames Q_nested Q_marks Q_mark Q_values Q_valueLow Q_valueHigh := by
  intro m
  induction m with
  | zero =>
    intro s n l h hs hn
    obtain ⟨n, rfl⟩ : ∃ n', n = n' + 1 := ⟨n - 1, by omega⟩
    obtain rfl : s = 64 := by omega
    rw [zf_Q_operand_38, if_pos (by decide)]
    rfl
  | succ m ih =>
    intro s n l h hs hn
    obtain ⟨n, rfl⟩ : ∃ n', n = n' + 1 := ⟨n - 1, by omega⟩
    have h64 : ¬ ((64 : Int32) ≤ nI s) := fun q => absurd ((nI_leI (a := 64) (b := s) (by decide) (by omega)).mp q) (by omega)
    rw [zf_Q_operand_38, if_neg h64, if_neg hg]
    refine z_lt_in (fun y hy => z_lt_in (fun y2 hy2 => ?_))
    rw [hy, hy2, show nI s + (1 : Int32) = nI (s + 1) from nI_1 s]
    exact ih (s + 1) n _ _ (by omega) (by omega)
/-- what a name with that place has -/
def z_gv (g : Int32) : Int64 × Int64 := if g < 0 then (0, 0) else z_ol g 64 0 0 0
theorem z_gv_nI : ∀ g, g < 7 → z_gv (nI g) = if g < 6 then (z_PATTERNS g, z_PATTERNS g) else (0, -1) := by decide +kernel
def z_isn (c : Nat) : Bool := decide (97 ≤ c ∧ c ≤ 122)
theorem z_isn_t {c : Nat} (h : z_isn c = true) : 97 ≤ c ∧ c ≤ 122 := of_decide_eq_true h
theorem z_isn_of {c : Nat} (h : 97 ≤ c ∧ c ≤ 122) : z_isn c = true := decide_eq_true h
theorem z_isn_f {c : Nat} (h : ¬ z_isn c = true) : ¬ (97 ≤ c ∧ c ≤ 122) := fun q => h (decide_eq_true q)
def z_vl (k : Nat) (f : Nat → Int32) (c : Nat) : Int64 × Int64 := if c = 49 then (-1, -1) else if z_isn c then z_gv (z_find f (nI c) k 0) else (0, 0)
theorem zm_Q_isName {c : Nat} (h : c < 1000) : zf_Q_isName (nI c) = some (if z_isn c then 1 else 0) := by
  have e1 : (nI c < (97 : Int32)) ↔ c < 97 := nI_ltI (b := 97) (by omega) (by decide)
  have e2 : ((122 : Int32) < nI c) ↔ 122 < c := nI_ltI (a := 122) (by decide) (by omega)
  unfold zf_Q_isName
  simp only [e1, e2]
  by_cases h1 : c < 97
  · rw [if_pos h1, if_neg (fun q => absurd (z_isn_t q) (by omega)), z_gb0]
  · rw [if_neg h1]
    by_cases h2 : 122 < c
    · rw [if_pos h2, if_neg (fun q => absurd (z_isn_t q) (by omega)), z_gb0]
    · rw [if_neg h2, if_pos (z_isn_of (by omega)), z_gb1]
theorem zm_S_isName {c : Nat} (h : c < 1000) : zf_S_isName (nI c) = some (if z_isn c then 1 else 0) := zm_Q_isName h
def z_lf (c : Nat) : Prop := z_isn c = true ∨ c = 48 ∨ c = 49
theorem zm_operand {c k : Nat} {f : Nat → Int32} {M : List Nat} {o : Nat} {V : List (Int64 × Int64)} {mk : Nat → Int32} {vl vh : Nat → Int64} (hc0 : z_lf c) (hk : k ≤ 7) (hm : z_am mk M) (hv : z_av vl vh V) (hl : M.length ≤ 64) (hV : V.length < 64) (hM : ∀ x ∈ M, x < 1000) (hc : M.count 33 ≤ o) :
    ∃ vl' vh', zf_Q_operand (nI c) (nI k) f (nI o) (nI M.length) mk (nI V.length) vl vh = some (nI (z_fin o M (z_vl k f c :: V)).1, nI (z_fin o M (z_vl k f c :: V)).2.1.length, nI (z_fin o M (z_vl k f c :: V)).2.2.length, vl', vh') ∧ z_am mk (z_fin o M (z_vl k f c :: V)).2.1 ∧ z_av vl' vh' (z_fin o M (z_vl k f c :: V)).2.2 := by
  have key : ∀ v : Int64 × Int64, ∃ vl' vh', zf_Q_operand_89 v.1 v.2 (nI k) f (nI o) (nI M.length) mk (nI V.length) vl vh = some (nI (z_fin o M (v :: V)).1, nI (z_fin o M (v :: V)).2.1.length, nI (z_fin o M (v :: V)).2.2.length, vl', vh') ∧ z_am mk (z_fin o M (v :: V)).2.1 ∧ z_av vl' vh' (z_fin o M (v :: V)).2.2 := by
    intro v
    obtain ⟨vl', vh', e, h1, h2⟩ := zm_finish (o := o) hm (z_av_push v hv) hl hV hM hc
    refine ⟨vl', vh', ?_, h1, h2⟩
    unfold zf_Q_operand_89 zf_Q_pushValue
    rw [z_gd_n hV (by decide), z_gd_n hV (by decide), z_b3_of, nI_clamp (by omega), show nI V.length + (1 : Int32) = nI (v :: V).length from nI_1 _, e]
    rfl
  have neg : ∀ t : Int64, zf_Q_operand_33 t t (-1) (nI k) f (nI o) (nI M.length) mk (nI V.length) vl vh = zf_Q_operand_89 t t (nI k) f (nI o) (nI M.length) mk (nI V.length) vl vh := by
    intro t
    unfold zf_Q_operand_33
    rw [show z_FU = 19999 + 1 from rfl, zf_Q_operand_38, if_neg (by decide), if_pos (by decide)]
  have hb : c < 1000 := by
    rcases hc0 with q | q | q
    · have := z_isn_t q
      omega
    · omega
    · omega
  unfold zf_Q_operand zf_Q_operand_13
  rw [zm_Q_isName hb]
  rcases hc0 with q | q | q
  · have q' := z_isn_t q
    have h49 : ¬ (nI c = (49 : Int32)) := z_nek 49 (by omega) (by decide) (by omega)
    rw [if_neg h49, if_pos q, z_b1_of, z_i1, zm_newGene f (nI c) hk, z_b1_of]
    have e : z_vl k f c = z_gv (z_find f (nI c) k 0) := by
      unfold z_vl
      rw [if_neg (by omega), if_pos q]
    rw [e]
    by_cases hg : z_find f (nI c) k 0 < 0
    · have e2 : z_gv (z_find f (nI c) k 0) = (0, 0) := if_pos hg
      rw [e2]
      unfold zf_Q_operand_33
      rw [show z_FU = 19999 + 1 from rfl, zf_Q_operand_38, if_neg (by decide), if_pos hg]
      exact key (0, 0)
    · have e2 : z_gv (z_find f (nI c) k 0) = z_ol (z_find f (nI c) k 0) 64 0 0 0 := if_neg hg
      rw [e2]
      unfold zf_Q_operand_33
      rw [show (0 : Int32) = nI 0 from rfl, zm_operand_loop hg _ _ _ _ _ _ _ _ 64 0 z_FU 0 0 rfl (by decide)]
      exact key _
  · subst q
    have e : z_vl k f 48 = (0, 0) := rfl
    rw [e, if_neg (by decide), if_neg (by decide), z_b1_of, z_i0, neg]
    exact key (0, 0)
  · subst q
    have e : z_vl k f 49 = (-1, -1) := rfl
    rw [e, if_pos (by rfl), if_neg (by decide), z_b1_of, z_i0, neg]
    exact key (-1, -1)
