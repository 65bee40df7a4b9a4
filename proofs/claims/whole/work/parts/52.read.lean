/-! ===== the class's reading: code, first uses, ahead ===== -/
def zhd (T : Nat → Nat) (n p : Nat) : Nat := if p < n then T p else 0
def zwr (code : Nat → Int32) (cl : Nat) : List Nat → Nat → Int32
  | [] => code
  | k :: ks => zwr (upd code cl (nI k)) (cl + 1) ks
theorem zwr_app : ∀ (a b : List Nat) (code : Nat → Int32) (cl : Nat), zwr code cl (a ++ b) = zwr (zwr code cl a) (cl + a.length) b := by
  intro a
  induction a with
  | nil => intro b code cl; rfl
  | cons x a ih =>
    intro b code cl
    show zwr (upd code cl (nI x)) (cl + 1) (a ++ b) = zwr (zwr (upd code cl (nI x)) (cl + 1) a) (cl + (x :: a).length) b
    rw [ih, List.length_cons, show cl + 1 + a.length = cl + (a.length + 1) by omega]
def zsu1 (T : Nat → Nat) (i : Nat) (s : Bool × (Nat → Int32)) : Bool × (Nat → Int32) := (T i == 44 || (s.1 && T i != 59), if s.1 = true ∧ z_isn (T i) = true ∧ s.2 (T i - 97) = 0 then upd s.2 (T i - 97) (nI (i + 1)) else s.2)
def zsu (T : Nat → Nat) : Nat → Nat → Bool × (Nat → Int32) → Bool × (Nat → Int32)
  | 0, _, s => s
  | m + 1, p, s => zsu T m (p + 1) (zsu1 T p s)
theorem zsu_add (T : Nat → Nat) : ∀ a b p s, zsu T (a + b) p s = zsu T b (p + a) (zsu T a p s) := by
  intro a
  induction a with
  | zero => intro b p s; rw [Nat.zero_add]; rfl
  | succ a ih =>
    intro b p s
    rw [show a + 1 + b = (a + b) + 1 by omega]
    show zsu T (a + b) (p + 1) (zsu1 T p s) = zsu T b (p + (a + 1)) (zsu T a (p + 1) (zsu1 T p s))
    rw [ih, show p + 1 + a = p + (a + 1) by omega]
def zsr (T : Nat → Nat) (p p' : Nat) (s s' : Bool × (Nat → Int32)) : Prop := p ≤ p' ∧ zsu T (p' - p) p s = s'
theorem zsr_tr {T : Nat → Nat} {p q r : Nat} {s s1 s2 : Bool × (Nat → Int32)} (h1 : zsr T p q s s1) (h2 : zsr T q r s1 s2) : zsr T p r s s2 := by
  obtain ⟨a1, a2⟩ := h1
  obtain ⟨b1, b2⟩ := h2
  refine ⟨by omega, ?_⟩
  rw [show r - p = (q - p) + (r - q) by omega, zsu_add, a2, show p + (q - p) = q by omega, b2]
theorem zsr_one {T : Nat → Nat} {p : Nat} {s s' : Bool × (Nat → Int32)} (h : zsu1 T p s = s') : zsr T p (p + 1) s s' := by
  refine ⟨by omega, ?_⟩
  rw [show p + 1 - p = 0 + 1 by omega]
  exact h
theorem zsr_plain {T : Nat → Nat} {p : Nat} {s : Bool × (Nat → Int32)} (h1 : ¬ z_isn (T p) = true) (h2 : T p ≠ 44) (h3 : T p ≠ 59) : zsr T p (p + 1) s s := by
  refine zsr_one ?_
  obtain ⟨b, fu⟩ := s
  unfold zsu1
  rw [if_neg (fun q => h1 q.2.1)]
  have e1 : (T p == 44) = false := beq_eq_false_iff_ne.mpr h2
  have e2 : (T p != 59) = true := bne_iff_ne.mpr h3
  simp only [e1, e2, Bool.and_true, Bool.false_or]
theorem z_isn_lo {c : Nat} (h : c < 97) : ¬ z_isn c = true := fun q => absurd (z_isn_t q) (by omega)
theorem z_isn_hi {c : Nat} (h : 122 < c) : ¬ z_isn c = true := fun q => absurd (z_isn_t q) (by omega)
theorem zsr_id {T : Nat → Nat} {p : Nat} {s : Bool × (Nat → Int32)} : zsr T p p s s := by
  refine ⟨Nat.le_refl _, ?_⟩
  rw [Nat.sub_self]
  rfl
theorem zsr_bl {T : Nat → Nat} {p : Nat} {s : Bool × (Nat → Int32)} : ∀ m, (∀ i, p ≤ i → i < p + m → T i = 32) → zsr T p (p + m) s s := by
  intro m
  induction m with
  | zero => intro _; exact zsr_id
  | succ m ih =>
    intro h
    have e := h (p + m) (by omega) (by omega)
    exact zsr_tr (ih (fun i h1 h2 => h i h1 (by omega))) (zsr_plain (p := p + m) (by rw [e]; exact z_isn_lo (by decide)) (by omega) (by omega))
theorem zsr_bl' {T : Nat → Nat} {p p' : Nat} {s : Bool × (Nat → Int32)} (hp : p ≤ p') (h : ∀ i, p ≤ i → i < p' → T i = 32) : zsr T p p' s s := by
  have := zsr_bl (T := T) (p := p) (s := s) (p' - p) (fun i h1 h2 => h i h1 (by omega))
  rw [show p + (p' - p) = p' by omega] at this
  exact this
theorem zsu1_mono {T : Nat → Nat} {i j : Nat} {s : Bool × (Nat → Int32)} (hi0 : i < 1000) (h : s.2 j ≠ 0) : (zsu1 T i s).2 j ≠ 0 := by
  unfold zsu1
  show (if s.1 = true ∧ z_isn (T i) = true ∧ s.2 (T i - 97) = 0 then upd s.2 (T i - 97) (nI (i + 1)) else s.2) j ≠ 0
  split
  · by_cases q : j = T i - 97
    · rw [q, pk_us]
      exact nI_ne0 (by omega) (by omega)
    · rw [pk_un q]
      exact h
  · exact h
theorem zsu_mono {T : Nat → Nat} {j : Nat} : ∀ m p s, p + m ≤ 1000 → s.2 j ≠ 0 → (zsu T m p s).2 j ≠ 0 := by
  intro m
  induction m with
  | zero => intro p s _ h; exact h
  | succ m ih =>
    intro p s hp h
    exact ih (p + 1) _ (by omega) (zsu1_mono (by omega) h)
theorem zsr_mono {T : Nat → Nat} {p p' j : Nat} {s s' : Bool × (Nat → Int32)} (h : zsr T p p' s s') (hp : p' ≤ 1000) (h1 : s.2 j ≠ 0) : s'.2 j ≠ 0 := by
  rw [← h.2]
  exact zsu_mono _ _ _ (by have := h.1; omega) h1
/-! code as a value -/
def zst (val : Nat → (Int64 × Int64)) (c : Nat) (s : List (Int64 × Int64)) : Option (List (Int64 × Int64)) :=
  if c = 33 then (match s with
    | v :: t => some (z_ng v :: t)
    | [] => none)
  else if c = 38 then (match s with
    | b :: a :: t => some (z_nd a b :: t)
    | _ => none)
  else if c = 124 then (match s with
    | b :: a :: t => some (z_rr a b :: t)
    | _ => none)
  else some (val c :: s)
def zev (val : Nat → (Int64 × Int64)) : List Nat → List (Int64 × Int64) → Option (List (Int64 × Int64))
  | [], s => some s
  | c :: ks, s => (zst val c s).bind (zev val ks)
theorem zev_app (val : Nat → (Int64 × Int64)) : ∀ (a b : List Nat) (s : List (Int64 × Int64)), zev val (a ++ b) s = (zev val a s).bind (zev val b) := by
  intro a
  induction a with
  | nil => intro b s; rfl
  | cons c a ih =>
    intro b s
    show (zst val c s).bind (zev val (a ++ b)) = ((zst val c s).bind (zev val a)).bind (zev val b)
    cases zst val c s with
    | none => rfl
    | some t => exact ih b t
def zlv (ks : List Nat) (fu : Nat → Int32) : Prop := ∀ c ∈ ks, c = 33 ∨ c = 38 ∨ c = 124 ∨ (z_lf c ∧ (z_isn c = true → fu (c - 97) ≠ 0))
theorem zlv_app {a b : List Nat} {fu : Nat → Int32} (h1 : zlv a fu) (h2 : zlv b fu) : zlv (a ++ b) fu := by
  intro c hc
  rcases List.mem_append.mp hc with q | q
  · exact h1 c q
  · exact h2 c q
theorem zlv_mono {a : List Nat} {fu fu' : Nat → Int32} (h : zlv a fu) (h2 : ∀ j, fu j ≠ 0 → fu' j ≠ 0) : zlv a fu' := by
  intro c hc
  rcases h c hc with q | q | q | q
  · exact Or.inl q
  · exact Or.inr (Or.inl q)
  · exact Or.inr (Or.inr (Or.inl q))
  · exact Or.inr (Or.inr (Or.inr ⟨q.1, fun z => h2 _ (q.2 z)⟩))
theorem zlv_op {c : Nat} {fu : Nat → Int32} (h : c = 33 ∨ c = 38 ∨ c = 124) : zlv [c] fu := by
  intro x hx
  rw [List.mem_singleton.mp hx]
  rcases h with q | q | q
  · exact Or.inl q
  · exact Or.inr (Or.inl q)
  · exact Or.inr (Or.inr (Or.inl q))
def zgood (T : Nat → Nat) (n p p' : Nat) (fu fu' : Nat → Int32) (ks : List Nat) (w : (Nat → (Int64 × Int64)) → (Int64 × Int64)) : Prop :=
  p < p' ∧ p' ≤ n ∧ ks.length ≤ p' - p ∧ zsr T p p' (true, fu) (true, fu') ∧ (∀ val s, zev val ks s = some (w val :: s)) ∧ zlv ks fu'
def zres (T : Nat → Nat) (n p cl : Nat) (code fu : Nat → Int32) (r : (Option (Int32 × Int32 × (Nat → Int32) × Int32 × (Nat → Int32)))) (G : Nat → ((Nat → (Int64 × Int64)) → (Int64 × Int64)) → Prop) (Fq : Nat → Prop) : Prop :=
  (∃ p' ks w fu', r = some (1, nI p', zwr code cl ks, nI (cl + ks.length), fu') ∧ zgood T n p p' fu fu' ks w ∧ G p' w) ∨
  (∃ p' c' l' fu', r = some (0, nI p', c', l', fu') ∧ p' ≤ n ∧ Fq p')
def zFF (T : Nat → Nat) (n o a : Nat) (C : List Nat → Prop) (p p' : Nat) : Prop := ∀ val Q F, zRows T n val Q F → ∀ M V, C M → zok o a M V → F p' → Q p 2 o M V
def zGF (T : Nat → Nat) (n o p p' : Nat) (w : (Nat → (Int64 × Int64)) → (Int64 × Int64)) : Prop := ∀ val Q F, zRows T n val Q F → ∀ M V, zok o 2 M V → Q p' 3 (z_fin o M (w val :: V)).1 (z_fin o M (w val :: V)).2.1 (z_fin o M (w val :: V)).2.2 → Q p 2 o M V
def zCP (M : List Nat) : Prop := M.head? ≠ some 38 ∧ M.head? ≠ some 33
def zGP (T : Nat → Nat) (n o p p' : Nat) (w : (Nat → (Int64 × Int64)) → (Int64 × Int64)) : Prop := (p' < n → T p' ≠ 32 ∧ T p' ≠ 38) ∧ ∀ val Q F, zRows T n val Q F → ∀ M V, zCP M → zok o 1 M V → ∃ pa v, z_pv pa v = w val ∧ (Q p' 3 o (zmm 38 pa M) (v :: zvv pa V) → Q p 2 o M V)
def zGS (T : Nat → Nat) (n o p p' : Nat) (w : (Nat → (Int64 × Int64)) → (Int64 × Int64)) : Prop := (p' < n → T p' ≠ 32 ∧ T p' ≠ 38 ∧ T p' ≠ 124) ∧ ∀ val Q F, zRows T n val Q F → ∀ M V, z_top M → zok o 0 M V → ∃ so pa v, z_sv so (z_pv pa v) = w val ∧ (Q p' 3 o (zmm 38 pa (zmm 124 so M)) (v :: zvv pa (zvv so V)) → Q p 2 o M V)
theorem zRows.bl {T : Nat → Nat} {n : Nat} {val : Nat → (Int64 × Int64)} {Q : Nat → Nat → Nat → List Nat → List (Int64 × Int64) → Prop} {F : Nat → Prop} (R : zRows T n val Q F) {st o : Nat} {M : List Nat} {V : List (Int64 × Int64)} : ∀ m p, p + m ≤ n → (∀ i, p ≤ i → i < p + m → T i = 32) → Q (p + m) st o M V → Q p st o M V := by
  intro m
  induction m with
  | zero => intro p _ _ h; exact h
  | succ m ih =>
    intro p hp h hq
    refine R.1 p st o M V (by omega) (h p (by omega) (by omega)) (ih (p + 1) (by omega) (fun i h1 h2 => h i (by omega) (by omega)) ?_)
    rw [show p + 1 + m = p + (m + 1) by omega]
    exact hq
theorem zRows.bl' {T : Nat → Nat} {n : Nat} {val : Nat → (Int64 × Int64)} {Q : Nat → Nat → Nat → List Nat → List (Int64 × Int64) → Prop} {F : Nat → Prop} (R : zRows T n val Q F) {st o : Nat} {M : List Nat} {V : List (Int64 × Int64)} {p p' : Nat} (hp : p ≤ p') (hn : p' ≤ n) (h : ∀ i, p ≤ i → i < p' → T i = 32) (hq : Q p' st o M V) : Q p st o M V := by
  refine R.bl (p' - p) p (by omega) (fun i h1 h2 => h i h1 (by omega)) ?_
  rw [show p + (p' - p) = p' by omega]
  exact hq
/-! the class's small methods -/
section
variable {T : Nat → Nat} {n : Nat} {ch : Nat → Int32}
theorem zhd_lt (hT : zTx T n ch) (p : Nat) : zhd T n p < 1000 := by
  unfold zhd
  split
  · rename_i h
    have := (hT.2 p h).2
    omega
  · decide
theorem zm_ahead_38 (hT : zTx T n ch) {p : Nat} (hp : p ≤ n) : zf_S_ahead_38 ch (nI n) (nI p) = some (nI (zhd T n p), nI p) := by
  have h240 := hT.1
  unfold zf_S_ahead_38 zhd
  by_cases q : p < n
  · have hb := (hT.2 p q).2
    rw [if_neg (fun z => absurd ((nI_leI (by omega) (by omega)).mp z) (by omega)), z_gd_n (by omega) (by decide), nI_clamp (by omega), (hT.2 p q).1, if_pos q]
    exact z_gc_in (z_nar (by omega))
  · rw [if_pos ((nI_leI (by omega) (by omega)).mpr (by omega)), if_neg q]
    exact z_gc_in (z_nar (m := 0) (by decide))
theorem zm_ahead_loop (hT : zTx T n ch) : ∀ m p fuel, p + m = n → m < fuel → ∃ p', p ≤ p' ∧ p' ≤ n ∧ (∀ i, p ≤ i → i < p' → T i = 32) ∧ (p' < n → T p' ≠ 32) ∧ zf_S_ahead_0 fuel ch (nI n) (nI p) = some (nI (zhd T n p'), nI p') := by
  have h240 := hT.1
  intro m
  induction m with
  | zero =>
    intro p fuel hp hf
    obtain ⟨fuel, rfl⟩ : ∃ f', fuel = f' + 1 := ⟨fuel - 1, by omega⟩
    refine ⟨p, by omega, by omega, fun i h1 h2 => absurd h1 (by omega), fun q => absurd q (by omega), ?_⟩
    rw [zf_S_ahead_0, if_pos ((nI_leI (by omega) (by omega)).mpr (by omega))]
    exact zm_ahead_38 hT (by omega)
  | succ m ih =>
    intro p fuel hp hf
    obtain ⟨fuel, rfl⟩ : ∃ f', fuel = f' + 1 := ⟨fuel - 1, by omega⟩
    have hlt : p < n := by omega
    have hb := (hT.2 p hlt).2
    by_cases q : T p = 32
    · obtain ⟨p', h1, h2, h3, h4, h5⟩ := ih (p + 1) fuel (by omega) (by omega)
      refine ⟨p', by omega, h2, fun i g1 g2 => ?_, h4, ?_⟩
      · by_cases r : i = p
        · rw [r, q]
        · exact h3 i (by omega) g2
      · rw [zf_S_ahead_0, if_neg (fun z => absurd ((nI_leI (by omega) (by omega)).mp z) (by omega)), z_gd_n (by omega) (by decide), nI_clamp (by omega), (hT.2 p hlt).1, q, if_pos (by rfl), show nI p + (1 : Int32) = nI (p + 1) from nI_1 p]
        exact h5
    · have h32 : ¬ (nI (T p) = (32 : Int32)) := z_nek 32 (by omega) (by decide) q
      refine ⟨p, by omega, by omega, fun i h1 h2 => absurd h1 (by omega), fun _ => q, ?_⟩
      rw [zf_S_ahead_0, if_neg (fun z => absurd ((nI_leI (by omega) (by omega)).mp z) (by omega)), z_gd_n (by omega) (by decide), nI_clamp (by omega), (hT.2 p hlt).1, if_neg h32]
      exact zm_ahead_38 hT (by omega)
theorem zm_ahead (hT : zTx T n ch) {p : Nat} (hp : p ≤ n) : ∃ p', p ≤ p' ∧ p' ≤ n ∧ (∀ i, p ≤ i → i < p' → T i = 32) ∧ (p' < n → T p' ≠ 32) ∧ zf_S_ahead ch (nI n) (nI p) = some (nI (zhd T n p'), nI p') :=
  zm_ahead_loop hT (n - p) p z_FU (by omega) (by have := hT.1; unfold z_FU; omega)
theorem zm_ahead_here (hT : zTx T n ch) {p : Nat} (hp : p ≤ n) (h : p < n → T p ≠ 32) : zf_S_ahead ch (nI n) (nI p) = some (nI (zhd T n p), nI p) := by
  obtain ⟨p', h1, h2, h3, h4, h5⟩ := zm_ahead hT hp
  by_cases q : p = p'
  · rw [q]
    rw [← q] at h5 ⊢
    exact h5
  · exact absurd (h3 p (by omega) (by omega)) (h (by omega))
theorem zm_emit {c cl : Nat} {code : Nat → Int32} (hc : c < 65536) (h : cl < 240) : zf_S_emit (nI c) code (nI cl) = some (upd code cl (nI c), nI (cl + 1)) := by
  have e : ¬ ((240 : Int32) ≤ nI cl) := fun z => absurd ((nI_leI (a := 240) (b := cl) (by decide) (by omega)).mp z) (by omega)
  unfold zf_S_emit
  rw [if_neg e, z_gd_n h (by decide), nI_clamp (by omega), z_nar hc, show nI cl + (1 : Int32) = nI (cl + 1) from nI_1 cl]
theorem z_sub97 : ∀ c, c < 123 → 97 ≤ c → nI c - (97 : Int32) = nI (c - 97) := by decide +kernel
theorem zm_leaf {p cl : Nat} {code fu : Nat → Int32} (hp : p < 240) (hc : z_lf (T p)) (hl : cl < 240) : ∃ fu', zf_S_readLeaf (nI (T p)) (nI p) code (nI cl) fu = some (1, nI (p + 1), upd code cl (nI (T p)), nI (cl + 1), fu') ∧ zsu1 T p (true, fu) = (true, fu') ∧ (z_isn (T p) = true → fu' (T p - 97) ≠ 0) := by
  have hb := z_lf_lt hc
  have e1 : (T p == 44) = false := beq_eq_false_iff_ne.mpr (by omega)
  have e2 : (T p != 59) = true := bne_iff_ne.mpr (by omega)
  have key : ∀ fu', zf_S_readLeaf_51 (nI (T p)) (nI p) code (nI cl) fu' = some (1, nI (p + 1), upd code cl (nI (T p)), nI (cl + 1), fu') := by
    intro fu'
    unfold zf_S_readLeaf_51
    rw [zm_emit (by omega) hl, z_b2_of, z_gb1, show nI p + (1 : Int32) = nI (p + 1) from nI_1 p]
  unfold zf_S_readLeaf
  rw [zm_S_isName (by omega), z_b1_of]
  by_cases q : z_isn (T p) = true
  · have hq := z_isn_t q
    rw [if_pos q, z_i1, z_sub97 _ (by omega) (by omega), z_gd_n (by omega) (by decide), nI_clamp (by omega)]
    by_cases r : fu (T p - 97) = 0
    · rw [if_pos r, z_gd_n (by omega) (by decide), key, show nI p + (1 : Int32) = nI (p + 1) from nI_1 p]
      refine ⟨_, rfl, ?_, fun _ => ?_⟩
      · unfold zsu1
        rw [if_pos ⟨rfl, q, r⟩, e1, e2]
        rfl
      · rw [pk_us]
        exact nI_ne0 (by omega) (by omega)
    · rw [if_neg r, key]
      refine ⟨fu, rfl, ?_, fun _ => r⟩
      unfold zsu1
      rw [if_neg (fun z => r z.2.2), e1, e2]
      rfl
  · refine ⟨fu, ?_, ?_, fun z => absurd z q⟩
    · rw [if_neg q, z_i0]
      rcases hc with z | z | z
      · exact absurd z q
      · rw [z, if_pos (by rfl), ← z]
        exact key fu
      · rw [z, if_neg (by decide), if_pos (by rfl), ← z]
        exact key fu
    · unfold zsu1
      rw [if_neg (fun z => q z.2.1), e1, e2]
      rfl
theorem zm_leaf_bad {c : Nat} {at0 cl : Int32} {code fu : Nat → Int32} (hc : c < 1000) (h : ¬ z_lf c) : zf_S_readLeaf (nI c) at0 code cl fu = some (0, at0, code, cl, fu) := by
  have e3 : ¬ (nI c = (48 : Int32)) := z_nek 48 (by omega) (by decide) (fun q => h (Or.inr (Or.inl q)))
  have e4 : ¬ (nI c = (49 : Int32)) := z_nek 49 (by omega) (by decide) (fun q => h (Or.inr (Or.inr q)))
  unfold zf_S_readLeaf
  rw [zm_S_isName hc, z_b1_of, if_neg (fun q => h (Or.inl q)), z_i0, if_neg e3, if_neg e4, z_gb0]
end
