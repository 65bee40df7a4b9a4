/-! ===== all rules; strangers ===== -/
section
variable {T : Nat → Nat} {n : Nat} {tx fu0 : Nat → Int32}
theorem zm_rules_loop (hT : zTx T n tx) {ch : Nat → Int32} (hC : zTx T n ch) : ∀ fuel i j p nm code cl en fu wf, i < p → 240 < fuel + i → zI3 T n tx fu0 j p nm code cl en fu wf →
    (∃ j' nm' code' cl' en' fu' wf', zf_S_readRules_11 fuel (nI i) ch (nI n) (nI p) nm (nI (j + 1)) code (nI cl) en fu = some (1, nI n, nm', nI (j' + 1), code', nI cl', en', fu') ∧ zI3 T n tx fu0 j' n nm' code' cl' en' fu' wf') ∨
    (∃ p' a b c d e g, zf_S_readRules_11 fuel (nI i) ch (nI n) (nI p) nm (nI (j + 1)) code (nI cl) en fu = some (0, nI p', a, b, c, d, e, g) ∧ p' ≤ n ∧ ∀ lo hi P nn0, (∀ k f, zF lo hi k f P p') → zQ 0 n tx lo hi 0 nn0 0 P 0 0 0 [] []) := by
  have h240 := hT.1
  intro fuel
  induction fuel with
  | zero =>
    intro i j p nm code cl en fu wf h1 h2 h3
    have := h3.1.2.1
    omega
  | succ fuel ih =>
    intro i j p nm code cl en fu wf h1 h2 h3
    have h30 := h3
    obtain ⟨⟨b1, b2, b3, b4, b5, b6⟩, c1, c2, c3⟩ := h30
    have hb := zhd_lt hC p
    have e240 : ¬ ((240 : Int32) ≤ nI i) := fun z => absurd ((nI_leI (a := 240) (b := i) (by decide) (by omega)).mp z) (by omega)
    have ea := zm_ahead_here hC b2 (fun h => (c1 h).1)
    rw [zf_S_readRules_11, if_neg e240, ea, z_b2_of]
    by_cases q : zhd T n p = 59
    · obtain ⟨r1, r2⟩ := zhd_is (by decide) q
      rw [q, if_pos (show nI 59 = (59 : Int32) by decide), show nI p + (1 : Int32) = nI (p + 1) from nI_1 p, show nI i + (1 : Int32) = nI (i + 1) from nI_1 i]
      rcases zm_rule hT hC (zI3_semi hT r1 r2 h3) with ⟨p3, nm3, code3, cl3, en3, fu3, wf3, x1, x2, x3⟩ | ⟨p3, y1, y2, y3, y4, y5, y6, x1, x2, x3⟩
      · rw [x1, z_b8_of, z_i1]
        exact ih (i + 1) (j + 1) p3 nm3 code3 cl3 en3 fu3 wf3 (by omega) (by omega) x3
      · rw [x1, z_b8_of, z_i0, z_gb0]
        exact Or.inr ⟨p3, _, _, _, _, _, _, rfl, x2, x3⟩
    · have e59 : ¬ (nI (zhd T n p) = (59 : Int32)) := z_nek 59 hb (by decide) q
      rw [if_neg e59]
      unfold zf_S_readRules_52
      rw [ea, z_b2_of]
      by_cases hlt : p < n
      · have e : zhd T n p = T p := if_pos hlt
        have e0 : ¬ (nI (zhd T n p) = (0 : Int32)) := by
          refine z_nek 0 hb (by decide) ?_
          rw [e]
          have := (hC.2 p hlt).2
          omega
        rw [if_neg e0, z_gb0]
        refine Or.inr ⟨p, _, _, _, _, _, _, rfl, b2, ?_⟩
        intro lo hi P nn0 hf
        obtain ⟨nn, so, pa, v, d1, d2⟩ := c2 lo hi P nn0
        obtain ⟨t1, t2, t3⟩ := c1 hlt
        rw [e] at q
        exact d2 (zr_top3 hT p so pa v hlt t1 t2 t3 q (hf _ _))
      · obtain rfl : p = n := by omega
        have e : zhd T p p = 0 := if_neg (by omega)
        rw [e, if_pos (show nI 0 = (0 : Int32) by decide), z_gb1]
        exact Or.inl ⟨j, nm, code, cl, en, fu, wf, rfl, h3⟩
theorem zm_readRules (hT : zTx T n tx) {ch : Nat → Int32} (hC : zTx T n ch) (nm code en : Nat → Int32) :
    (∃ j' nm' code' cl' en' fu' wf', zf_S_readRules ch (nI n) 0 nm 0 code 0 en fu0 = some (1, nI n, nm', nI (j' + 1), code', nI cl', en', fu') ∧ zI3 T n tx fu0 j' n nm' code' cl' en' fu' wf') ∨
    (∃ p' a b c d e g, zf_S_readRules ch (nI n) 0 nm 0 code 0 en fu0 = some (0, nI p', a, b, c, d, e, g) ∧ p' ≤ n ∧ ∀ lo hi P nn0, (∀ k f, zF lo hi k f P p') → zQ 0 n tx lo hi 0 nn0 0 P 0 0 0 [] []) := by
  have h0 : zI0 T n tx fu0 0 0 nm code 0 en fu0 (fun _ _ => (0, 0)) := by
    refine ⟨⟨by decide, by omega, by omega, rfl, fun g hg => absurd hg (by omega), zsr_id⟩, fun lo hi P nn0 => ⟨nn0, fun i hi0 => absurd hi0 (by omega), fun hq => hq⟩, fun k f lo hi P hk hq => ?_⟩
    have e1 : zLo (fun _ _ => (0, 0)) (z_vl k f) 0 lo = lo := rfl
    have e2 : zHi (fun _ _ => (0, 0)) (z_vl k f) 0 hi = hi := rfl
    rw [e1, e2] at hq
    exact hq
  unfold zf_S_readRules
  rw [show zf_S_readRule ch (nI n) 0 nm 0 code 0 en fu0 = zf_S_readRule ch (nI n) (nI 0) nm (nI 0) code (nI 0) en fu0 from rfl]
  rcases zm_rule hT hC h0 with ⟨p3, nm3, code3, cl3, en3, fu3, wf3, x1, x2, x3⟩ | ⟨p3, y1, y2, y3, y4, y5, y6, x1, x2, x3⟩
  · rw [x1, z_b8_of, z_i1]
    exact zm_rules_loop hT hC z_FU 0 0 p3 nm3 code3 cl3 en3 fu3 wf3 (by omega) (by decide) x3
  · rw [x1, z_b8_of, z_i0, z_gb0]
    exact Or.inr ⟨p3, _, _, _, _, _, _, rfl, x2, x3⟩
end
/-! strangers -/
def zuk (T : Nat → Nat) (kn : Nat → Bool) : Nat → Nat → Bool → Nat
  | 0, _, _ => 0
  | m + 1, p, b => if b = true ∧ z_isn (T p) = true ∧ kn (T p) = false then p + 1 else zuk T kn m (p + 1) (T p == 44 || (b && T p != 59))
def zkn (nn : Nat → Int32) (k : Nat) (c : Nat) : Bool := z_find nn (nI c) k 0 != -1
theorem zm_unknown_46 {T : Nat → Nat} {n : Nat} {tx : Nat → Int32} (hT : zTx T n tx) {p : Nat} (hp : p < n) (b : Bool) (K : Int32 → Int32 → Int32 → (Nat → Int32) → Int32 → (Nat → Int32) → Option (Int32)) (fd : Int32) (nn : Nat → Int32) : zf_Q_unknown_46 K (if b then 1 else 0) (nI p) (nI n) tx fd nn = K (if (T p == 44 || (b && T p != 59)) then 1 else 0) (nI (p + 1)) (nI n) tx fd nn := by
  have h240 := hT.1
  have hb := (hT.2 p hp).2
  have e44 : (nI (T p) = (44 : Int32)) ↔ T p = 44 := nI_eq (b := 44) (by omega) (by decide)
  have e59 : (nI (T p) = (59 : Int32)) ↔ T p = 59 := nI_eq (b := 59) (by omega) (by decide)
  unfold zf_Q_unknown_46 zf_Q_unknown_72 zf_Q_unknown_76 zf_Q_unknown_77
  rw [z_gd_n (by omega) (by decide), z_gd_n (by omega) (by decide), nI_clamp (by omega), (hT.2 p hp).1, show nI p + (1 : Int32) = nI (p + 1) from nI_1 p]
  simp only [e44, e59]
  by_cases q1 : T p = 44
  · rw [if_pos q1, if_pos (by rw [q1]; rfl)]
  · rw [if_neg q1]
    have d1 : (T p == 44) = false := beq_eq_false_iff_ne.mpr q1
    rw [d1]
    cases b with
    | false => rfl
    | true =>
      rw [if_neg (by decide)]
      by_cases q2 : T p = 59
      · rw [if_pos q2, q2]
        rfl
      · have d2 : (T p != 59) = true := bne_iff_ne.mpr q2
        rw [if_neg q2, d2]
        rfl
theorem zm_unknown_loop {T : Nat → Nat} {n : Nat} {tx : Nat → Int32} (hT : zTx T n tx) {k : Nat} (hk : k ≤ 7) (nn : Nat → Int32) : ∀ m p fuel b, p + m = n → m < fuel → zf_Q_unknown_4 fuel (if b then 1 else 0) (nI p) (nI n) tx (nI k) nn = some (nI (zuk T (zkn nn k) m p b)) := by
  have h240 := hT.1
  intro m
  induction m with
  | zero =>
    intro p fuel b hp hf
    obtain ⟨fuel, rfl⟩ : ∃ f', fuel = f' + 1 := ⟨fuel - 1, by omega⟩
    rw [zf_Q_unknown_4, if_pos ((nI_leI (by omega) (by omega)).mpr (by omega))]
    rfl
  | succ m ih =>
    intro p fuel b hp hf
    obtain ⟨fuel, rfl⟩ : ∃ f', fuel = f' + 1 := ⟨fuel - 1, by omega⟩
    have hlt : p < n := by omega
    have hb := (hT.2 p hlt).2
    have step := zm_unknown_46 hT hlt b (zf_Q_unknown_4 fuel) (nI k) nn
    rw [ih (p + 1) fuel _ (by omega) (by omega)] at step
    rw [zf_Q_unknown_4, if_neg (fun q => absurd ((nI_leI (by omega) (by omega)).mp q) (by omega)), step, z_gd_n (by omega) (by decide), z_gd_n (by omega) (by decide), nI_clamp (by omega), (hT.2 p hlt).1, zm_Q_isName (by omega), z_b1_of, zm_newGene nn _ hk, z_b1_of, show nI p + (1 : Int32) = nI (p + 1) from nI_1 p]
    show _ = some (nI (if b = true ∧ z_isn (T p) = true ∧ zkn nn k (T p) = false then p + 1 else zuk T (zkn nn k) m (p + 1) (T p == 44 || (b && T p != 59))))
    cases b with
    | false =>
      rw [if_pos (by rfl), if_neg (fun z => absurd z.1 Bool.false_ne_true)]
    | true =>
      rw [if_neg (by decide)]
      by_cases q : z_isn (T p) = true
      · rw [if_pos q, z_i1]
        by_cases r : z_find nn (nI (T p)) k 0 = -1
        · rw [if_pos r, if_pos ⟨rfl, q, by unfold zkn; rw [r]; rfl⟩]
        · rw [if_neg r, if_neg (fun z => r ?_)]
          have z3 := z.2.2
          unfold zkn at z3
          exact bne_eq_false_iff_eq.mp z3
      · rw [if_neg q, z_i0, if_neg (fun z => q z.2.1)]
theorem zsu1_keep {T : Nat → Nat} {i c : Nat} {s : Bool × (Nat → Int32)} (h : s.2 c ≠ 0) : (zsu1 T i s).2 c = s.2 c := by
  unfold zsu1
  show (if s.1 = true ∧ z_isn (T i) = true ∧ s.2 (T i - 97) = 0 then upd s.2 (T i - 97) (nI (i + 1)) else s.2) c = s.2 c
  split
  · rename_i q
    by_cases r : c = T i - 97
    · rw [r] at h
      exact absurd q.2.2 h
    · rw [pk_un r]
  · rfl
theorem zsu_keep {T : Nat → Nat} {c : Nat} : ∀ m p s, s.2 c ≠ 0 → (zsu T m p s).2 c = s.2 c := by
  intro m
  induction m with
  | zero => intro p s _; rfl
  | succ m ih =>
    intro p s h
    show (zsu T m (p + 1) (zsu1 T p s)).2 c = s.2 c
    rw [ih _ _ (by rw [zsu1_keep h]; exact h), zsu1_keep h]
theorem zsu1_cases {T : Nat → Nat} {i c : Nat} {s : Bool × (Nat → Int32)} (hi0 : i < 1000) (h : s.2 c = 0) (hc : c < 26) : ((zsu1 T i s).2 c = 0 ∧ ¬ (s.1 = true ∧ T i = 97 + c)) ∨ ((zsu1 T i s).2 c = nI (i + 1) ∧ s.1 = true ∧ T i = 97 + c) := by
  unfold zsu1
  show ((if s.1 = true ∧ z_isn (T i) = true ∧ s.2 (T i - 97) = 0 then upd s.2 (T i - 97) (nI (i + 1)) else s.2) c = 0 ∧ _) ∨ ((if s.1 = true ∧ z_isn (T i) = true ∧ s.2 (T i - 97) = 0 then upd s.2 (T i - 97) (nI (i + 1)) else s.2) c = nI (i + 1) ∧ _)
  by_cases q : s.1 = true ∧ T i = 97 + c
  · have e : T i - 97 = c := by omega
    refine Or.inr ⟨?_, q⟩
    rw [if_pos ⟨q.1, z_isn_of (by omega), by rw [e]; exact h⟩, e, pk_us]
  · refine Or.inl ⟨?_, q⟩
    split
    · rename_i r
      have := z_isn_t r.2.1
      rw [pk_un (fun z => q ⟨r.1, by omega⟩)]
      exact h
    · exact h
theorem zsu_late {T : Nat → Nat} {c : Nat} (hc : c < 26) : ∀ m p s, p + m ≤ 1000 → s.2 c = 0 → (zsu T m p s).2 c = 0 ∨ ∃ x, (zsu T m p s).2 c = nI x ∧ p + 1 ≤ x ∧ x ≤ 1000 := by
  intro m
  induction m with
  | zero => intro p s _ h; exact Or.inl h
  | succ m ih =>
    intro p s hp h
    show (zsu T m (p + 1) (zsu1 T p s)).2 c = 0 ∨ ∃ x, (zsu T m (p + 1) (zsu1 T p s)).2 c = nI x ∧ p + 1 ≤ x ∧ x ≤ 1000
    rcases zsu1_cases (T := T) (i := p) (by omega) h hc with q | q
    · rcases ih (p + 1) _ (by omega) q.1 with r | ⟨x, r1, r2, r3⟩
      · exact Or.inl r
      · exact Or.inr ⟨x, r1, by omega, r3⟩
    · refine Or.inr ⟨p + 1, ?_, by omega, by omega⟩
      rw [zsu_keep _ _ _ (by rw [q.1]; exact nI_ne0 (by omega) (by omega)), q.1]
/-- who is a stranger, by first uses and by the reference's look -/
theorem zuk_iff {T : Nat → Nat} {kn : Nat → Bool} : ∀ m p b fu, p + m ≤ 1000 → (∀ c, c < 26 → fu c ≠ 0 → kn (97 + c) = true) →
    (zuk T kn m p b = 0 ∧ ∀ c, c < 26 → (zsu T m p (b, fu)).2 c ≠ 0 → kn (97 + c) = true) ∨
    (∃ q c, zuk T kn m p b = q + 1 ∧ p ≤ q ∧ q < 1000 ∧ c < 26 ∧ kn (97 + c) = false ∧ (zsu T m p (b, fu)).2 c = nI (q + 1) ∧ ∀ d, d < 26 → (zsu T m p (b, fu)).2 d ≠ 0 → kn (97 + d) = false → ∃ x, (zsu T m p (b, fu)).2 d = nI x ∧ q + 1 ≤ x ∧ x ≤ 1000) := by
  intro m
  induction m with
  | zero => intro p b fu _ h; exact Or.inl ⟨rfl, h⟩
  | succ m ih =>
    intro p b fu hp h
    by_cases q : b = true ∧ z_isn (T p) = true ∧ kn (T p) = false
    · obtain ⟨q1, q2, q3⟩ := q
      have hb := z_isn_t q2
      have e : zuk T kn (m + 1) p b = p + 1 := if_pos ⟨q1, q2, q3⟩
      have ec : 97 + (T p - 97) = T p := by omega
      have f0 : fu (T p - 97) = 0 := by
        refine Decidable.byContradiction (fun z => ?_)
        have := h (T p - 97) (by omega) z
        rw [ec, q3] at this
        exact absurd this (by decide)
      have s1 : (zsu1 T p (b, fu)).2 (T p - 97) = nI (p + 1) := by
        rcases zsu1_cases (T := T) (i := p) (c := T p - 97) (s := (b, fu)) (by omega) f0 (by omega) with z | z
        · exact absurd ⟨q1, by omega⟩ z.2
        · exact z.1
      have n1 : (zsu1 T p (b, fu)).2 (T p - 97) ≠ 0 := by
        rw [s1]
        exact nI_ne0 (by omega) (by omega)
      refine Or.inr ⟨p, T p - 97, e, by omega, by omega, by omega, by rw [ec]; exact q3, ?_, ?_⟩
      · show (zsu T m (p + 1) (zsu1 T p (b, fu))).2 (T p - 97) = nI (p + 1)
        rw [zsu_keep _ _ _ n1, s1]
      · intro d hd hd0 hd1
        have hfd : fu d = 0 := by
          refine Decidable.byContradiction (fun z => ?_)
          have := h d hd z
          rw [hd1] at this
          exact absurd this (by decide)
        rcases zsu_late (T := T) hd (m + 1) p (b, fu) (by omega) hfd with z | z
        · exact absurd z hd0
        · exact z
    · have e : zuk T kn (m + 1) p b = zuk T kn m (p + 1) (T p == 44 || (b && T p != 59)) := if_neg q
      have h1 : ∀ c, c < 26 → (zsu1 T p (b, fu)).2 c ≠ 0 → kn (97 + c) = true := by
        intro c hc hc0
        by_cases z : fu c = 0
        · rcases zsu1_cases (T := T) (i := p) (c := c) (s := (b, fu)) (by omega) z hc with y | y
          · exact absurd y.1 hc0
          · refine Decidable.byContradiction (fun x => q ⟨y.2.1, z_isn_of (by have := y.2.2; omega), ?_⟩)
            rw [y.2.2]
            exact Bool.eq_false_iff.mpr x
        · exact h c hc z
      rw [e]
      rcases ih (p + 1) (T p == 44 || (b && T p != 59)) (zsu1 T p (b, fu)).2 (by omega) h1 with z | ⟨x, c, z1, z2, z3⟩
      · exact Or.inl z
      · exact Or.inr ⟨x, c, z1, by omega, z3⟩
theorem z_97 : ∀ i, i < 26 → (((97 : Int32) + nI i).toUInt32 % 65536).toInt32 = nI (97 + i) := by decide +kernel
theorem zm_stranger_none {nm fu : Nat → Int32} {j : Nat} (hj : j ≤ 7) (h : ∀ c, c < 26 → fu c ≠ 0 → zkn nm j (97 + c) = true) : ∀ m i fuel, i + m = 26 → m < fuel → zf_S_findStranger_4 fuel 0 (nI i) nm (nI j) fu = some 0 := by
  intro m
  induction m with
  | zero =>
    intro i fuel hi0 hf
    obtain ⟨fuel, rfl⟩ : ∃ f', fuel = f' + 1 := ⟨fuel - 1, by omega⟩
    obtain rfl : i = 26 := by omega
    rw [zf_S_findStranger_4, if_pos (by decide)]
  | succ m ih =>
    intro i fuel hi0 hf
    obtain ⟨fuel, rfl⟩ : ∃ f', fuel = f' + 1 := ⟨fuel - 1, by omega⟩
    have e26 : ¬ ((26 : Int32) ≤ nI i) := fun z => absurd ((nI_leI (a := 26) (b := i) (by decide) (by omega)).mp z) (by omega)
    unfold zf_S_findStranger_4 zf_S_findStranger_45 zf_S_findStranger_46
    rw [if_neg e26, z_gd_n (by omega) (by decide), nI_clamp (by omega), z_97 i (by omega), zm_indexOf nm _ (k := j) (N := 7) hj (by decide), z_b1_of, z_i0, show nI i + (1 : Int32) = nI (i + 1) from nI_1 i]
    by_cases q : fu i = 0
    · rw [if_pos q]
      exact ih (i + 1) fuel (by omega) (by omega)
    · have := h i (by omega) q
      unfold zkn at this
      rw [if_neg q, if_neg (bne_iff_ne.mp this)]
      exact ih (i + 1) fuel (by omega) (by omega)
theorem zm_stranger_some {nm fu : Nat → Int32} {j q c : Nat} (hj : j ≤ 7) (hq : q < 1000) (hc : c < 26) (h1 : zkn nm j (97 + c) = false) (h2 : fu c = nI (q + 1)) (h3 : ∀ d, d < 26 → fu d ≠ 0 → zkn nm j (97 + d) = false → ∃ x, fu d = nI x ∧ q + 1 ≤ x ∧ x ≤ 1000) :
    ∀ m i fuel first, i + m = 26 → m < fuel → (first = 0 ∨ ∃ x, first = nI x ∧ q + 1 ≤ x ∧ x ≤ 1000) → (c < i → first = nI (q + 1)) → zf_S_findStranger_4 fuel first (nI i) nm (nI j) fu = some (nI (q + 1)) := by
  intro m
  induction m with
  | zero =>
    intro i fuel first hi0 hf hx hy
    obtain ⟨fuel, rfl⟩ : ∃ f', fuel = f' + 1 := ⟨fuel - 1, by omega⟩
    obtain rfl : i = 26 := by omega
    rw [zf_S_findStranger_4, if_pos (by decide), hy hc]
  | succ m ih =>
    intro i fuel first hi0 hf hx hy
    obtain ⟨fuel, rfl⟩ : ∃ f', fuel = f' + 1 := ⟨fuel - 1, by omega⟩
    have e26 : ¬ ((26 : Int32) ≤ nI i) := fun z => absurd ((nI_leI (a := 26) (b := i) (by decide) (by omega)).mp z) (by omega)
    unfold zf_S_findStranger_4 zf_S_findStranger_45 zf_S_findStranger_46 zf_S_findStranger_62
    rw [if_neg e26, z_gd_n (by omega) (by decide), nI_clamp (by omega), z_97 i (by omega), zm_indexOf nm _ (k := j) (N := 7) hj (by decide), z_b1_of, z_i0, z_i1, show nI i + (1 : Int32) = nI (i + 1) from nI_1 i]
    by_cases r : fu i = 0
    · rw [if_pos r]
      refine ih (i + 1) fuel first (by omega) (by omega) hx (fun z => hy ?_)
      by_cases w : i = c
      · rw [w, h2] at r
        exact absurd r (nI_ne0 (by omega) (by omega))
      · omega
    rw [if_neg r]
    by_cases s : z_find nm (nI (97 + i)) j 0 = -1
    · rw [if_pos s]
      have hs : zkn nm j (97 + i) = false := by
        unfold zkn
        rw [s]
        rfl
      obtain ⟨x, x1, x2, x3⟩ := h3 i (by omega) r hs
      by_cases t : first = 0
      · rw [if_pos t]
        refine ih (i + 1) fuel (fu i) (by omega) (by omega) (Or.inr ⟨x, x1, x2, x3⟩) (fun z => ?_)
        by_cases w : i = c
        · rw [w, h2]
        · rw [hy (by omega)] at t
          exact absurd t (nI_ne0 (by omega) (by omega))
      · rw [if_neg t]
        obtain ⟨y, y1, y2, y3⟩ : ∃ y, first = nI y ∧ q + 1 ≤ y ∧ y ≤ 1000 := by
          rcases hx with z | z
          · exact absurd z t
          · exact z
        by_cases u : first ≤ fu i
        · rw [if_pos u]
          refine ih (i + 1) fuel first (by omega) (by omega) hx (fun z => ?_)
          by_cases w : i = c
          · rw [w, h2, y1] at u
            have := (nI_leI (by omega) (by omega)).mp u
            rw [y1, show y = q + 1 by omega]
          · exact hy (by omega)
        · rw [if_neg u]
          refine ih (i + 1) fuel (fu i) (by omega) (by omega) (Or.inr ⟨x, x1, x2, x3⟩) (fun z => ?_)
          by_cases w : i = c
          · rw [w, h2]
          · refine absurd ?_ u
            rw [hy (by omega), x1]
            exact (nI_leI (by omega) (by omega)).mpr x2
    · rw [if_neg s]
      refine ih (i + 1) fuel first (by omega) (by omega) hx (fun z => hy ?_)
      by_cases w : i = c
      · rw [w] at s
        unfold zkn at h1
        exact absurd (bne_eq_false_iff_eq.mp h1) s
      · omega
