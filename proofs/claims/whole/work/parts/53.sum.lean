/-! ===== a product, a sum, a factor ===== -/
theorem zok_push {o a : Nat} {M : List Nat} {V : List (Int64 × Int64)} {c : Nat} {v : (Int64 × Int64)} (h : zok o a M V) (hc : c = 38 ∨ c = 124) : zok o (a + 1) (c :: M) (v :: V) := by
  obtain ⟨h1, h2, h3, h4, h5⟩ := h
  refine ⟨h1, by rw [List.length_cons]; omega, by rw [List.length_cons]; omega, ?_, ?_⟩
  · rw [List.count_cons_of_ne (by omega), List.count_cons_of_ne (by omega)]
    exact h4
  · intro x hx
    rcases List.mem_cons.mp hx with q | q
    · omega
    · exact h5 x q
theorem zok_up {o a b : Nat} {M : List Nat} {V : List (Int64 × Int64)} (h : zok o a M V) (hab : a ≤ b) : zok o b M V := by
  obtain ⟨h1, h2, h3, h4, h5⟩ := h
  exact ⟨h1, by omega, by omega, h4, h5⟩
theorem zok_in {o : Nat} {M : List Nat} {V : List (Int64 × Int64)} {c : Nat} (h : zok o 2 M V) (ho : o < 12) (hc : c = 33 ∨ c = 40) : zok (o + 1) 0 (c :: M) V := by
  obtain ⟨h1, h2, h3, h4, h5⟩ := h
  refine ⟨by omega, by rw [List.length_cons]; omega, by omega, ?_, ?_⟩
  · rcases hc with rfl | rfl
    · rw [List.count_cons_self, List.count_cons_of_ne (by decide)]
      omega
    · rw [List.count_cons_self, List.count_cons_of_ne (by decide)]
      omega
  · intro x hx
    rcases List.mem_cons.mp hx with q | q
    · omega
    · exact h5 x q
theorem zgood_bl {T : Nat → Nat} {n p p1 p2 : Nat} {fu fu' : Nat → Int32} {ks : List Nat} {w : (Nat → (Int64 × Int64)) → (Int64 × Int64)} (h : zgood T n p p1 fu fu' ks w) (h1 : p1 ≤ p2) (h2 : p2 ≤ n) (h3 : ∀ i, p1 ≤ i → i < p2 → T i = 32) : zgood T n p p2 fu fu' ks w := by
  obtain ⟨g1, g2, g3, g4, g5, g6⟩ := h
  exact ⟨by omega, h2, by omega, zsr_tr g4 (zsr_bl' h1 h3), g5, g6⟩
/-- one more behind a mark -/
theorem zgood_op {T : Nat → Nat} {n p p1 p2 p3 : Nat} {fu fu1 fu3 : Nat → Int32} {ks ks3 : List Nat} {w w3 : (Nat → (Int64 × Int64)) → (Int64 × Int64)} {c : Nat} (hn : n ≤ 240) (h : zgood T n p p1 fu fu1 ks w) (h1 : p1 ≤ p2) (h3 : ∀ i, p1 ≤ i → i < p2 → T i = 32) (hc : c = 38 ∨ c = 124) (h4 : T p2 = c) (h5 : zgood T n (p2 + 1) p3 fu1 fu3 ks3 w3) : zgood T n p p3 fu fu3 (ks ++ ks3 ++ [c]) (fun val => if c = 38 then z_nd (w val) (w3 val) else z_rr (w val) (w3 val)) := by
  obtain ⟨g1, g2, g3, g4, g5, g6⟩ := h
  obtain ⟨k1, k2, k3, k4, k5, k6⟩ := h5
  refine ⟨by omega, k2, ?_, ?_, ?_, ?_⟩
  · rw [List.length_append, List.length_append, List.length_singleton]
    omega
  · refine zsr_tr g4 (zsr_tr (zsr_bl' h1 h3) (zsr_tr (zsr_plain ?_ (by omega) (by omega)) k4))
    rcases hc with q | q
    · exact z_isn_lo (by omega)
    · exact z_isn_hi (by omega)
  · intro val s
    rw [zev_app, zev_app, g5]
    show ((zev val ks3 (w val :: s)).bind (zev val [c])) = _
    rw [k5]
    rcases hc with rfl | rfl
    · rfl
    · rfl
  · exact zlv_app (zlv_app (zlv_mono g6 (fun j hj => zsr_mono k4 (by omega) hj)) k6) (zlv_op (Or.inr hc))
section
variable {T : Nat → Nat} {n : Nat} {ch : Nat → Int32} {rf : (Int32 → (Nat → Int32) → Int32 → Int32 → (Nat → Int32) → Int32 → (Nat → Int32) → Option (Int32 × Int32 × (Nat → Int32) × Int32 × (Nat → Int32)))}
def zS_F (T : Nat → Nat) (n : Nat) (ch : Nat → Int32) (rf : (Int32 → (Nat → Int32) → Int32 → Int32 → (Nat → Int32) → Int32 → (Nat → Int32) → Option (Int32 × Int32 × (Nat → Int32) × Int32 × (Nat → Int32)))) (o : Nat) : Prop := ∀ p cl code fu, p ≤ n → cl ≤ p → zres T n p cl code fu (rf (nI o) ch (nI n) (nI p) code (nI cl) fu) (zGF T n o p) (zFF T n o 2 (fun _ => True) p)
theorem zhd_is {p c : Nat} (hc : 0 < c) (h : zhd T n p = c) : p < n ∧ T p = c := by
  unfold zhd at h
  split at h
  · rename_i q
    exact ⟨q, h⟩
  · omega
theorem zp_loop (hT : zTx T n ch) {o : Nat} (hF : zS_F T n ch rf o) {p cl : Nat} {code fu : Nat → Int32} (hcl : cl ≤ p) : ∀ fuel i p1 ks w fu1, i < p1 → 240 < fuel + i → zgood T n p p1 fu fu1 ks w →
    (∀ val Q F, zRows T n val Q F → ∀ M V, zCP M → zok o 1 M V → ∃ pa v, z_pv pa v = w val ∧ (Q p1 3 o (zmm 38 pa M) (v :: zvv pa V) → Q p 2 o M V)) →
    zres T n p cl code fu (zf_S_readProduct_12 rf fuel (nI o) (nI i) ch (nI n) (nI p1) (zwr code cl ks) (nI (cl + ks.length)) fu1) (zGP T n o p) (zFF T n o 1 zCP p) := by
  have h240 := hT.1
  intro fuel
  induction fuel with
  | zero =>
    intro i p1 ks w fu1 hi0 hf hg
    have := hg.2.1
    omega
  | succ fuel ih =>
    intro i p1 ks w fu1 hi0 hf hg hch
    have hg0 := hg
    obtain ⟨g1, g2, g3, g4, g5, g6⟩ := hg0
    have e240 : ¬ ((240 : Int32) ≤ nI i) := fun z => absurd ((nI_leI (a := 240) (b := i) (by decide) (by omega)).mp z) (by omega)
    obtain ⟨p2, a1, a2, a3, a4, a5⟩ := zm_ahead hT g2
    have hb := zhd_lt hT p2
    rw [zf_S_readProduct_12, if_neg e240, a5, z_b2_of]
    by_cases q : zhd T n p2 = 38
    · obtain ⟨q1, q2⟩ := zhd_is (by decide) q
      rw [q, if_pos (show nI 38 = (38 : Int32) by decide), show nI p2 + (1 : Int32) = nI (p2 + 1) from nI_1 p2, show nI i + (1 : Int32) = nI (i + 1) from nI_1 i]
      rcases hF (p2 + 1) (cl + ks.length) (zwr code cl ks) fu1 (by omega) (by omega) with ⟨p3, ks3, w3, fu3, b1, b2, b3⟩ | ⟨p3, c3, l3, fu3, b1, b2, b3⟩
      · have b20 := b2
        obtain ⟨k1, k2, k3, k4, k5, k6⟩ := b20
        rw [b1, z_b5_of, z_i1, show (38 : Int32) = nI 38 from rfl, zm_emit (by decide) (by omega), z_b2_of]
        have hg2 := zgood_op h240 hg a1 a3 (Or.inl rfl) q2 b2
        have e1 : upd (zwr (zwr code cl ks) (cl + ks.length) ks3) (cl + ks.length + ks3.length) (nI 38) = zwr code cl (ks ++ ks3 ++ [38]) := by
          rw [zwr_app, zwr_app, List.length_append, show cl + (ks.length + ks3.length) = cl + ks.length + ks3.length by omega]
          rfl
        have e2 : cl + ks.length + ks3.length + 1 = cl + (ks ++ ks3 ++ [38]).length := by
          rw [List.length_append, List.length_append, List.length_singleton]
          omega
        rw [e1, e2]
        refine ih (i + 1) p3 _ _ fu3 (by omega) (by omega) hg2 ?_
        intro val Q F R M V hC hk
        obtain ⟨pa, v, c1, c2⟩ := hch val Q F R M V hC hk
        refine ⟨some (w val), w3 val, rfl, fun hq => c2 (R.bl' a1 a2 a3 (R.2.2.2.2.2.2.1 p2 o M V pa v q1 q2 hC.1 hk ?_))⟩
        rw [c1]
        refine b3 val Q F R (38 :: M) (w val :: V) (zok_push hk (Or.inl rfl)) ?_
        rw [z_fin_id (by simp)]
        exact hq
      · rw [b1, z_b5_of, z_i0, z_gb0]
        refine Or.inr ⟨p3, _, _, _, rfl, b2, ?_⟩
        intro val Q F R M V hC hk hf0
        obtain ⟨pa, v, c1, c2⟩ := hch val Q F R M V hC hk
        refine c2 (R.bl' a1 a2 a3 (R.2.2.2.2.2.2.1 p2 o M V pa v q1 q2 hC.1 hk ?_))
        rw [c1]
        exact b3 val Q F R (38 :: M) (w val :: V) trivial (zok_push hk (Or.inl rfl)) hf0
    · have e38 : ¬ (nI (zhd T n p2) = (38 : Int32)) := z_nek 38 hb (by decide) q
      rw [if_neg e38, z_gb1]
      refine Or.inl ⟨p2, ks, w, fu1, rfl, zgood_bl hg a1 a2 a3, fun h => ⟨a4 h, fun z => q ?_⟩, ?_⟩
      · unfold zhd
        rw [if_pos h, z]
      · intro val Q F R M V hC hk
        obtain ⟨pa, v, c1, c2⟩ := hch val Q F R M V hC hk
        exact ⟨pa, v, c1, fun hq => c2 (R.bl' a1 a2 a3 hq)⟩
theorem zp_product (hT : zTx T n ch) {o : Nat} (hF : zS_F T n ch rf o) {p cl : Nat} {code fu : Nat → Int32} (hp : p ≤ n) (hcl : cl ≤ p) :
    zres T n p cl code fu (zf_S_readProduct rf (nI o) ch (nI n) (nI p) code (nI cl) fu) (zGP T n o p) (zFF T n o 1 zCP p) := by
  unfold zf_S_readProduct
  rcases hF p cl code fu hp hcl with ⟨p3, ks3, w3, fu3, b1, b2, b3⟩ | ⟨p3, c3, l3, fu3, b1, b2, b3⟩
  · rw [b1, z_b5_of, z_i1]
    refine zp_loop hT hF hcl z_FU 0 p3 ks3 w3 fu3 (by have := b2.1; omega) (by decide) b2 ?_
    intro val Q F R M V hC hk
    refine ⟨none, w3 val, rfl, fun hq => b3 val Q F R M V (zok_up hk (by decide)) ?_⟩
    rw [z_fin_id hC.2]
    exact hq
  · rw [b1, z_b5_of, z_i0, z_gb0]
    exact Or.inr ⟨p3, _, _, _, rfl, b2, fun val Q F R M V _ hk hf => b3 val Q F R M V trivial (zok_up hk (by decide)) hf⟩
theorem zs_loop (hT : zTx T n ch) {o : Nat} (hF : zS_F T n ch rf o) {p cl : Nat} {code fu : Nat → Int32} (hcl : cl ≤ p) : ∀ fuel i p1 ks w fu1, i < p1 → 240 < fuel + i → zgood T n p p1 fu fu1 ks w → (p1 < n → T p1 ≠ 32 ∧ T p1 ≠ 38) →
    (∀ val Q F, zRows T n val Q F → ∀ M V, z_top M → zok o 0 M V → ∃ so pa v, z_sv so (z_pv pa v) = w val ∧ (Q p1 3 o (zmm 38 pa (zmm 124 so M)) (v :: zvv pa (zvv so V)) → Q p 2 o M V)) →
    zres T n p cl code fu (zf_S_readSum_12 rf fuel (nI o) (nI i) ch (nI n) (nI p1) (zwr code cl ks) (nI (cl + ks.length)) fu1) (zGS T n o p) (zFF T n o 0 z_top p) := by
  have h240 := hT.1
  intro fuel
  induction fuel with
  | zero =>
    intro i p1 ks w fu1 hi0 hf hg
    have := hg.2.1
    omega
  | succ fuel ih =>
    intro i p1 ks w fu1 hi0 hf hg hnb hch
    have hg0 := hg
    obtain ⟨g1, g2, g3, g4, g5, g6⟩ := hg0
    have e240 : ¬ ((240 : Int32) ≤ nI i) := fun z => absurd ((nI_leI (a := 240) (b := i) (by decide) (by omega)).mp z) (by omega)
    have hb := zhd_lt hT p1
    rw [zf_S_readSum_12, if_neg e240, zm_ahead_here hT g2 (fun h => (hnb h).1), z_b2_of]
    by_cases q : zhd T n p1 = 124
    · obtain ⟨q1, q2⟩ := zhd_is (by decide) q
      rw [q, if_pos (show nI 124 = (124 : Int32) by decide), show nI p1 + (1 : Int32) = nI (p1 + 1) from nI_1 p1, show nI i + (1 : Int32) = nI (i + 1) from nI_1 i]
      rcases zp_product hT hF (p := p1 + 1) (cl := cl + ks.length) (code := zwr code cl ks) (fu := fu1) (by omega) (by omega) with ⟨p3, ks3, w3, fu3, b1, b2, b3⟩ | ⟨p3, c3, l3, fu3, b1, b2, b3⟩
      · have b20 := b2
        obtain ⟨k1, k2, k3, k4, k5, k6⟩ := b20
        rw [b1, z_b5_of, z_i1, show (124 : Int32) = nI 124 from rfl, zm_emit (by decide) (by omega), z_b2_of]
        have hg2 := zgood_op h240 hg (Nat.le_refl _) (fun i h1 h2 => absurd h1 (by omega)) (Or.inr rfl) q2 b2
        have e1 : upd (zwr (zwr code cl ks) (cl + ks.length) ks3) (cl + ks.length + ks3.length) (nI 124) = zwr code cl (ks ++ ks3 ++ [124]) := by
          rw [zwr_app, zwr_app, List.length_append, show cl + (ks.length + ks3.length) = cl + ks.length + ks3.length by omega]
          rfl
        have e2 : cl + ks.length + ks3.length + 1 = cl + (ks ++ ks3 ++ [124]).length := by
          rw [List.length_append, List.length_append, List.length_singleton]
          omega
        rw [e1, e2]
        refine ih (i + 1) p3 _ _ fu3 (by omega) (by omega) hg2 b3.1 ?_
        intro val Q F R M V hC hk
        obtain ⟨so, pa, v, c1, c2⟩ := hch val Q F R M V hC hk
        obtain ⟨pa2, v2, d1, d2⟩ := b3.2 val Q F R (124 :: M) (w val :: V) ⟨by simp, by simp⟩ (zok_push hk (Or.inr rfl))
        refine ⟨some (w val), pa2, v2, ?_, fun hq => c2 (R.2.2.2.2.2.2.2.1 p1 o M V so pa v q1 q2 hC hk ?_)⟩
        · show z_rr (w val) (z_pv pa2 v2) = z_rr (w val) (w3 val)
          rw [d1]
        · rw [c1]
          exact d2 hq
      · rw [b1, z_b5_of, z_i0, z_gb0]
        refine Or.inr ⟨p3, _, _, _, rfl, b2, ?_⟩
        intro val Q F R M V hC hk hf0
        obtain ⟨so, pa, v, c1, c2⟩ := hch val Q F R M V hC hk
        refine c2 (R.2.2.2.2.2.2.2.1 p1 o M V so pa v q1 q2 hC hk ?_)
        rw [c1]
        exact b3 val Q F R (124 :: M) (w val :: V) ⟨by simp, by simp⟩ (zok_push hk (Or.inr rfl)) hf0
    · have e124 : ¬ (nI (zhd T n p1) = (124 : Int32)) := z_nek 124 hb (by decide) q
      rw [if_neg e124, z_gb1]
      refine Or.inl ⟨p1, ks, w, fu1, rfl, hg, fun h => ⟨(hnb h).1, (hnb h).2, fun z => q ?_⟩, hch⟩
      unfold zhd
      rw [if_pos h, z]
theorem zs_sum (hT : zTx T n ch) {o : Nat} (hF : zS_F T n ch rf o) {p cl : Nat} {code fu : Nat → Int32} (hp : p ≤ n) (hcl : cl ≤ p) :
    zres T n p cl code fu (zf_S_readSum rf (nI o) ch (nI n) (nI p) code (nI cl) fu) (zGS T n o p) (zFF T n o 0 z_top p) := by
  unfold zf_S_readSum
  rcases zp_product hT hF (code := code) (fu := fu) hp hcl with ⟨p3, ks3, w3, fu3, b1, b2, b3⟩ | ⟨p3, c3, l3, fu3, b1, b2, b3⟩
  · rw [b1, z_b5_of, z_i1]
    refine zs_loop hT hF hcl z_FU 0 p3 ks3 w3 fu3 (by have := b2.1; omega) (by decide) b2 b3.1 ?_
    intro val Q F R M V hC hk
    obtain ⟨t1, t2, t3⟩ := z_top_ne hC
    obtain ⟨pa, v, d1, d2⟩ := b3.2 val Q F R M V ⟨t1, t3⟩ (zok_up hk (by decide))
    exact ⟨none, pa, v, d1, d2⟩
  · rw [b1, z_b5_of, z_i0, z_gb0]
    refine Or.inr ⟨p3, _, _, _, rfl, b2, fun val Q F R M V hC hk hf => ?_⟩
    obtain ⟨t1, t2, t3⟩ := z_top_ne hC
    exact b3 val Q F R M V ⟨t1, t3⟩ (zok_up hk (by decide)) hf
end
