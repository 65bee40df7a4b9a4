/-! ===== a factor ===== -/
section
variable {T : Nat → Nat} {n : Nat} {ch : Nat → Int32}
theorem zgood_bl0 {p p1 p2 : Nat} {fu fu' : Nat → Int32} {ks : List Nat} {w : (Nat → (Int64 × Int64)) → (Int64 × Int64)} (h1 : p ≤ p1) (h3 : ∀ i, p ≤ i → i < p1 → T i = 32) (h : zgood T n p1 p2 fu fu' ks w) : zgood T n p p2 fu fu' ks w := by
  obtain ⟨g1, g2, g3, g4, g5, g6⟩ := h
  exact ⟨by omega, g2, by omega, zsr_tr (zsr_bl' h1 h3) g4, g5, g6⟩
theorem zf_bang {rf : (Int32 → (Nat → Int32) → Int32 → Int32 → (Nat → Int32) → Int32 → (Nat → Int32) → Option (Int32 × Int32 × (Nat → Int32) × Int32 × (Nat → Int32)))} (hT : zTx T n ch) {o p cl : Nat} {code fu : Nat → Int32} (hF : o < 12 → zS_F T n ch rf (o + 1)) (ho : o ≤ 12) (hp : p < n) (hc : T p = 33) (hcl : cl ≤ p) :
    zres T n p cl code fu (zf_S_readFactor_23 rf (nI o) (nI 33) ch (nI n) (nI p) code (nI cl) fu) (zGF T n o p) (zFF T n o 2 (fun _ => True) p) := by
  have h240 := hT.1
  have e12 : (nI o < (12 : Int32)) ↔ o < 12 := nI_ltI (b := 12) (by omega) (by decide)
  unfold zf_S_readFactor_23
  by_cases q : o < 12
  · rw [if_pos (e12.mpr q), if_neg (show ¬ (nI 33 = (40 : Int32)) by decide), show nI o + (1 : Int32) = nI (o + 1) from nI_1 o, show nI p + (1 : Int32) = nI (p + 1) from nI_1 p]
    rcases hF q (p + 1) cl code fu (by omega) (by omega) with ⟨p3, ks3, w3, fu3, b1, b2, b3⟩ | ⟨p3, c3, l3, fu3, b1, b2, b3⟩
    · obtain ⟨k1, k2, k3, k4, k5, k6⟩ := b2
      rw [b1, z_b5_of, z_i1, show (33 : Int32) = nI 33 from rfl, zm_emit (by decide) (by omega), z_b2_of, z_gb1]
      refine Or.inl ⟨p3, ks3 ++ [33], fun val => z_ng (w3 val), fu3, ?_, ⟨by omega, k2, ?_, ?_, ?_, ?_⟩, ?_⟩
      · rw [zwr_app, List.length_append, List.length_singleton, Nat.add_assoc]
        rfl
      · rw [List.length_append, List.length_singleton]
        omega
      · exact zsr_tr (zsr_plain (z_isn_lo (by omega)) (by omega) (by omega)) k4
      · intro val s
        rw [zev_app, k5]
        rfl
      · exact zlv_app k6 (zlv_op (Or.inl rfl))
      · intro val Q F R M V hk hq
        have hl : M.length < 60 := by
          have := hk.2.1
          omega
        refine R.2.2.1 p o M V hp (Or.inl hc) q hl ?_
        rw [hc]
        exact b3 val Q F R (33 :: M) V (zok_up (zok_in hk q (Or.inl rfl)) (by decide)) hq
    · rw [b1, z_b5_of, z_i0, z_gb0]
      refine Or.inr ⟨p3, _, _, _, rfl, b2, ?_⟩
      intro val Q F R M V _ hk hf
      have hl : M.length < 60 := by
        have := hk.2.1
        omega
      refine R.2.2.1 p o M V hp (Or.inl hc) q hl ?_
      rw [hc]
      exact b3 val Q F R (33 :: M) V trivial (zok_up (zok_in hk q (Or.inl rfl)) (by decide)) hf
  · obtain rfl : o = 12 := by omega
    rw [if_neg (fun z => q (e12.mp z)), z_gb0]
    exact Or.inr ⟨p, _, _, _, rfl, by omega, fun val Q F R M V _ hk hf => R.2.2.2.1 p M V hp (Or.inl hc) hf⟩
theorem zf_paren {rf : (Int32 → (Nat → Int32) → Int32 → Int32 → (Nat → Int32) → Int32 → (Nat → Int32) → Option (Int32 × Int32 × (Nat → Int32) × Int32 × (Nat → Int32)))} (hT : zTx T n ch) {o p cl : Nat} {code fu : Nat → Int32} (hF : o < 12 → zS_F T n ch rf (o + 1)) (ho : o ≤ 12) (hp : p < n) (hc : T p = 40) (hcl : cl ≤ p) :
    zres T n p cl code fu (zf_S_readFactor_23 rf (nI o) (nI 40) ch (nI n) (nI p) code (nI cl) fu) (zGF T n o p) (zFF T n o 2 (fun _ => True) p) := by
  have h240 := hT.1
  have e12 : (nI o < (12 : Int32)) ↔ o < 12 := nI_ltI (b := 12) (by omega) (by decide)
  unfold zf_S_readFactor_23
  by_cases q : o < 12
  · rw [if_pos (e12.mpr q), if_pos (show nI 40 = (40 : Int32) by decide), show nI o + (1 : Int32) = nI (o + 1) from nI_1 o, show nI p + (1 : Int32) = nI (p + 1) from nI_1 p]
    rcases zs_sum hT (hF q) (p := p + 1) (cl := cl) (code := code) (fu := fu) (by omega) (by omega) with ⟨p3, ks3, w3, fu3, b1, b2, b3⟩ | ⟨p3, c3, l3, fu3, b1, b2, b3⟩
    · obtain ⟨k1, k2, k3, k4, k5, k6⟩ := b2
      have hb := zhd_lt hT p3
      rw [b1, z_b5_of, z_i1]
      unfold zf_S_readMark
      rw [zm_ahead_here hT k2 (fun h => (b3.1 h).1), z_b2_of]
      by_cases r : zhd T n p3 = 41
      · obtain ⟨r1, r2⟩ := zhd_is (by decide) r
        rw [r, if_pos (show nI 41 = (41 : Int32) by decide), z_gb1, z_b2_of, z_i1, z_gb1, show nI p3 + (1 : Int32) = nI (p3 + 1) from nI_1 p3]
        refine Or.inl ⟨p3 + 1, ks3, w3, fu3, rfl, ⟨by omega, by omega, by omega, ?_, k5, k6⟩, ?_⟩
        · exact zsr_tr (zsr_tr (zsr_plain (z_isn_lo (by omega)) (by omega) (by omega)) k4) (zsr_plain (z_isn_lo (by omega)) (by omega) (by omega))
        · intro val Q F R M V hk hq
          have hl : M.length < 60 := by
            have := hk.2.1
            omega
          refine R.2.2.1 p o M V hp (Or.inr hc) q hl ?_
          rw [hc]
          obtain ⟨so, pa, v, d1, d2⟩ := b3.2 val Q F R (40 :: M) V (Or.inr ⟨M, rfl⟩) (zok_in hk q (Or.inr rfl))
          refine d2 (R.2.2.2.2.2.2.2.2.1 p3 o M V so pa v r1 r2 (zok_in hk q (Or.inr rfl)) ?_)
          rw [d1]
          exact hq
      · have e41 : ¬ (nI (zhd T n p3) = (41 : Int32)) := z_nek 41 hb (by decide) r
        rw [if_neg e41, z_gb0, z_b2_of, z_i0, z_gb0]
        refine Or.inr ⟨p3, _, _, _, rfl, k2, ?_⟩
        intro val Q F R M V _ hk hf
        have hl : M.length < 60 := by
          have := hk.2.1
          omega
        refine R.2.2.1 p o M V hp (Or.inr hc) q hl ?_
        rw [hc]
        obtain ⟨so, pa, v, d1, d2⟩ := b3.2 val Q F R (40 :: M) V (Or.inr ⟨M, rfl⟩) (zok_in hk q (Or.inr rfl))
        by_cases hlt : p3 < n
        · obtain ⟨t1, t2, t3⟩ := b3.1 hlt
          refine d2 (R.2.2.2.2.2.2.2.2.2.1 p3 (o + 1) M V so pa v hlt t1 t2 t3 (fun z => r ?_) (zok_in hk q (Or.inr rfl)) hf)
          unfold zhd
          rw [if_pos hlt, z]
        · obtain rfl : p3 = n := by omega
          exact d2 (R.2.2.2.2.2.2.2.2.2.2.1 (o + 1) M V so pa v (zok_in hk q (Or.inr rfl)) hf)
    · rw [b1, z_b5_of, z_i0, z_gb0]
      refine Or.inr ⟨p3, _, _, _, rfl, b2, ?_⟩
      intro val Q F R M V _ hk hf
      have hl : M.length < 60 := by
        have := hk.2.1
        omega
      refine R.2.2.1 p o M V hp (Or.inr hc) q hl ?_
      rw [hc]
      exact b3 val Q F R (40 :: M) V (Or.inr ⟨M, rfl⟩) (zok_in hk q (Or.inr rfl)) hf
  · obtain rfl : o = 12 := by omega
    rw [if_neg (fun z => q (e12.mp z)), z_gb0]
    exact Or.inr ⟨p, _, _, _, rfl, by omega, fun val Q F R M V _ hk hf => R.2.2.2.1 p M V hp (Or.inr hc) hf⟩
theorem zres_bl {p p1 cl o : Nat} {code fu : Nat → Int32} {r : (Option (Int32 × Int32 × (Nat → Int32) × Int32 × (Nat → Int32)))} (h1 : p ≤ p1) (hn : p1 ≤ n) (h3 : ∀ i, p ≤ i → i < p1 → T i = 32) (h : zres T n p1 cl code fu r (zGF T n o p1) (zFF T n o 2 (fun _ => True) p1)) : zres T n p cl code fu r (zGF T n o p) (zFF T n o 2 (fun _ => True) p) := by
  rcases h with ⟨p3, ks3, w3, fu3, b1, b2, b3⟩ | ⟨p3, c3, l3, fu3, b1, b2, b3⟩
  · exact Or.inl ⟨p3, ks3, w3, fu3, b1, zgood_bl0 h1 h3 b2, fun val Q F R M V hk hq => R.bl' h1 hn h3 (b3 val Q F R M V hk hq)⟩
  · exact Or.inr ⟨p3, c3, l3, fu3, b1, b2, fun val Q F R M V hC hk hf => R.bl' h1 hn h3 (b3 val Q F R M V hC hk hf)⟩
theorem zf_factor_b {rf : (Int32 → (Nat → Int32) → Int32 → Int32 → (Nat → Int32) → Int32 → (Nat → Int32) → Option (Int32 × Int32 × (Nat → Int32) × Int32 × (Nat → Int32)))} (hT : zTx T n ch) {o : Nat} (hF : o < 12 → zS_F T n ch rf (o + 1)) (ho : o ≤ 12) : zS_F T n ch (zf_S_readFactor_b rf) o := by
  have h240 := hT.1
  intro p cl code fu hp hcl
  obtain ⟨p1, a1, a2, a3, a4, a5⟩ := zm_ahead hT hp
  refine zres_bl a1 a2 a3 ?_
  have hb := zhd_lt hT p1
  unfold zf_S_readFactor_b
  rw [a5, z_b2_of]
  by_cases q1 : zhd T n p1 = 33
  · obtain ⟨r1, r2⟩ := zhd_is (by decide) q1
    rw [q1, if_pos (show nI 33 = (33 : Int32) by decide)]
    exact zf_bang hT hF ho r1 r2 (by omega)
  by_cases q2 : zhd T n p1 = 40
  · obtain ⟨r1, r2⟩ := zhd_is (by decide) q2
    rw [q2, if_neg (show ¬ (nI 40 = (33 : Int32)) by decide), if_pos (show nI 40 = (40 : Int32) by decide)]
    exact zf_paren hT hF ho r1 r2 (by omega)
  have e33 : ¬ (nI (zhd T n p1) = (33 : Int32)) := z_nek 33 hb (by decide) q1
  have e40 : ¬ (nI (zhd T n p1) = (40 : Int32)) := z_nek 40 hb (by decide) q2
  rw [if_neg e33, if_neg e40]
  by_cases q3 : z_lf (zhd T n p1)
  · have hl := z_lf_lt q3
    obtain ⟨r1, r2⟩ := zhd_is (T := T) (n := n) (p := p1) (c := zhd T n p1) (by omega) rfl
    rw [← r2] at q3 hl
    rw [← r2]
    obtain ⟨fu', c1, c2, c3⟩ := zm_leaf (T := T) (p := p1) (cl := cl) (code := code) (fu := fu) (by omega) q3 (by omega)
    rw [c1, z_b5_of, z_gb1]
    refine Or.inl ⟨p1 + 1, [T p1], fun val => val (T p1), fu', rfl, ⟨by omega, by omega, by rw [List.length_singleton]; omega, zsr_one c2, ?_, ?_⟩, ?_⟩
    · intro val s
      show (zst val (T p1) s).bind (zev val []) = _
      unfold zst
      rw [if_neg (by omega), if_neg (by omega), if_neg (by omega)]
      rfl
    · intro x hx
      rw [List.mem_singleton.mp hx]
      exact Or.inr (Or.inr (Or.inr ⟨q3, c3⟩))
    · intro val Q F R M V hk hq
      exact R.2.2.2.2.1 p1 o M V r1 q3 hk hq
  · rw [zm_leaf_bad hb q3, z_b5_of, z_gb0]
    refine Or.inr ⟨p1, _, _, _, rfl, a2, ?_⟩
    intro val Q F R M V _ hk hf
    by_cases hlt : p1 < n
    · have e : zhd T n p1 = T p1 := if_pos hlt
      rw [e] at q1 q2 q3
      exact R.2.2.2.2.2.1 p1 o M V hlt (a4 hlt) q1 q2 q3 hf
    · obtain rfl : p1 = n := by omega
      exact R.2.1 o M V hf
theorem zf_factor (hT : zTx T n ch) : ∀ d o, o ≤ 12 → 13 ≤ o + d → zS_F T n ch (zf_S_readFactor d) o := by
  intro d
  induction d with
  | zero => intro o h1 h2; omega
  | succ d ih =>
    intro o h1 h2
    exact zf_factor_b hT (fun h => ih (o + 1) (by omega) (by omega)) h1
end
