/-! ===== the rules ===== -/
section
variable {T : Nat → Nat} {n : Nat} {tx fu0 : Nat → Int32}
theorem zr_semi {act : Int32} {lo hi : Nat → Int64} {f : Nat → Int32} {k j p : Nat} {P : (Option (Int32 × (Nat → Int64) × (Nat → Int64) × Int32 × (Nat → Int32) × Int32 × Int32 × (Nat → Int32) × Int32 × (Nat → Int64) × (Nat → Int64) × Int32)) → Prop} (hT : zTx T n tx) (hp : p < n) (hc : T p = 59) (hj : j < 7) (so pa : Option (Int64 × Int64)) (v : (Int64 × Int64))
    (h : zQ act n tx (if act = 0 then lo else vp_updL lo j (z_sv so (z_pv pa v)).1) (if act = 0 then hi else vp_updL hi j (z_sv so (z_pv pa v)).2) k f (nI (j + 1)) P (p + 1) 0 0 [] []) : zQ act n tx lo hi k f (nI j) P p 3 0 (zmm 38 pa (zmm 124 so [])) (v :: zvv pa (zvv so [])) := by
  intro mk vl vh hm hv
  obtain ⟨vl', vh', e⟩ := ze_top (act := act) (o := nI 0) (lo := lo) (hi := hi) hm hv hj
  rw [zs_3e hT hp hc, e, z_b9_of, zs_good (by decide) (by decide)]
  exact h mk vl' vh' trivial trivial
theorem zr_fin {act : Int32} {lo hi : Nat → Int64} {f : Nat → Int32} {k j : Nat} {P : (Option (Int32 × (Nat → Int64) × (Nat → Int64) × Int32 × (Nat → Int32) × Int32 × Int32 × (Nat → Int32) × Int32 × (Nat → Int64) × (Nat → Int64) × Int32)) → Prop} (hT : zTx T n tx) (hj : j < 7) (so pa : Option (Int64 × Int64)) (v : (Int64 × Int64))
    (h : ∀ a b mk c vl vh ru, P (some (0, (if act = 0 then lo else vp_updL lo j (z_sv so (z_pv pa v)).1), (if act = 0 then hi else vp_updL hi j (z_sv so (z_pv pa v)).2), nI k, f, a, b, mk, c, vl, vh, ru))) : zQ act n tx lo hi k f (nI j) P n 3 0 (zmm 38 pa (zmm 124 so [])) (v :: zvv pa (zvv so [])) := by
  intro mk vl vh hm hv
  obtain ⟨vl', vh', e⟩ := ze_top (act := act) (o := nI 0) (lo := lo) (hi := hi) hm hv hj
  rw [zs_n3 hT, e, z_b9_of, z_i1]
  exact h _ _ _ _ _ _ _
theorem zI3_semi (hT : zTx T n tx) {j p : Nat} {nm code : Nat → Int32} {cl : Nat} {en fu : Nat → Int32} {wf : Nat → (Nat → (Int64 × Int64)) → (Int64 × Int64)} (hp : p < n) (hc : T p = 59) (h : zI3 T n tx fu0 j p nm code cl en fu wf) : zI0 T n tx fu0 (j + 1) (p + 1) nm code cl en fu wf := by
  obtain ⟨⟨b1, b2, b3, b4, b5, b6⟩, c1, c2, c3⟩ := h
  refine ⟨⟨b1, by omega, by omega, b4, b5, zsr_tr b6 (zsr_one ?_)⟩, ?_, ?_⟩
  · unfold zsu1
    rw [if_neg (fun q => z_isn_lo (by omega) q.2.1), hc]
    rfl
  · intro lo hi P nn0
    obtain ⟨nn, so, pa, v, d1, d2⟩ := c2 lo hi P nn0
    exact ⟨nn, d1, fun hq => d2 (zr_semi hT hp hc (by omega) so pa v hq)⟩
  · intro k f lo hi P hk hq
    obtain ⟨so, pa, v, d1, d2⟩ := c3 k f lo hi P hk
    refine d2 (zr_semi hT hp hc (by omega) so pa v ?_)
    rw [if_neg (by decide), if_neg (by decide), d1, zLo_s, zHi_s]
    exact hq
theorem zRule_keep {code en fu fu' : Nat → Int32} {cl g j : Nat} {w : (Nat → (Int64 × Int64)) → (Int64 × Int64)} {ks : List Nat} {x : Int32} (hg : g < j) (hf : ∀ i, fu i ≠ 0 → fu' i ≠ 0) (h : zRule code en fu cl g w) : zRule (zwr code cl ks) (upd en j x) fu' (cl + ks.length) g w := by
  obtain ⟨a, ks0, h1, h2, h3, h4, h5, h6⟩ := h
  refine ⟨a, ks0, ?_, ?_, by omega, zrd_keep _ _ h3 h4, h5, zlv_mono h6 hf⟩
  · rw [← h1, pk_un (by omega)]
  · rw [← h2, pk_un (by omega)]
/-- the class reads a rule -/
theorem zm_rule (hT : zTx T n tx) {ch : Nat → Int32} (hC : zTx T n ch) {j p : Nat} {nm code : Nat → Int32} {cl : Nat} {en fu : Nat → Int32} {wf : Nat → (Nat → (Int64 × Int64)) → (Int64 × Int64)} (h : zI0 T n tx fu0 j p nm code cl en fu wf) :
    (∃ p' nm' code' cl' en' fu' wf', zf_S_readRule ch (nI n) (nI p) nm (nI j) code (nI cl) en fu = some (1, nI p', nm', nI (j + 1), code', nI cl', en', fu') ∧ p < p' ∧ zI3 T n tx fu0 j p' nm' code' cl' en' fu' wf') ∨
    (∃ p' a b c d e g, zf_S_readRule ch (nI n) (nI p) nm (nI j) code (nI cl) en fu = some (0, nI p', a, b, c, d, e, g) ∧ p' ≤ n ∧ ∀ lo hi P nn0, (∀ k f, zF lo hi k f P p') → zQ 0 n tx lo hi 0 nn0 0 P 0 0 0 [] []) := by
  have h240 := hT.1
  obtain ⟨⟨b1, b2, b3, b4, b5, b6⟩, c2, c3⟩ := h
  obtain ⟨p0, a1, a2, a3, a4, a5⟩ := zm_ahead hC b2
  have hb := zhd_lt hC p0
  have bad : (p0 < n → z_isn (T p0) = true → 7 ≤ j ∨ z_find nm (nI (T p0)) j 0 ≠ -1) → ∀ lo hi P nn0, (∀ k f, zF lo hi k f P p0) → zQ 0 n tx lo hi 0 nn0 0 P 0 0 0 [] [] := by
    intro hx lo hi P nn0 hf
    obtain ⟨nn, d1, d2⟩ := c2 lo hi P nn0
    refine d2 ((zm_rows hT b1).bl' a1 a2 a3 ?_)
    by_cases hlt : p0 < n
    · refine zr_name0_bad hT hlt (a4 hlt) b1 (fun z => ?_) (hf j nn)
      rw [z_find_congr (g := nm) (fun i _ hi0 => d1 i (by omega))]
      exact hx hlt z
    · obtain rfl : p0 = n := by omega
      exact zr_end2 hT (by decide) 0 [] [] (hf j nn)
  have e7 : ((7 : Int32) ≤ nI j) ↔ 7 ≤ j := nI_leI (a := 7) (by decide) (by omega)
  unfold zf_S_readRule
  rw [a5, z_b2_of, zm_S_isName hb, z_b1_of]
  by_cases q1 : z_isn (zhd T n p0) = true
  · rw [if_pos q1, z_i1]
    have q1' := z_isn_t q1
    obtain ⟨r1, r2⟩ := zhd_is (T := T) (n := n) (p := p0) (c := zhd T n p0) (by omega) rfl
    rw [← r2] at q1 q1' ⊢
    by_cases q2 : 7 ≤ j
    · rw [if_pos (e7.mpr q2), z_gb0]
      exact Or.inr ⟨p0, _, _, _, _, _, _, rfl, a2, bad (fun _ _ => Or.inl q2)⟩
    · rw [if_neg (fun z => q2 (e7.mp z)), zm_indexOf nm (nI (T p0)) (k := j) (N := 7) (by omega) (by decide), z_b1_of]
      by_cases q3 : z_find nm (nI (T p0)) j 0 = -1
      · rw [if_pos q3]
        obtain ⟨p1, m1, m2, m3, m4, m5⟩ := zm_ahead hC (p := p0 + 1) (by omega)
        have hb1 := zhd_lt hC p1
        have go0 : ∀ (lo hi : Nat → Int64) (P : (Option (Int32 × (Nat → Int64) × (Nat → Int64) × Int32 × (Nat → Int32) × Int32 × Int32 × (Nat → Int32) × Int32 × (Nat → Int64) × (Nat → Int64) × Int32)) → Prop) (nn0 : Nat → Int32), ∃ nn, (∀ i, i < j + 1 → nn i = upd nm j (nI (T p0)) i) ∧ (zQ 0 n tx lo hi (j + 1) nn (nI j) P (p0 + 1) 1 0 [] [] → zQ 0 n tx lo hi 0 nn0 0 P 0 0 0 [] []) := by
          intro lo hi P nn0
          obtain ⟨nn, d1, d2⟩ := c2 lo hi P nn0
          refine ⟨upd nn j (nI (T p0)), fun i hi0 => ?_, fun hq => d2 ((zm_rows hT b1).bl' a1 a2 a3 (zr_name0 hT r1 q1 (by omega) ?_ hq))⟩
          · by_cases z : i = j
            · rw [z, pk_us, pk_us]
            · rw [pk_un z, pk_un z]
              exact d1 i (by omega)
          · rw [z_find_congr (g := nm) (fun i _ hi0 => d1 i (by omega))]
            exact q3
        have go1 : ∀ (k : Nat) (f : Nat → Int32) (lo hi : Nat → Int64) (P : (Option (Int32 × (Nat → Int64) × (Nat → Int64) × Int32 × (Nat → Int32) × Int32 × Int32 × (Nat → Int32) × Int32 × (Nat → Int64) × (Nat → Int64) × Int32)) → Prop), k ≤ 7 → zQ 1 n tx (zLo wf (z_vl k f) j lo) (zHi wf (z_vl k f) j hi) k f (nI j) P (p0 + 1) 1 0 [] [] → zQ 1 n tx lo hi k f 0 P 0 0 0 [] [] := by
          intro k f lo hi P hk hq
          exact c3 k f lo hi P hk ((zm_rows hT hk).bl' a1 a2 a3 (zr_name1 hT r1 q1 hq))
        unfold zf_S_readMark
        rw [show nI p0 + (1 : Int32) = nI (p0 + 1) from nI_1 p0, m5, z_b2_of]
        by_cases q4 : zhd T n p1 = 44
        · obtain ⟨s1, s2⟩ := zhd_is (by decide) q4
          rw [q4, if_pos (show nI 44 = (44 : Int32) by decide), z_gb1, z_b2_of, z_i1, show nI p1 + (1 : Int32) = nI (p1 + 1) from nI_1 p1, show (0 : Int32) = nI 0 from rfl]
          rcases zs_sum hC (zf_factor hC z_DEP 0 (by decide) (by decide)) (p := p1 + 1) (cl := cl) (code := code) (fu := fu) (by omega) (by omega) with ⟨p3, ks3, w3, fu3, x1, x2, x3⟩ | ⟨p3, y3, l3, fu3, x1, x2, x3⟩
          · obtain ⟨k1, k2, k3, k4, k5, k6⟩ := x2
            rw [x1, z_b5_of, if_neg (show ¬ ((1 : Int32) = nI 0) by decide), z_gd_n (by omega) (by decide), z_gd_n (by omega) (by decide), z_gb1, nI_clamp (by omega), z_nar (by omega), show nI j + (1 : Int32) = nI (j + 1) from nI_1 j]
            refine Or.inl ⟨p3, _, _, cl + ks3.length, _, fu3, zwx wf j w3, rfl, by omega, ⟨by omega, k2, by omega, ?_, ?_, ?_⟩, x3.1, ?_, ?_⟩
            · rw [if_neg (by omega), show j + 1 - 1 = j from rfl, pk_us]
            · intro g hg
              by_cases z : g = j
              · subst z
                refine ⟨⟨T p0, q1, pk_us⟩, cl, ks3, ?_, pk_us, by omega, zrd_wr _ _ _, ?_, k6⟩
                · rw [← b4]
                  by_cases z0 : g = 0
                  · rw [if_pos z0, if_pos z0]
                  · rw [if_neg z0, if_neg z0, pk_un (by omega)]
                · unfold zwx
                  rw [if_pos rfl]
                  exact k5
              · obtain ⟨⟨c, z1, z2⟩, z3⟩ := b5 g (by omega)
                refine ⟨⟨c, z1, by rw [pk_un z]; exact z2⟩, ?_⟩
                have e : zwx wf j w3 g = wf g := if_neg z
                rw [e]
                exact zRule_keep (by omega) (fun i hi0 => zsr_mono k4 (by omega) hi0) z3
            · refine zsr_tr b6 (zsr_tr (zsr_bl' a1 a3) (zsr_tr (zsr_one (s' := (false, fu)) ?_) (zsr_tr (zsr_bl' m1 m3) (zsr_tr (zsr_one ?_) k4))))
              · unfold zsu1
                rw [if_neg (fun z => absurd z.1 Bool.false_ne_true)]
                have e1 : (T p0 == 44) = false := beq_eq_false_iff_ne.mpr (by omega)
                rw [e1]
                rfl
              · unfold zsu1
                rw [if_neg (fun z => absurd z.1 Bool.false_ne_true), s2]
                rfl
            · intro lo hi P nn0
              obtain ⟨nn, d1, d2⟩ := go0 lo hi P nn0
              obtain ⟨so, pa, v, d3, d4⟩ := x3.2 _ _ _ (zm_rows (act := 0) (lo := lo) (hi := hi) (f := nn) (ru := nI j) (P := P) hT (k := j + 1) (by omega)) [] [] (Or.inl rfl) ⟨by decide, by decide, by decide, by decide, fun x hx => absurd hx (by simp)⟩
              have R := zm_rows (act := 0) (lo := lo) (hi := hi) (f := nn) (ru := nI j) (P := P) hT (k := j + 1) (by omega)
              exact ⟨nn, so, pa, v, d1, fun hq => d2 (R.bl' m1 m2 m3 (R.2.2.2.2.2.2.2.2.2.2.2.2.1 p1 0 [] [] s1 s2 (d4 hq)))⟩
            · intro k f lo hi P hk
              have R := zm_rows (act := 1) (lo := zLo wf (z_vl k f) j lo) (hi := zHi wf (z_vl k f) j hi) (f := f) (ru := nI j) (P := P) hT hk
              obtain ⟨so, pa, v, d3, d4⟩ := x3.2 _ _ _ R [] [] (Or.inl rfl) ⟨by decide, by decide, by decide, by decide, fun x hx => absurd hx (by simp)⟩
              refine ⟨so, pa, v, ?_, fun hq => go1 k f lo hi P hk (R.bl' m1 m2 m3 (R.2.2.2.2.2.2.2.2.2.2.2.2.1 p1 0 [] [] s1 s2 (d4 ?_)))⟩
              · unfold zwx
                rw [if_pos rfl]
                exact d3
              · rw [zLo_x, zHi_x] at hq
                exact hq
          · rw [x1, z_b5_of, show nI 0 = (0 : Int32) from rfl, z_i0, z_gb0]
            refine Or.inr ⟨p3, _, _, _, _, _, _, rfl, x2, ?_⟩
            intro lo hi P nn0 hf
            obtain ⟨nn, d1, d2⟩ := go0 lo hi P nn0
            have R := zm_rows (act := 0) (lo := lo) (hi := hi) (f := nn) (ru := nI j) (P := P) hT (k := j + 1) (by omega)
            exact d2 (R.bl' m1 m2 m3 (R.2.2.2.2.2.2.2.2.2.2.2.2.1 p1 0 [] [] s1 s2 (x3 _ _ _ R [] [] (Or.inl rfl) ⟨by decide, by decide, by decide, by decide, fun x hx => absurd hx (by simp)⟩ (hf _ _))))
        · have e44 : ¬ (nI (zhd T n p1) = (44 : Int32)) := z_nek 44 hb1 (by decide) q4
          rw [if_neg e44, z_gb0, z_b2_of, z_i0, z_gb0]
          refine Or.inr ⟨p1, _, _, _, _, _, _, rfl, m2, ?_⟩
          intro lo hi P nn0 hf
          obtain ⟨nn, d1, d2⟩ := go0 lo hi P nn0
          have R := zm_rows (act := 0) (lo := lo) (hi := hi) (f := nn) (ru := nI j) (P := P) hT (k := j + 1) (by omega)
          refine d2 (R.bl' m1 m2 m3 ?_)
          by_cases hlt : p1 < n
          · have e : zhd T n p1 = T p1 := if_pos hlt
            rw [e] at q4
            exact zr_bad1 hT p1 0 [] [] hlt (m4 hlt) q4 (hf _ _)
          · obtain rfl : p1 = n := by omega
            exact zr_end2 hT (by decide) 0 [] [] (hf _ _)
      · rw [if_neg q3, z_gb0]
        exact Or.inr ⟨p0, _, _, _, _, _, _, rfl, a2, bad (fun _ _ => Or.inr q3)⟩
  · rw [if_neg q1, z_i0, z_gb0]
    refine Or.inr ⟨p0, _, _, _, _, _, _, rfl, a2, bad (fun hlt z => absurd z ?_)⟩
    have e : zhd T n p0 = T p0 := if_pos hlt
    rw [e] at q1
    exact q1
end
