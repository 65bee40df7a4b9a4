/-! ===== the reference keeps the rows ===== -/
theorem zm_goesOn_bad {c : Nat} {ne ma : Int32} {mk : Nat → Int32} {va : Int32} {vl vh : Nat → Int64} (hc : c < 1000) (h1 : c ≠ 38) (h2 : c ≠ 124) (h3 : c ≠ 41) : zf_Q_goesOn (nI c) ne ma mk va vl vh = some (0, ne, ma, mk, va, vl, vh) := by
  have e1 : ¬ (nI c = (38 : Int32)) := z_nek 38 (by omega) (by decide) h1
  have e2 : ¬ (nI c = (124 : Int32)) := z_nek 124 (by omega) (by decide) h2
  have e3 : ¬ (nI c = (41 : Int32)) := z_nek 41 (by omega) (by decide) h3
  unfold zf_Q_goesOn
  rw [if_neg e1, if_neg e2, if_neg e3, z_gb0]
theorem zg_push {x : Nat} {o va : Int32} {M : List Nat} {mk : Nat → Int32} {vl vh : Nat → Int64} (hx : x < 1000) (h41 : x ≠ 41) (hl : M.length < 60) : zf_Q_goesOn_51 (nI x) o (nI M.length) mk va vl vh = some (1, o, nI (x :: M).length, upd mk M.length (nI x), va, vl, vh) := by
  have e3 : ¬ (nI x = (41 : Int32)) := z_nek 41 (by omega) (by decide) h41
  unfold zf_Q_goesOn_51
  rw [if_neg e3, z_gd_n (by omega) (by decide), z_gb1, nI_clamp (by omega), show nI M.length + (1 : Int32) = nI (x :: M).length from nI_1 _]
section
variable {act : Int32} {n : Nat} {tx : Nat → Int32} {lo hi : Nat → Int64} {f : Nat → Int32} {k : Nat} {ru : Int32} {T : Nat → Nat} {P : (Option (Int32 × (Nat → Int64) × (Nat → Int64) × Int32 × (Nat → Int32) × Int32 × Int32 × (Nat → Int32) × Int32 × (Nat → Int64) × (Nat → Int64) × Int32)) → Prop}
theorem zr_end2 (hT : zTx T n tx) {st : Nat} (hs : st < 3) (o : Nat) (M : List Nat) (V : List (Int64 × Int64)) (h : zF lo hi k f P n) : zQ act n tx lo hi k f ru P n st o M V := by
  intro mk vl vh _ _
  rw [zs_n hT hs]
  exact h _ _ _ _ _ _ _
theorem zr_op (hT : zTx T n tx) (p o : Nat) (M : List Nat) (V : List (Int64 × Int64)) (hp : p < n) (hc : T p = 33 ∨ T p = 40) (ho : o < 12) (hM : M.length < 60) (h : zQ act n tx lo hi k f ru P (p + 1) 2 (o + 1) (T p :: M) V) : zQ act n tx lo hi k f ru P p 2 o M V := by
  intro mk vl vh hm hv
  have hb := (hT.2 p hp).2
  rw [zs_2 hT hp (by omega), zm_begins_op hc ho hM, z_b7_of, zs_good (by decide) (by omega), show z_nx 2 (T p) = 2 by unfold z_nx; simp [hc]]
  exact h _ _ _ (z_am_push _ hm) hv
theorem zr_op12 (hT : zTx T n tx) (p : Nat) (M : List Nat) (V : List (Int64 × Int64)) (hp : p < n) (hc : T p = 33 ∨ T p = 40) (h : zF lo hi k f P p) : zQ act n tx lo hi k f ru P p 2 12 M V := by
  intro mk vl vh hm hv
  rw [zs_2 hT hp (by omega), zm_begins_12 hc, z_b7_of, zs_bad]
  exact h _ _ _ _ _ _ _
theorem zr_leaf (hT : zTx T n tx) (hk : k ≤ 7) (p o : Nat) (M : List Nat) (V : List (Int64 × Int64)) (hp : p < n) (hc : z_lf (T p)) (h0 : zok o 2 M V) (h : zQ act n tx lo hi k f ru P (p + 1) 3 (z_fin o M (z_vl k f (T p) :: V)).1 (z_fin o M (z_vl k f (T p) :: V)).2.1 (z_fin o M (z_vl k f (T p) :: V)).2.2) : zQ act n tx lo hi k f ru P p 2 o M V := by
  intro mk vl vh hm hv
  have hb := z_lf_lt hc
  obtain ⟨vl', vh', e, q1, q2⟩ := zm_begins_lf (f := f) hc hk hm hv h0
  rw [zs_2 hT hp (by omega), e, z_b7_of, zs_good (by decide) (by omega), show z_nx 2 (T p) = 3 by unfold z_nx; rw [if_neg (by decide), if_neg (by decide), if_pos rfl, if_neg (by omega)]]
  exact h _ _ _ q1 q2
theorem zr_bad2 (hT : zTx T n tx) (p o : Nat) (M : List Nat) (V : List (Int64 × Int64)) (hp : p < n) (h1 : T p ≠ 32) (h2 : T p ≠ 33) (h3 : T p ≠ 40) (h4 : ¬ z_lf (T p)) (h : zF lo hi k f P p) : zQ act n tx lo hi k f ru P p 2 o M V := by
  intro mk vl vh hm hv
  have hb := (hT.2 p hp).2
  rw [zs_2 hT hp h1, zm_begins_bad (by omega) h2 h3 h4, z_b7_of, zs_bad]
  exact h _ _ _ _ _ _ _
theorem zr_and (hT : zTx T n tx) (p o : Nat) (M : List Nat) (V : List (Int64 × Int64)) (pa : Option (Int64 × Int64)) (v : (Int64 × Int64)) (hp : p < n) (hc : T p = 38) (ht : M.head? ≠ some 38) (h0 : zok o 1 M V) (h : zQ act n tx lo hi k f ru P (p + 1) 2 o (38 :: M) (z_pv pa v :: V)) : zQ act n tx lo hi k f ru P p 3 o (zmm 38 pa M) (v :: zvv pa V) := by
  intro mk vl vh hm hv
  obtain ⟨g1, g2, g3, g4, g5⟩ := h0
  obtain ⟨vl', vh', e, q1, q2⟩ := zg_and (m := 19997) (o := nI o) ht hm hv (by omega) (by omega) g5
  have e2 : zf_Q_goesOn (nI 38) (nI o) (nI (zmm 38 pa M).length) mk (nI (v :: zvv pa V).length) vl vh = some (1, nI o, nI (38 :: M).length, upd mk M.length (nI 38), nI (z_pv pa v :: V).length, vl', vh') := by
    unfold zf_Q_goesOn
    rw [if_pos (show nI 38 = (38 : Int32) by decide)]
    exact e.trans (zg_push (x := 38) (by decide) (by decide) (by omega))
  rw [zs_3 hT hp (by omega) (by omega), hc, e2, z_b7_of, zs_good (by decide) (by decide)]
  exact h _ _ _ (z_am_push _ q2) q1
theorem zr_or (hT : zTx T n tx) (p o : Nat) (M : List Nat) (V : List (Int64 × Int64)) (so pa : Option (Int64 × Int64)) (v : (Int64 × Int64)) (hp : p < n) (hc : T p = 124) (ht : z_top M) (h0 : zok o 0 M V) (h : zQ act n tx lo hi k f ru P (p + 1) 2 o (124 :: M) (z_sv so (z_pv pa v) :: V)) : zQ act n tx lo hi k f ru P p 3 o (zmm 38 pa (zmm 124 so M)) (v :: zvv pa (zvv so V)) := by
  intro mk vl vh hm hv
  obtain ⟨g1, g2, g3, g4, g5⟩ := h0
  obtain ⟨vl', vh', e, q1, q2⟩ := zg_red (m := 19997) (x1 := nI 124) (o := nI o) (by decide) ht hm hv (by omega) (by omega) g5
  have e2 : zf_Q_goesOn (nI 124) (nI o) (nI (zmm 38 pa (zmm 124 so M)).length) mk (nI (v :: zvv pa (zvv so V)).length) vl vh = some (1, nI o, nI (124 :: M).length, upd mk M.length (nI 124), nI (z_sv so (z_pv pa v) :: V).length, vl', vh') := by
    unfold zf_Q_goesOn
    rw [if_neg (show ¬ (nI 124 = (38 : Int32)) by decide), if_pos (show nI 124 = (124 : Int32) by decide)]
    exact e.trans (zg_push (x := 124) (by decide) (by decide) (by omega))
  rw [zs_3 hT hp (by omega) (by omega), hc, e2, z_b7_of, zs_good (by decide) (by decide)]
  exact h _ _ _ (z_am_push _ q2) q1
theorem zr_close (hT : zTx T n tx) (p o : Nat) (M : List Nat) (V : List (Int64 × Int64)) (so pa : Option (Int64 × Int64)) (v : (Int64 × Int64)) (hp : p < n) (hc : T p = 41) (h0 : zok (o + 1) 0 (40 :: M) V) (h : zQ act n tx lo hi k f ru P (p + 1) 3 (z_fin o M (z_sv so (z_pv pa v) :: V)).1 (z_fin o M (z_sv so (z_pv pa v) :: V)).2.1 (z_fin o M (z_sv so (z_pv pa v) :: V)).2.2) : zQ act n tx lo hi k f ru P p 3 (o + 1) (zmm 38 pa (zmm 124 so (40 :: M))) (v :: zvv pa (zvv so V)) := by
  intro mk vl vh hm hv
  obtain ⟨g1, g2, g3, g4, g5⟩ := h0
  rw [List.length_cons] at g2
  rw [List.count_cons_self, List.count_cons_of_ne (by decide)] at g4
  obtain ⟨vl', vh', e, q1, q2⟩ := zg_red (m := 19997) (x1 := nI 41) (o := nI (o + 1)) (by decide) (Or.inr ⟨M, rfl⟩) hm hv (by rw [List.length_cons]; omega) (by omega) g5
  have hw : zf_Q_waits 40 (nI (40 :: M).length) mk = some (if (40 :: M).head? = some 40 then 1 else 0) := zm_waits q2 (by rw [List.length_cons]; omega) (c := 40) (by decide) g5
  obtain ⟨vl2, vh2, e3, r1, r2⟩ := zm_finish (o := o) q2.2 q1 (by omega) (by omega) (fun x hx => g5 x (List.mem_cons_of_mem _ hx)) (by omega)
  have e2 : zf_Q_goesOn (nI 41) (nI (o + 1)) (nI (zmm 38 pa (zmm 124 so (40 :: M))).length) mk (nI (v :: zvv pa (zvv so V)).length) vl vh = some (1, nI (z_fin o M (z_sv so (z_pv pa v) :: V)).1, nI (z_fin o M (z_sv so (z_pv pa v) :: V)).2.1.length, mk, nI (z_fin o M (z_sv so (z_pv pa v) :: V)).2.2.length, vl2, vh2) := by
    unfold zf_Q_goesOn
    rw [if_neg (show ¬ (nI 41 = (38 : Int32)) by decide), if_neg (show ¬ (nI 41 = (124 : Int32)) by decide), if_pos (show nI 41 = (41 : Int32) by decide)]
    refine e.trans ?_
    unfold zf_Q_goesOn_51
    rw [if_pos (show nI 41 = (41 : Int32) by decide), hw, if_pos (by rfl), z_b1_of, z_i1, z_sub1, List.length_cons, z_sub1, e3, z_b5_of, z_gb1]
  rw [zs_3 hT hp (by omega) (by omega), hc, e2, z_b7_of, zs_good (by decide) (by decide)]
  exact h _ _ _ r1 r2
theorem zr_bad3 (hT : zTx T n tx) (p o : Nat) (M : List Nat) (V : List (Int64 × Int64)) (so pa : Option (Int64 × Int64)) (v : (Int64 × Int64)) (hp : p < n) (h1 : T p ≠ 32) (h2 : T p ≠ 38) (h3 : T p ≠ 124) (h4 : T p ≠ 41) (h0 : zok o 0 (40 :: M) V) (h : zF lo hi k f P p) : zQ act n tx lo hi k f ru P p 3 o (zmm 38 pa (zmm 124 so (40 :: M))) (v :: zvv pa (zvv so V)) := by
  intro mk vl vh hm hv
  have hb := (hT.2 p hp).2
  obtain ⟨g1, g2, g3, g4, g5⟩ := h0
  by_cases q : T p = 59
  · obtain ⟨m', vl', vh', e, q1, q2⟩ := ze_red (m := 19997) (x1 := act) (o := nI o) (ru := ru) (lo := lo) (hi := hi) hm hv (by omega) (by omega) g5
    have e2 : zf_Q_ends act lo hi (nI o) (nI (zmm 38 pa (zmm 124 so (40 :: M))).length) mk (nI (v :: zvv pa (zvv so V)).length) vl vh ru = some (0, lo, hi, nI o, nI (40 :: M).length, nI (z_sv so (z_pv pa v) :: V).length, vl', vh', ru) := e.trans (ze_stop q2 (by rw [List.length_cons] at g2; omega) g5)
    rw [zs_3e hT hp q, e2, z_b9_of, zs_bad]
    exact h _ _ _ _ _ _ _
  · rw [zs_3 hT hp h1 q, zm_goesOn_bad (by omega) h2 h3 h4, z_b7_of, zs_bad]
    exact h _ _ _ _ _ _ _
theorem zr_end3 (hT : zTx T n tx) (o : Nat) (M : List Nat) (V : List (Int64 × Int64)) (so pa : Option (Int64 × Int64)) (v : (Int64 × Int64)) (h0 : zok o 0 (40 :: M) V) (h : zF lo hi k f P n) : zQ act n tx lo hi k f ru P n 3 o (zmm 38 pa (zmm 124 so (40 :: M))) (v :: zvv pa (zvv so V)) := by
  intro mk vl vh hm hv
  obtain ⟨g1, g2, g3, g4, g5⟩ := h0
  obtain ⟨m', vl', vh', e, q1, q2⟩ := ze_red (m := 19997) (x1 := act) (o := nI o) (ru := ru) (lo := lo) (hi := hi) hm hv (by omega) (by omega) g5
  have e2 : zf_Q_ends act lo hi (nI o) (nI (zmm 38 pa (zmm 124 so (40 :: M))).length) mk (nI (v :: zvv pa (zvv so V)).length) vl vh ru = some (0, lo, hi, nI o, nI (40 :: M).length, nI (z_sv so (z_pv pa v) :: V).length, vl', vh', ru) := e.trans (ze_stop q2 (by rw [List.length_cons] at g2; omega) g5)
  rw [zs_n3 hT, e2, z_b9_of, z_i0]
  exact h _ _ _ _ _ _ _
theorem zr_top3 (hT : zTx T n tx) (p : Nat) (so pa : Option (Int64 × Int64)) (v : (Int64 × Int64)) (hp : p < n) (h1 : T p ≠ 32) (h2 : T p ≠ 38) (h3 : T p ≠ 124) (h4 : T p ≠ 59) (h : zF lo hi k f P p) : zQ act n tx lo hi k f ru P p 3 0 (zmm 38 pa (zmm 124 so [])) (v :: zvv pa (zvv so [])) := by
  intro mk vl vh hm hv
  have hb := (hT.2 p hp).2
  by_cases q : T p = 41
  · obtain ⟨vl', vh', e, q1, q2⟩ := zg_red (m := 19997) (x1 := nI 41) (o := nI 0) (by decide) (Or.inl rfl) hm hv (by decide) (by decide) (fun x hx => absurd hx (by simp))
    have e2 : zf_Q_goesOn (nI 41) (nI 0) (nI (zmm 38 pa (zmm 124 so [])).length) mk (nI (v :: zvv pa (zvv so [])).length) vl vh = some (0, nI 0, nI 0, mk, nI (z_sv so (z_pv pa v) :: []).length, vl', vh') := by
      unfold zf_Q_goesOn
      rw [if_neg (show ¬ (nI 41 = (38 : Int32)) by decide), if_neg (show ¬ (nI 41 = (124 : Int32)) by decide), if_pos (show nI 41 = (41 : Int32) by decide)]
      refine e.trans ?_
      unfold zf_Q_goesOn_51
      rw [if_pos (show nI 41 = (41 : Int32) by decide)]
      rfl
    rw [zs_3 hT hp h1 h4, q, e2, z_b7_of, zs_bad]
    exact h _ _ _ _ _ _ _
  · rw [zs_3 hT hp h1 h4, zm_goesOn_bad (by omega) h2 h3 q, z_b7_of, zs_bad]
    exact h _ _ _ _ _ _ _
theorem zr_comma (hT : zTx T n tx) (p o : Nat) (M : List Nat) (V : List (Int64 × Int64)) (hp : p < n) (hc : T p = 44) (h : zQ act n tx lo hi k f ru P (p + 1) 2 o M V) : zQ act n tx lo hi k f ru P p 1 o M V := by
  intro mk vl vh hm hv
  rw [zs_1 hT hp (by omega), hc, if_pos rfl, zs_good (by decide) (by decide)]
  exact h _ _ _ hm hv
theorem zr_bad1 (hT : zTx T n tx) (p o : Nat) (M : List Nat) (V : List (Int64 × Int64)) (hp : p < n) (h1 : T p ≠ 32) (h2 : T p ≠ 44) (h : zF lo hi k f P p) : zQ act n tx lo hi k f ru P p 1 o M V := by
  intro mk vl vh hm hv
  rw [zs_1 hT hp h1, if_neg h2, zs_bad]
  exact h _ _ _ _ _ _ _
theorem zm_rows (hT : zTx T n tx) (hk : k ≤ 7) : zRows T n (z_vl k f) (zQ act n tx lo hi k f ru P) (zF lo hi k f P) :=
  ⟨fun p st o M V hp hc h mk vl vh hm hv => by
      rw [zs_blank hT hp hc]
      exact h _ _ _ hm hv,
    zr_end2 hT (by decide), zr_op hT, zr_op12 hT, zr_leaf hT hk, zr_bad2 hT, zr_and hT, zr_or hT, zr_close hT, zr_bad3 hT, zr_end3 hT, zr_top3 hT, zr_comma hT, zr_bad1 hT, zr_end2 hT (by decide)⟩
end
