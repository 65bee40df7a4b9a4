/-! ===== a rule of the class ===== -/
def zrd (code : Nat → Int32) (a : Nat) : List Nat → Prop
  | [] => True
  | k :: ks => code a = nI k ∧ zrd code (a + 1) ks
theorem zwr_lo : ∀ (ks : List Nat) (code : Nat → Int32) (cl i : Nat), i < cl → zwr code cl ks i = code i := by
  intro ks
  induction ks with
  | nil => intro code cl i _; rfl
  | cons k ks ih =>
    intro code cl i h
    show zwr (upd code cl (nI k)) (cl + 1) ks i = code i
    rw [ih _ _ _ (by omega), pk_un (by omega)]
theorem zrd_wr : ∀ (ks : List Nat) (code : Nat → Int32) (cl : Nat), zrd (zwr code cl ks) cl ks := by
  intro ks
  induction ks with
  | nil => intro code cl; trivial
  | cons k ks ih =>
    intro code cl
    refine ⟨?_, ih _ _⟩
    show zwr (upd code cl (nI k)) (cl + 1) ks cl = nI k
    rw [zwr_lo _ _ _ _ (by omega), pk_us]
theorem zrd_keep {ks : List Nat} {code : Nat → Int32} {cl : Nat} : ∀ (l : List Nat) (a : Nat), a + l.length ≤ cl → zrd code a l → zrd (zwr code cl ks) a l := by
  intro l
  induction l with
  | nil => intro a _ _; trivial
  | cons k l ih =>
    intro a h h2
    rw [List.length_cons] at h
    exact ⟨by rw [zwr_lo _ _ _ _ (by omega)]; exact h2.1, ih (a + 1) (by omega) h2.2⟩
def zRule (code en fu : Nat → Int32) (cl g : Nat) (w : (Nat → (Int64 × Int64)) → (Int64 × Int64)) : Prop := ∃ a ks, (if g = 0 then 0 else en (g - 1)) = nI a ∧ en g = nI (a + ks.length) ∧ a + ks.length ≤ cl ∧ zrd code a ks ∧ (∀ val s, zev val ks s = some (w val :: s)) ∧ zlv ks fu
def zBase (T : Nat → Nat) (n : Nat) (fu0 : Nat → Int32) (j q : Nat) (nm code : Nat → Int32) (cl : Nat) (en fu : Nat → Int32) (wf : Nat → (Nat → (Int64 × Int64)) → (Int64 × Int64)) (b : Bool) : Prop :=
  j ≤ 7 ∧ q ≤ n ∧ cl ≤ q ∧ (if j = 0 then 0 else en (j - 1)) = nI cl ∧ (∀ g, g < j → (∃ c, z_isn c = true ∧ nm g = nI c) ∧ zRule code en fu cl g (wf g)) ∧ zsr T 0 q (false, fu0) (b, fu)
def zLo (wf : Nat → (Nat → (Int64 × Int64)) → (Int64 × Int64)) (val : Nat → (Int64 × Int64)) (j : Nat) (lo : Nat → Int64) : Nat → Int64 := fun i => if i < j then (wf i val).1 else lo i
def zHi (wf : Nat → (Nat → (Int64 × Int64)) → (Int64 × Int64)) (val : Nat → (Int64 × Int64)) (j : Nat) (hi : Nat → Int64) : Nat → Int64 := fun i => if i < j then (wf i val).2 else hi i
theorem zLo_s {wf : Nat → (Nat → (Int64 × Int64)) → (Int64 × Int64)} {val : Nat → (Int64 × Int64)} {j : Nat} {lo : Nat → Int64} : vp_updL (zLo wf val j lo) j (wf j val).1 = zLo wf val (j + 1) lo := by
  funext i
  unfold zLo
  by_cases q : i = j
  · rw [q, pk_uLs, if_pos (by omega)]
  · rw [pk_uLn q]
    by_cases r : i < j
    · rw [if_pos r, if_pos (by omega)]
    · rw [if_neg r, if_neg (by omega)]
theorem zHi_s {wf : Nat → (Nat → (Int64 × Int64)) → (Int64 × Int64)} {val : Nat → (Int64 × Int64)} {j : Nat} {hi : Nat → Int64} : vp_updL (zHi wf val j hi) j (wf j val).2 = zHi wf val (j + 1) hi := by
  funext i
  unfold zHi
  by_cases q : i = j
  · rw [q, pk_uLs, if_pos (by omega)]
  · rw [pk_uLn q]
    by_cases r : i < j
    · rw [if_pos r, if_pos (by omega)]
    · rw [if_neg r, if_neg (by omega)]
def zwx (wf : Nat → (Nat → (Int64 × Int64)) → (Int64 × Int64)) (j : Nat) (w : (Nat → (Int64 × Int64)) → (Int64 × Int64)) : Nat → (Nat → (Int64 × Int64)) → (Int64 × Int64) := fun g => if g = j then w else wf g
theorem zLo_x {wf : Nat → (Nat → (Int64 × Int64)) → (Int64 × Int64)} {val : Nat → (Int64 × Int64)} {j : Nat} {lo : Nat → Int64} {w : (Nat → (Int64 × Int64)) → (Int64 × Int64)} : zLo (zwx wf j w) val j lo = zLo wf val j lo := by
  funext i
  unfold zLo zwx
  by_cases r : i < j
  · rw [if_pos r, if_pos r, if_neg (by omega)]
  · rw [if_neg r, if_neg r]
theorem zHi_x {wf : Nat → (Nat → (Int64 × Int64)) → (Int64 × Int64)} {val : Nat → (Int64 × Int64)} {j : Nat} {hi : Nat → Int64} {w : (Nat → (Int64 × Int64)) → (Int64 × Int64)} : zHi (zwx wf j w) val j hi = zHi wf val j hi := by
  funext i
  unfold zHi zwx
  by_cases r : i < j
  · rw [if_pos r, if_pos r, if_neg (by omega)]
  · rw [if_neg r, if_neg r]
/-- before a rule: what both runs of the reference have done -/
def zI0 (T : Nat → Nat) (n : Nat) (tx fu0 : Nat → Int32) (j q : Nat) (nm code : Nat → Int32) (cl : Nat) (en fu : Nat → Int32) (wf : Nat → (Nat → (Int64 × Int64)) → (Int64 × Int64)) : Prop :=
  zBase T n fu0 j q nm code cl en fu wf false ∧
  (∀ lo hi P nn0, ∃ nn, (∀ i, i < j → nn i = nm i) ∧ (zQ 0 n tx lo hi j nn (nI j) P q 0 0 [] [] → zQ 0 n tx lo hi 0 nn0 0 P 0 0 0 [] [])) ∧
  (∀ k f lo hi P, k ≤ 7 → zQ 1 n tx (zLo wf (z_vl k f) j lo) (zHi wf (z_vl k f) j hi) k f (nI j) P q 0 0 [] [] → zQ 1 n tx lo hi k f 0 P 0 0 0 [] [])
/-- behind a rule's sum -/
def zI3 (T : Nat → Nat) (n : Nat) (tx fu0 : Nat → Int32) (j q : Nat) (nm code : Nat → Int32) (cl : Nat) (en fu : Nat → Int32) (wf : Nat → (Nat → (Int64 × Int64)) → (Int64 × Int64)) : Prop :=
  zBase T n fu0 (j + 1) q nm code cl en fu wf true ∧ (q < n → T q ≠ 32 ∧ T q ≠ 38 ∧ T q ≠ 124) ∧
  (∀ lo hi P nn0, ∃ nn so pa v, (∀ i, i < j + 1 → nn i = nm i) ∧ (zQ 0 n tx lo hi (j + 1) nn (nI j) P q 3 0 (zmm 38 pa (zmm 124 so [])) (v :: zvv pa (zvv so [])) → zQ 0 n tx lo hi 0 nn0 0 P 0 0 0 [] [])) ∧
  (∀ k f lo hi P, k ≤ 7 → ∃ so pa v, z_sv so (z_pv pa v) = wf j (z_vl k f) ∧ (zQ 1 n tx (zLo wf (z_vl k f) j lo) (zHi wf (z_vl k f) j hi) k f (nI j) P q 3 0 (zmm 38 pa (zmm 124 so [])) (v :: zvv pa (zvv so [])) → zQ 1 n tx lo hi k f 0 P 0 0 0 [] []))
section
variable {T : Nat → Nat} {n : Nat} {tx : Nat → Int32} {lo hi : Nat → Int64} {f : Nat → Int32} {k : Nat} {ru : Int32} {P : (Option (Int32 × (Nat → Int64) × (Nat → Int64) × Int32 × (Nat → Int32) × Int32 × Int32 × (Nat → Int32) × Int32 × (Nat → Int64) × (Nat → Int64) × Int32)) → Prop}
theorem zs_0 {act : Int32} {p : Nat} {k ne ma va : Int32} {mk : Nat → Int32} {vl vh : Nat → Int64} (hT : zTx T n tx) (hp : p < n) (hc : T p ≠ 32) : zf_Q_scan_24 (z_FU - p) act (nI 0) (nI p) (nI n) tx lo hi k f ne ma mk va vl vh ru =
    if z_isn (T p) = true then (if act = 0 then z_b3 (zf_Q_isNew (nI (T p)) k f) fun r a b => zf_Q_scan_135 (zf_Q_scan_24 (z_FU - (p + 1))) act (nI 0) (nI p) (nI (T p)) (if r = 0 then 0 else 1) (nI n) tx lo hi a b ne ma mk va vl vh ru else zf_Q_scan_135 (zf_Q_scan_24 (z_FU - (p + 1))) act (nI 0) (nI p) (nI (T p)) 1 (nI n) tx lo hi k f ne ma mk va vl vh ru)
    else zf_Q_scan_135 (zf_Q_scan_24 (z_FU - (p + 1))) act (nI 0) (nI p) (nI (T p)) 0 (nI n) tx lo hi k f ne ma mk va vl vh ru := by
  have h240 := hT.1
  have hb := (hT.2 p hp).2
  have h32 : ¬ (nI (T p) = (32 : Int32)) := z_nek 32 (by omega) (by decide) hc
  rw [z_fu (by omega), zf_Q_scan_24, if_neg (fun q => absurd ((nI_leI (by omega) (by omega)).mp q) (by omega)), z_gd_n (by omega) (by decide), nI_clamp (by omega), (hT.2 p hp).1, if_neg h32, if_pos (show nI 0 = (0 : Int32) by decide), zm_Q_isName (by omega), z_b1_of]
  by_cases q : z_isn (T p) = true
  · rw [if_pos q, if_pos q, z_i1]
    by_cases r : act = 0
    · rw [if_pos r, if_pos r]
      cases zf_Q_isNew (nI (T p)) k f with
      | none => rfl
      | some t =>
        obtain ⟨t1, t2, t3⟩ := t
        show (if t1 = 0 then _ else _) = zf_Q_scan_135 _ _ _ _ _ (if t1 = 0 then 0 else 1) _ _ _ _ _ _ _ _ _ _ _ _ _
        by_cases s : t1 = 0
        · rw [if_pos s, if_pos s]
          rfl
        · rw [if_neg s, if_neg s]
          rfl
    · rw [if_neg r, if_neg r]
      rfl
  · rw [if_neg q, if_neg q, z_i0]
    rfl
theorem zr_name0 {nn : Nat → Int32} {j p : Nat} (hT : zTx T n tx) (hp : p < n) (hc : z_isn (T p) = true) (hj : j < 7) (h0 : z_find nn (nI (T p)) j 0 = -1) (h : zQ 0 n tx lo hi (j + 1) (upd nn j (nI (T p))) ru P (p + 1) 1 0 [] []) : zQ 0 n tx lo hi j nn ru P p 0 0 [] [] := by
  intro mk vl vh hm hv
  have hb := z_isn_t hc
  have h7 : ¬ (nI j = (7 : Int32)) := z_nek 7 (by omega) (by decide) (by omega)
  have e : zf_Q_isNew (nI (T p)) (nI j) nn = some (1, nI (j + 1), upd nn j (nI (T p))) := by
    unfold zf_Q_isNew
    rw [zm_newGene nn _ (by omega), h0, z_b1_of, if_pos (by rfl), if_neg h7, z_gd_n hj (by decide), z_gb1, nI_clamp (by omega), show nI j + (1 : Int32) = nI (j + 1) from nI_1 j]
  rw [zs_0 hT hp (by omega), if_pos hc, if_pos (by rfl), e, z_b3_of, z_i1, zs_good (by decide) (by omega)]
  exact h _ _ _ hm hv
theorem zr_name0_bad {nn : Nat → Int32} {j p : Nat} (hT : zTx T n tx) (hp : p < n) (h32 : T p ≠ 32) (hj : j ≤ 7) (h0 : z_isn (T p) = true → 7 ≤ j ∨ z_find nn (nI (T p)) j 0 ≠ -1) (h : zF lo hi j nn P p) : zQ 0 n tx lo hi j nn ru P p 0 0 [] [] := by
  intro mk vl vh hm hv
  by_cases q : z_isn (T p) = true
  · have e : zf_Q_isNew (nI (T p)) (nI j) nn = some (0, nI j, nn) := by
      unfold zf_Q_isNew
      rw [zm_newGene nn _ (by omega), z_b1_of]
      by_cases r : z_find nn (nI (T p)) j 0 = -1
      · obtain rfl : j = 7 := by
          rcases h0 q with z | z
          · omega
          · exact absurd r z
        rw [if_pos r, if_pos (by rfl), z_gb0]
      · rw [if_neg r, z_gb0]
    rw [zs_0 hT hp h32, if_pos q, if_pos (by rfl), e, z_b3_of, z_i0, zs_bad]
    exact h _ _ _ _ _ _ _
  · rw [zs_0 hT hp h32, if_neg q, zs_bad]
    exact h _ _ _ _ _ _ _
theorem zr_name1 {p : Nat} (hT : zTx T n tx) (hp : p < n) (hc : z_isn (T p) = true) (h : zQ 1 n tx lo hi k f ru P (p + 1) 1 0 [] []) : zQ 1 n tx lo hi k f ru P p 0 0 [] [] := by
  intro mk vl vh hm hv
  have hb := z_isn_t hc
  rw [zs_0 hT hp (by omega), if_pos hc, if_neg (by decide), zs_good (by decide) (by omega)]
  exact h _ _ _ hm hv
theorem ze_top {act o : Int32} {mk : Nat → Int32} {vl vh : Nat → Int64} {so pa : Option (Int64 × Int64)} {v : (Int64 × Int64)} (h : z_am mk (zmm 38 pa (zmm 124 so []))) (hv : z_av vl vh (v :: zvv pa (zvv so []))) {j : Nat} (hj : j < 7) :
    ∃ vl' vh', zf_Q_ends act lo hi o (nI (zmm 38 pa (zmm 124 so [])).length) mk (nI (v :: zvv pa (zvv so [])).length) vl vh (nI j) = some (1, (if act = 0 then lo else vp_updL lo j (z_sv so (z_pv pa v)).1), (if act = 0 then hi else vp_updL hi j (z_sv so (z_pv pa v)).2), o, nI 0, nI 0, vl', vh', nI (j + 1)) := by
  obtain ⟨m', vl', vh', e, q1, q2⟩ := ze_red (m := 19997) (x1 := act) (o := o) (ru := nI j) (lo := lo) (hi := hi) h hv (by decide) (by decide) (fun x hx => absurd hx (by simp))
  refine ⟨vl', vh', e.trans ?_⟩
  have w1 : zf_Q_waits 38 (nI ([] : List Nat).length) mk = some 0 := rfl
  have w2 : zf_Q_waits 124 (nI ([] : List Nat).length) mk = some 0 := rfl
  rw [zf_Q_ends_0, w1, w2, z_b1_of, z_i0, z_b1_of, z_i0, if_pos (show nI ([] : List Nat).length ≤ 0 by decide)]
  unfold zf_Q_ends_73
  have hl : vl' 0 = (z_sv so (z_pv pa v)).1 := q1.1
  have hh : vh' 0 = (z_sv so (z_pv pa v)).2 := q1.2.1
  by_cases r : act = 0
  · rw [if_pos r, if_pos r, if_pos r, z_gb1, show nI j + (1 : Int32) = nI (j + 1) from nI_1 j]
    rfl
  · rw [if_neg r, if_neg r, if_neg r, show (0 : Int32) = nI 0 from rfl, z_gd_n (j := 0) (by decide) (by decide), z_gd_n hj (by decide), z_gd_n (j := 0) (by decide) (by decide), z_gd_n hj (by decide), nI_clamp (n := 0) (by decide), nI_clamp (n := j) (by omega), hl, hh, z_gb1, show nI j + (1 : Int32) = nI (j + 1) from nI_1 j]
    rfl
end
