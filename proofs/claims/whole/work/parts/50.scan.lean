/-! ===== the rows of a scan ===== -/
def zRows (T : Nat → Nat) (n : Nat) (val : Nat → (Int64 × Int64)) (Q : Nat → Nat → Nat → List Nat → List (Int64 × Int64) → Prop) (F : Nat → Prop) : Prop :=
  (∀ p st o M V, p < n → T p = 32 → Q (p + 1) st o M V → Q p st o M V) ∧
  (∀ o M V, F n → Q n 2 o M V) ∧
  (∀ p o M V, p < n → (T p = 33 ∨ T p = 40) → o < 12 → M.length < 60 → Q (p + 1) 2 (o + 1) (T p :: M) V → Q p 2 o M V) ∧
  (∀ p M V, p < n → (T p = 33 ∨ T p = 40) → F p → Q p 2 12 M V) ∧
  (∀ p o M V, p < n → z_lf (T p) → zok o 2 M V → Q (p + 1) 3 (z_fin o M (val (T p) :: V)).1 (z_fin o M (val (T p) :: V)).2.1 (z_fin o M (val (T p) :: V)).2.2 → Q p 2 o M V) ∧
  (∀ p o M V, p < n → T p ≠ 32 → T p ≠ 33 → T p ≠ 40 → ¬ z_lf (T p) → F p → Q p 2 o M V) ∧
  (∀ p o M V pa v, p < n → T p = 38 → M.head? ≠ some 38 → zok o 1 M V → Q (p + 1) 2 o (38 :: M) (z_pv pa v :: V) → Q p 3 o (zmm 38 pa M) (v :: zvv pa V)) ∧
  (∀ p o M V so pa v, p < n → T p = 124 → z_top M → zok o 0 M V → Q (p + 1) 2 o (124 :: M) (z_sv so (z_pv pa v) :: V) → Q p 3 o (zmm 38 pa (zmm 124 so M)) (v :: zvv pa (zvv so V))) ∧
  (∀ p o M V so pa v, p < n → T p = 41 → zok (o + 1) 0 (40 :: M) V → Q (p + 1) 3 (z_fin o M (z_sv so (z_pv pa v) :: V)).1 (z_fin o M (z_sv so (z_pv pa v) :: V)).2.1 (z_fin o M (z_sv so (z_pv pa v) :: V)).2.2 → Q p 3 (o + 1) (zmm 38 pa (zmm 124 so (40 :: M))) (v :: zvv pa (zvv so V))) ∧
  (∀ p o M V so pa v, p < n → T p ≠ 32 → T p ≠ 38 → T p ≠ 124 → T p ≠ 41 → zok o 0 (40 :: M) V → F p → Q p 3 o (zmm 38 pa (zmm 124 so (40 :: M))) (v :: zvv pa (zvv so V))) ∧
  (∀ o M V so pa v, zok o 0 (40 :: M) V → F n → Q n 3 o (zmm 38 pa (zmm 124 so (40 :: M))) (v :: zvv pa (zvv so V))) ∧
  (∀ p so pa v, p < n → T p ≠ 32 → T p ≠ 38 → T p ≠ 124 → T p ≠ 59 → F p → Q p 3 0 (zmm 38 pa (zmm 124 so [])) (v :: zvv pa (zvv so []))) ∧
  (∀ p o M V, p < n → T p = 44 → Q (p + 1) 2 o M V → Q p 1 o M V) ∧
  (∀ p o M V, p < n → T p ≠ 32 → T p ≠ 44 → F p → Q p 1 o M V) ∧
  (∀ o M V, F n → Q n 1 o M V)
def zQ (act : Int32) (n : Nat) (tx : Nat → Int32) (lo hi : Nat → Int64) (k : Nat) (f : Nat → Int32) (ru : Int32) (P : (Option (Int32 × (Nat → Int64) × (Nat → Int64) × Int32 × (Nat → Int32) × Int32 × Int32 × (Nat → Int32) × Int32 × (Nat → Int64) × (Nat → Int64) × Int32)) → Prop) (p st o : Nat) (M : List Nat) (V : List (Int64 × Int64)) : Prop :=
  ∀ mk vl vh, z_am mk M → z_av vl vh V → P (zf_Q_scan_24 (z_FU - p) act (nI st) (nI p) (nI n) tx lo hi (nI k) f (nI o) (nI M.length) mk (nI V.length) vl vh ru)
def zF (lo hi : Nat → Int64) (k : Nat) (f : Nat → Int32) (P : (Option (Int32 × (Nat → Int64) × (Nat → Int64) × Int32 × (Nat → Int32) × Int32 × Int32 × (Nat → Int32) × Int32 × (Nat → Int64) × (Nat → Int64) × Int32)) → Prop) (p : Nat) : Prop :=
  ∀ a b mk c vl vh ru, P (some (nI (p + 1), lo, hi, nI k, f, a, b, mk, c, vl, vh, ru))
def zTx (T : Nat → Nat) (n : Nat) (tx : Nat → Int32) : Prop := n ≤ 240 ∧ ∀ i, i < n → tx i = nI (T i) ∧ 32 ≤ T i ∧ T i ≤ 126
section
variable {act : Int32} {n : Nat} {tx : Nat → Int32} {lo hi : Nat → Int64} {f : Nat → Int32} {k : Int32} {ne ma va ru : Int32} {mk : Nat → Int32} {vl vh : Nat → Int64} {T : Nat → Nat}
theorem zs_blank {st : Int32} (hT : zTx T n tx) {p : Nat} (hp : p < n) (hc : T p = 32) : zf_Q_scan_24 (z_FU - p) act st (nI p) (nI n) tx lo hi k f ne ma mk va vl vh ru = zf_Q_scan_24 (z_FU - (p + 1)) act st (nI (p + 1)) (nI n) tx lo hi k f ne ma mk va vl vh ru := by
  have h240 := hT.1
  rw [z_fu (by omega), zf_Q_scan_24, if_neg (fun q => absurd ((nI_leI (by omega) (by omega)).mp q) (by omega)), z_gd_n (by omega) (by decide), nI_clamp (by omega), (hT.2 p hp).1, hc, if_pos (by rfl), show nI p + (1 : Int32) = nI (p + 1) from nI_1 p]
theorem zs_2 (hT : zTx T n tx) {p : Nat} (hp : p < n) (hc : T p ≠ 32) : zf_Q_scan_24 (z_FU - p) act (nI 2) (nI p) (nI n) tx lo hi k f ne ma mk va vl vh ru = z_b7 (zf_Q_begins (nI (T p)) k f ne ma mk va vl vh) fun r4 a b m d e g => zf_Q_scan_135 (zf_Q_scan_24 (z_FU - (p + 1))) act (nI 2) (nI p) (nI (T p)) r4 (nI n) tx lo hi k f a b m d e g ru := by
  have h240 := hT.1
  have hb := (hT.2 p hp).2
  have h32 : ¬ (nI (T p) = (32 : Int32)) := z_nek 32 (by omega) (by decide) hc
  rw [z_fu (by omega), zf_Q_scan_24, if_neg (fun q => absurd ((nI_leI (by omega) (by omega)).mp q) (by omega)), z_gd_n (by omega) (by decide), nI_clamp (by omega), (hT.2 p hp).1, if_neg h32, if_neg (show ¬ (nI 2 = (0 : Int32)) by decide), if_neg (show ¬ (nI 2 = (1 : Int32)) by decide), if_pos (show nI 2 = (2 : Int32) by decide)]
theorem zs_1 (hT : zTx T n tx) {p : Nat} (hp : p < n) (hc : T p ≠ 32) : zf_Q_scan_24 (z_FU - p) act (nI 1) (nI p) (nI n) tx lo hi k f ne ma mk va vl vh ru = zf_Q_scan_135 (zf_Q_scan_24 (z_FU - (p + 1))) act (nI 1) (nI p) (nI (T p)) (if T p = 44 then 1 else 0) (nI n) tx lo hi k f ne ma mk va vl vh ru := by
  have h240 := hT.1
  have hb := (hT.2 p hp).2
  have h32 : ¬ (nI (T p) = (32 : Int32)) := z_nek 32 (by omega) (by decide) hc
  rw [z_fu (by omega), zf_Q_scan_24, if_neg (fun q => absurd ((nI_leI (by omega) (by omega)).mp q) (by omega)), z_gd_n (by omega) (by decide), nI_clamp (by omega), (hT.2 p hp).1, if_neg h32, if_neg (show ¬ (nI 1 = (0 : Int32)) by decide), if_pos (show nI 1 = (1 : Int32) by decide)]
  by_cases q : T p = 44
  · rw [q, if_pos (show nI 44 = (44 : Int32) by decide), if_pos (by rfl)]
  · rw [if_neg (show ¬ (nI (T p) = (44 : Int32)) from z_nek 44 (by omega) (by decide) q), if_neg q]
theorem zs_3 (hT : zTx T n tx) {p : Nat} (hp : p < n) (hc : T p ≠ 32) (h59 : T p ≠ 59) : zf_Q_scan_24 (z_FU - p) act (nI 3) (nI p) (nI n) tx lo hi k f ne ma mk va vl vh ru = z_b7 (zf_Q_goesOn (nI (T p)) ne ma mk va vl vh) fun r4 a b m d e g => zf_Q_scan_135 (zf_Q_scan_24 (z_FU - (p + 1))) act (nI 3) (nI p) (nI (T p)) r4 (nI n) tx lo hi k f a b m d e g ru := by
  have h240 := hT.1
  have hb := (hT.2 p hp).2
  have h32 : ¬ (nI (T p) = (32 : Int32)) := z_nek 32 (by omega) (by decide) hc
  have h59' : ¬ (nI (T p) = (59 : Int32)) := z_nek 59 (by omega) (by decide) h59
  rw [z_fu (by omega), zf_Q_scan_24, if_neg (fun q => absurd ((nI_leI (by omega) (by omega)).mp q) (by omega)), z_gd_n (by omega) (by decide), nI_clamp (by omega), (hT.2 p hp).1, if_neg h32, if_neg (show ¬ (nI 3 = (0 : Int32)) by decide), if_neg (show ¬ (nI 3 = (1 : Int32)) by decide), if_neg (show ¬ (nI 3 = (2 : Int32)) by decide), if_neg h59']
theorem zs_3e (hT : zTx T n tx) {p : Nat} (hp : p < n) (h59 : T p = 59) : zf_Q_scan_24 (z_FU - p) act (nI 3) (nI p) (nI n) tx lo hi k f ne ma mk va vl vh ru = z_b9 (zf_Q_ends act lo hi ne ma mk va vl vh ru) fun r3 l h a b d e g u => zf_Q_scan_135 (zf_Q_scan_24 (z_FU - (p + 1))) act (nI 3) (nI p) (nI 59) r3 (nI n) tx l h k f a b mk d e g u := by
  have h240 := hT.1
  rw [z_fu (by omega), zf_Q_scan_24, if_neg (fun q => absurd ((nI_leI (by omega) (by omega)).mp q) (by omega)), z_gd_n (by omega) (by decide), nI_clamp (by omega), (hT.2 p hp).1, h59, if_neg (show ¬ (nI 59 = (32 : Int32)) by decide), if_neg (show ¬ (nI 3 = (0 : Int32)) by decide), if_neg (show ¬ (nI 3 = (1 : Int32)) by decide), if_neg (show ¬ (nI 3 = (2 : Int32)) by decide), if_pos (show nI 59 = (59 : Int32) by decide)]
theorem zs_n3 (hT : zTx T n tx) : zf_Q_scan_24 (z_FU - n) act (nI 3) (nI n) (nI n) tx lo hi k f ne ma mk va vl vh ru = z_b9 (zf_Q_ends act lo hi ne ma mk va vl vh ru) fun r1 l h a b d e g u => if r1 = 0 then some (nI (n + 1), l, h, k, f, a, b, mk, d, e, g, u) else some ((0 : Int32), l, h, k, f, a, b, mk, d, e, g, u) := by
  have h240 := hT.1
  rw [z_fu (by omega), zf_Q_scan_24, if_pos ((nI_leI (by omega) (by omega)).mpr (by omega)), if_pos (show nI 3 = (3 : Int32) by decide)]
  unfold zf_Q_scan_237
  rw [show nI n + (1 : Int32) = nI (n + 1) from nI_1 n]
theorem zs_n {st : Nat} (hT : zTx T n tx) (hs : st < 3) : zf_Q_scan_24 (z_FU - n) act (nI st) (nI n) (nI n) tx lo hi k f ne ma mk va vl vh ru = some (nI (n + 1), lo, hi, k, f, ne, ma, mk, va, vl, vh, ru) := by
  have h240 := hT.1
  have h3 : ¬ (nI st = (3 : Int32)) := z_nek 3 (by omega) (by decide) (by omega)
  rw [z_fu (by omega), zf_Q_scan_24, if_pos ((nI_leI (by omega) (by omega)).mpr (by omega)), if_neg h3]
  unfold zf_Q_scan_237
  rw [show nI n + (1 : Int32) = nI (n + 1) from nI_1 n]
variable {K : Int32 → Int32 → Int32 → Int32 → (Nat → Int32) → (Nat → Int64) → (Nat → Int64) → Int32 → (Nat → Int32) → Int32 → Int32 → (Nat → Int32) → Int32 → (Nat → Int64) → (Nat → Int64) → Int32 → (Option (Int32 × (Nat → Int64) × (Nat → Int64) × Int32 × (Nat → Int32) × Int32 × Int32 × (Nat → Int32) × Int32 × (Nat → Int64) × (Nat → Int64) × Int32))} {st c : Int32}
theorem zs_bad {p : Nat} : zf_Q_scan_135 K act st (nI p) c 0 (nI n) tx lo hi k f ne ma mk va vl vh ru = some (nI (p + 1), lo, hi, k, f, ne, ma, mk, va, vl, vh, ru) := by
  unfold zf_Q_scan_135
  rw [z_i0, show nI p + (1 : Int32) = nI (p + 1) from nI_1 p]
/-- the next state -/
def z_nx (st c : Nat) : Nat := if st = 0 then 1 else if st = 1 then 2 else if st = 2 then (if c = 33 ∨ c = 40 then 2 else 3) else if c = 59 then 0 else if c = 41 then 3 else 2
theorem zs_good {p st c : Nat} (hs : st < 4) (hc : c < 1000) : zf_Q_scan_135 K act (nI st) (nI p) (nI c) 1 (nI n) tx lo hi k f ne ma mk va vl vh ru = K act (nI (z_nx st c)) (nI (p + 1)) (nI n) tx lo hi k f ne ma mk va vl vh ru := by
  have e33 : (nI c = (33 : Int32)) ↔ c = 33 := nI_eq (b := 33) (by omega) (by decide)
  have e40 : (nI c = (40 : Int32)) ↔ c = 40 := nI_eq (b := 40) (by omega) (by decide)
  have e41 : (nI c = (41 : Int32)) ↔ c = 41 := nI_eq (b := 41) (by omega) (by decide)
  have e59 : (nI c = (59 : Int32)) ↔ c = 59 := nI_eq (b := 59) (by omega) (by decide)
  have s0 : (nI st = (0 : Int32)) ↔ st = 0 := nI_eq (b := 0) (by omega) (by decide)
  have s1 : (nI st = (1 : Int32)) ↔ st = 1 := nI_eq (b := 1) (by omega) (by decide)
  have s2 : (nI st = (2 : Int32)) ↔ st = 2 := nI_eq (b := 2) (by omega) (by decide)
  unfold zf_Q_scan_135 zf_Q_scan_182 zf_Q_scan_213 z_nx
  rw [z_i1, show nI p + (1 : Int32) = nI (p + 1) from nI_1 p]
  simp only [e33, e40, e41, e59, s0, s1, s2]
  by_cases q0 : st = 0
  · simp only [if_pos q0]
    rfl
  simp only [if_neg q0]
  by_cases q1 : st = 1
  · simp only [if_pos q1]
    rfl
  simp only [if_neg q1]
  by_cases q2 : st = 2
  · simp only [if_pos q2]
    by_cases r1 : c = 33
    · simp only [if_pos r1, if_pos (show c = 33 ∨ c = 40 from Or.inl r1)]
      rfl
    by_cases r2 : c = 40
    · simp only [if_neg r1, if_pos r2, if_pos (show c = 33 ∨ c = 40 from Or.inr r2)]
      rfl
    · simp only [if_neg r1, if_neg r2, if_neg (show ¬ (c = 33 ∨ c = 40) by omega)]
      rfl
  simp only [if_neg q2]
  by_cases r1 : c = 59
  · simp only [if_pos r1]
    rfl
  by_cases r2 : c = 41
  · simp only [if_neg r1, if_pos r2]
    rfl
  · simp only [if_neg r1, if_neg r2]
    rfl
end
theorem zm_begins_op {c o : Nat} {k : Int32} {f : Nat → Int32} {M : List Nat} {mk : Nat → Int32} {va : Int32} {vl vh : Nat → Int64} (hc : c = 33 ∨ c = 40) (ho : o < 12) (hM : M.length < 60) : zf_Q_begins (nI c) k f (nI o) (nI M.length) mk va vl vh = some (1, nI (o + 1), nI (c :: M).length, upd mk M.length (nI c), va, vl, vh) := by
  have h12 : ¬ (nI o = (12 : Int32)) := z_nek 12 (by omega) (by decide) (by omega)
  have e : zf_Q_begins_12 (nI c) k f (nI o) (nI M.length) mk va vl vh = some (1, nI (o + 1), nI (c :: M).length, upd mk M.length (nI c), va, vl, vh) := by
    unfold zf_Q_begins_12
    rw [if_neg h12, z_gd_n (by omega) (by decide), z_gb1, nI_clamp (by omega), show nI o + (1 : Int32) = nI (o + 1) from nI_1 _, show nI M.length + (1 : Int32) = nI (c :: M).length from nI_1 _]
  unfold zf_Q_begins
  rcases hc with rfl | rfl
  · rw [if_pos (by rfl)]
    exact e
  · rw [if_neg (by decide), if_pos (by rfl)]
    exact e
theorem zm_begins_12 {c : Nat} {k : Int32} {f : Nat → Int32} {ma : Int32} {mk : Nat → Int32} {va : Int32} {vl vh : Nat → Int64} (hc : c = 33 ∨ c = 40) : zf_Q_begins (nI c) k f (nI 12) ma mk va vl vh = some (0, nI 12, ma, mk, va, vl, vh) := by
  unfold zf_Q_begins zf_Q_begins_12
  rcases hc with rfl | rfl
  · rw [if_pos (by rfl), if_pos (by rfl), z_gb0]
  · rw [if_neg (by decide), if_pos (by rfl), if_pos (by rfl), z_gb0]
theorem zm_begins_bad {c : Nat} {k : Int32} {f : Nat → Int32} {ne ma : Int32} {mk : Nat → Int32} {va : Int32} {vl vh : Nat → Int64} (hc : c < 1000) (h1 : c ≠ 33) (h2 : c ≠ 40) (h3 : ¬ z_lf c) : zf_Q_begins (nI c) k f ne ma mk va vl vh = some (0, ne, ma, mk, va, vl, vh) := by
  have e1 : ¬ (nI c = (33 : Int32)) := z_nek 33 (by omega) (by decide) h1
  have e2 : ¬ (nI c = (40 : Int32)) := z_nek 40 (by omega) (by decide) h2
  have e3 : ¬ (nI c = (48 : Int32)) := z_nek 48 (by omega) (by decide) (fun q => h3 (Or.inr (Or.inl q)))
  have e4 : ¬ (nI c = (49 : Int32)) := z_nek 49 (by omega) (by decide) (fun q => h3 (Or.inr (Or.inr q)))
  unfold zf_Q_begins
  rw [if_neg e1, if_neg e2, zm_Q_isName hc, if_neg (fun q => h3 (Or.inl q)), z_b1_of, z_i0, if_neg e3, if_neg e4, z_gb0]
theorem z_lf_lt {c : Nat} (h : z_lf c) : 48 ≤ c ∧ c ≤ 122 ∧ (c ≤ 49 ∨ 97 ≤ c) := by
  rcases h with q | q | q
  · have := z_isn_t q
    omega
  · omega
  · omega
theorem zm_begins_lf {c k o : Nat} {f : Nat → Int32} {M : List Nat} {V : List (Int64 × Int64)} {mk : Nat → Int32} {vl vh : Nat → Int64} (hc : z_lf c) (hk : k ≤ 7) (hm : z_am mk M) (hv : z_av vl vh V) (h : zok o 2 M V) :
    ∃ vl' vh', zf_Q_begins (nI c) (nI k) f (nI o) (nI M.length) mk (nI V.length) vl vh = some (1, nI (z_fin o M (z_vl k f c :: V)).1, nI (z_fin o M (z_vl k f c :: V)).2.1.length, mk, nI (z_fin o M (z_vl k f c :: V)).2.2.length, vl', vh') ∧ z_am mk (z_fin o M (z_vl k f c :: V)).2.1 ∧ z_av vl' vh' (z_fin o M (z_vl k f c :: V)).2.2 := by
  obtain ⟨h1, h2, h3, h4, h5⟩ := h
  obtain ⟨vl', vh', e, q1, q2⟩ := zm_operand (c := c) (k := k) (f := f) (o := o) hc hk hm hv (by omega) (by omega) h5 (by omega)
  refine ⟨vl', vh', ?_, q1, q2⟩
  have hl := z_lf_lt hc
  have e1 : ¬ (nI c = (33 : Int32)) := z_nek 33 (by omega) (by decide) (by omega)
  have e2 : ¬ (nI c = (40 : Int32)) := z_nek 40 (by omega) (by decide) (by omega)
  have e3 : zf_Q_begins_76 (nI c) (nI k) f (nI o) (nI M.length) mk (nI V.length) vl vh = some (1, nI (z_fin o M (z_vl k f c :: V)).1, nI (z_fin o M (z_vl k f c :: V)).2.1.length, mk, nI (z_fin o M (z_vl k f c :: V)).2.2.length, vl', vh') := by
    unfold zf_Q_begins_76
    rw [e, z_b5_of, z_gb1]
  unfold zf_Q_begins
  rw [if_neg e1, if_neg e2, zm_Q_isName (by omega), z_b1_of, e3]
  rcases hc with q | q | q
  · rw [if_pos q, z_i1]
  · subst q
    rw [if_pos (show (if z_isn 48 = true then (1 : Int32) else 0) = 0 from rfl), if_pos (show nI 48 = (48 : Int32) by decide)]
  · subst q
    rw [if_pos (show (if z_isn 49 = true then (1 : Int32) else 0) = 0 from rfl), if_neg (show ¬ (nI 49 = (48 : Int32)) by decide), if_pos (show nI 49 = (49 : Int32) by decide)]
