/-! ===== the reference's way: rows grow until they stay ===== -/
theorem z_cmp0 (a b : Int64) : (lg_cmp a b = 0) ↔ a = b := by
  unfold lg_cmp
  constructor
  · intro h
    split at h
    · cases h
    · split at h
      · assumption
      · cases h
  · rintro rfl
    rw [if_neg Int64.lt_irrefl, if_pos (by rfl)]
theorem zm_qjoin (lo hi : Nat → Int64) {s t : Nat} (hs : s < 128) (ht : t < 128) : ∃ r : Int32, zf_Q_join (nI s) (nI t) lo hi = some (r, vp_updL lo s (lo s ||| lo t), vp_updL hi s (hi s ||| hi t)) ∧
    ((r = 0 ∧ (lo s ||| lo t) = lo s ∧ (hi s ||| hi t) = hi s) ∨ (r = 1 ∧ ¬ ((lo s ||| lo t) = lo s ∧ (hi s ||| hi t) = hi s))) := by
  unfold zf_Q_join zf_Q_join_52 zf_Q_join_57 z_lt
  rw [nI_clamp (n := s) (by omega), nI_clamp (n := t) (by omega)]
  simp only [z_gd_n hs (show 128 < 2 ^ 31 by decide), z_gd_n ht (show 128 < 2 ^ 31 by decide), z_cmp0, z_gb0, z_gb1]
  by_cases h1 : (lo s ||| lo t) = lo s
  · rw [if_pos h1]
    by_cases h2 : (hi s ||| hi t) = hi s
    · rw [if_pos h2]
      exact ⟨0, rfl, Or.inl ⟨rfl, h1, h2⟩⟩
    · rw [if_neg h2]
      exact ⟨1, rfl, Or.inr ⟨rfl, fun z => h2 z.2⟩⟩
  · rw [if_neg h1]
    exact ⟨1, rfl, Or.inr ⟨rfl, fun z => h1 z.1⟩⟩
/-- within a pass that began with the rows R0, after the steps P -/
def z_PS (E : Nat → Nat → Prop) (N : Nat) (R0 : Nat → Nat → Bool) (P : Nat → Nat → Prop) (f : Int32) (rl rh : Nat → Int64) : Prop :=
  (∀ a b, b < 128 → R0 a b = true → z_R rl rh a b = true) ∧ (∀ s t, s < N → t < 128 → z_R rl rh s t = true → z_lead E s t) ∧
  ((f = 0 ∧ (∀ a b, b < 128 → z_R rl rh a b = R0 a b) ∧ ∀ s u, P s u → ∀ t, t < 128 → R0 u t = true → R0 s t = true) ∨ (f = 1 ∧ ∃ a b, a < N ∧ b < 128 ∧ z_R rl rh a b = true ∧ R0 a b = false))
theorem z_PS_le {E : Nat → Nat → Prop} {N : Nat} {R0 : Nat → Nat → Bool} {P P' : Nat → Nat → Prop} {f : Int32} {rl rh : Nat → Int64} (h : z_PS E N R0 P f rl rh) (hP : ∀ s u, P' s u → P s u) : z_PS E N R0 P' f rl rh := by
  obtain ⟨h1, h2, h3⟩ := h
  refine ⟨h1, h2, ?_⟩
  rcases h3 with ⟨a, b, c⟩ | h3
  · exact Or.inl ⟨a, b, fun s u q => c s u (hP s u q)⟩
  · exact Or.inr h3
theorem z_PS_join {E : Nat → Nat → Prop} {N : Nat} (hN : N ≤ 128) {R0 : Nat → Nat → Bool} {P : Nat → Nat → Prop} {f r : Int32} {rl rh : Nat → Int64} {s u : Nat} (hs : s < N) (hu : u < N) (hE : E s u) (h : z_PS E N R0 P f rl rh)
    (hr : (r = 0 ∧ (rl s ||| rl u) = rl s ∧ (rh s ||| rh u) = rh s) ∨ (r = 1 ∧ ¬ ((rl s ||| rl u) = rl s ∧ (rh s ||| rh u) = rh s))) :
    z_PS E N R0 (fun a b => P a b ∨ (a = s ∧ b = u)) (if f = 0 then (if r = 0 then 0 else 1) else 1) (vp_updL rl s (rl s ||| rl u)) (vp_updL rh s (rh s ||| rh u)) := by
  obtain ⟨h1, h2, h3⟩ := h
  refine ⟨fun a b hb q => z_R_join.mpr (Or.inl (h1 a b hb q)), fun a b ha hb q => ?_, ?_⟩
  · rcases z_R_join.mp q with z | ⟨rfl, z⟩
    · exact h2 a b ha hb z
    · exact z_lead_step hE (h2 u b hu hb z)
  · rcases h3 with ⟨rfl, b, c⟩ | ⟨rfl, a, b, ha, hb, c, d⟩
    · rw [if_pos (by rfl)]
      rcases hr with ⟨rfl, e1, e2⟩ | ⟨rfl, e⟩
      · rw [if_pos (by rfl)]
        have hsub : ∀ t, t < 128 → z_R rl rh u t = true → z_R rl rh s t = true := fun t ht q => by
          have : z_rb (rl s ||| rl u) (rh s ||| rh u) t = z_rb (rl s) (rh s) t := by rw [e1, e2]
          rw [z_rb_or] at this
          unfold z_R at q ⊢
          rw [← this, q, Bool.or_true]
        refine Or.inl ⟨rfl, fun x y hy => ?_, fun x y q => ?_⟩
        · rw [e1, e2, ← b x y hy]
          unfold z_R
          by_cases z : x = s
          · rw [z, pk_uLs, pk_uLs]
          · rw [pk_uLn z, pk_uLn z]
        · rcases q with q | ⟨rfl, rfl⟩
          · exact c x y q
          · intro t ht q
            rw [← b y t ht] at q
            rw [← b x t ht]
            exact hsub t ht q
      · rw [if_neg (by decide)]
        refine Or.inr ⟨rfl, ?_⟩
        have hex : ∃ t, t < 128 ∧ z_R rl rh u t = true ∧ z_R rl rh s t = false := by
          apply Classical.byContradiction
          intro hno
          apply e
          apply z_rb_ext
          intro t ht
          rw [z_rb_or]
          cases hq : z_rb (rl u) (rh u) t with
          | false => rw [Bool.or_false]
          | true =>
            rw [Bool.or_true]
            cases hw : z_rb (rl s) (rh s) t with
            | true => rfl
            | false => exact absurd ⟨t, ht, hq, hw⟩ hno
        obtain ⟨t, ht, q1, q2⟩ := hex
        exact ⟨s, t, hs, ht, z_R_join.mpr (Or.inr ⟨rfl, q1⟩), by rw [← b s t ht]; exact q2⟩
    · rw [if_neg (by decide)]
      exact Or.inr ⟨rfl, a, b, ha, hb, z_R_join.mpr (Or.inl c), d⟩
section
variable {k : Nat} {qlo qhi : Nat → Int64} {fx : Nat → Int32}
theorem zm_qstep_g (hk : k ≤ 7) {s g : Nat} (hs : s < 2 ^ k) (hg : g < k) (hf : ∀ g, g < k → z_fok fx g) : zf_Q_step (nI s) (nI g) (nI k) qlo qhi fx = some (nI (z_set s g (z_vv fx qlo qhi g s))) := by
  have hp := (z_pow k hk).2.1
  unfold zf_Q_step
  rw [if_pos (nI_pos' (by omega)), zm_valueAt qlo qhi (by omega) (by omega) (hf g hg), z_b1_of, z_set_q (by omega) (by omega)]
theorem zm_qnext (hk : k ≤ 7) (hk0 : 0 < k) {s : Nat} (hs : s < 2 ^ k) (hf : ∀ g, g < k → z_fok fx g) : zf_Q_next (nI s) (nI k) qlo qhi fx = some (nI (z_num (fun g => z_vv fx qlo qhi g s) k)) := by
  obtain ⟨p1, p2, p3⟩ := z_pow k hk
  have e2 : zf_R_hasState (nI s) (nI k) = some 1 := by
    unfold zf_R_hasState
    rw [p1, if_neg (nI_nle hk0 (by omega)), if_neg (nI_pos (by omega)), if_neg (fun q => absurd ((nI_leI (by omega) (by omega)).mp q) (by omega))]
    exact z_gb1
  unfold zf_Q_next
  rw [zm_isState, e2, z_b1_of, if_neg (by decide)]
  exact zm_next_loop qlo qhi hk (by omega) hf k 0 z_FU (by omega) (by unfold z_FU; omega)
theorem zm_qstep_m (hk : k ≤ 7) (hk0 : 0 < k) {s : Nat} (hs : s < 2 ^ k) (hf : ∀ g, g < k → z_fok fx g) : zf_Q_step (nI s) (-1) (nI k) qlo qhi fx = some (nI (z_num (fun g => z_vv fx qlo qhi g s) k)) := by
  unfold zf_Q_step
  rw [if_neg (by decide), zm_qnext hk hk0 hs hf]
  rfl
/-- one step and what comes of it -/
theorem zm_qbody {E : Nat → Nat → Prop} (hk : k ≤ 7) {s u : Nat} (hs : s < 2 ^ k) (hu : u < 2 ^ k) (hE : E s u) {R0 : Nat → Nat → Bool} {P : Nat → Nat → Prop} {f one x4 t0 t1 : Int32} {rl rh : Nat → Int64} (h : z_PS E (2 ^ k) R0 P f rl rh)
    {k71 : Int32 → Int32 → Int32 → Int32 → (Nat → Int64) → (Nat → Int64) → (Nat → Int32) → Int32 → (Nat → Int64) → (Nat → Int64) → Option ((Nat → Int64) × (Nat → Int64))} {k90 : Int32 → Int32 → Int32 → Int32 → Int32 → (Nat → Int64) → (Nat → Int64) → (Nat → Int32) → Int32 → (Nat → Int64) → (Nat → Int64) → Option ((Nat → Int64) × (Nat → Int64))}
    (ht : ¬ t1 ≤ t0) (hst : zf_Q_step (nI s) x4 (nI k) qlo qhi fx = some (nI u)) :
    ∃ f' rl' rh', zf_Q_spreadOut_107 k71 k90 (nI (2 ^ k)) f (nI s) x4 t0 t1 (nI k) qlo qhi fx one rl rh = k90 (nI (2 ^ k)) f' (nI s) (x4 + 1) (nI k) qlo qhi fx one rl' rh' ∧ z_PS E (2 ^ k) R0 (fun a b => P a b ∨ (a = s ∧ b = u)) f' rl' rh' := by
  have hp := (z_pow k hk).2.1
  obtain ⟨r, e, hr⟩ := zm_qjoin rl rh (s := s) (t := u) (by omega) (by omega)
  have hj := z_PS_join (by omega) hs hu hE h hr
  refine ⟨_, _, _, ?_, hj⟩
  unfold zf_Q_spreadOut_107 zf_Q_spreadOut_137 zf_Q_spreadOut_142
  rw [if_neg ht, hst, z_b1_of, e, z_b3_of]
  by_cases q : f = 0
  · rw [if_pos q, if_pos q]
    by_cases q2 : r = 0
    · rw [if_pos q2, if_pos q2]
    · rw [if_neg q2, if_neg q2]
  · rw [if_neg q, if_neg q]
theorem zm_qgenes (hk : k ≤ 7) {s : Nat} (hs : s < 2 ^ k) (hf : ∀ g, g < k → z_fok fx g) {R0 : Nat → Nat → Bool} {one : Int32} (h1 : ¬ one = 0) {P0 : Nat → Nat → Prop}
    {k71 : Int32 → Int32 → Int32 → Int32 → (Nat → Int64) → (Nat → Int64) → (Nat → Int32) → Int32 → (Nat → Int64) → (Nat → Int64) → Option ((Nat → Int64) × (Nat → Int64))} :
    ∀ m i n f rl rh, i + m = k → m < n → z_PS (z_E k (z_vv fx qlo qhi) true) (2 ^ k) R0 (fun a b => P0 a b ∨ (a = s ∧ ∃ g, g < i ∧ b = z_set s g (z_vv fx qlo qhi g s))) f rl rh →
    ∃ f' rl' rh', zf_Q_spreadOut_90 k71 n (nI (2 ^ k)) f (nI s) (nI i) (nI k) qlo qhi fx one rl rh = k71 (nI (2 ^ k)) f' (nI (s + 1)) (nI k) qlo qhi fx one rl' rh' ∧ z_PS (z_E k (z_vv fx qlo qhi) true) (2 ^ k) R0 (fun a b => P0 a b ∨ (a = s ∧ ∃ g, g < k ∧ b = z_set s g (z_vv fx qlo qhi g s))) f' rl' rh' := by
  intro m
  induction m with
  | zero =>
    intro i n f rl rh hi0 hn h
    obtain ⟨n, rfl⟩ : ∃ n', n = n' + 1 := ⟨n - 1, by omega⟩
    refine ⟨f, rl, rh, ?_, ?_⟩
    · rw [zf_Q_spreadOut_90, if_neg h1]
      unfold zf_Q_spreadOut_107
      rw [if_pos ((nI_leI (by omega) (by omega)).mpr (by omega)), show nI s + (1 : Int32) = nI (s + 1) from nI_1 s]
    · rw [show k = i by omega] at h ⊢
      exact h
  | succ m ih =>
    intro i n f rl rh hi0 hn h
    obtain ⟨n, rfl⟩ : ∃ n', n = n' + 1 := ⟨n - 1, by omega⟩
    have hl := z_set_lt2 hk (show i < k by omega) hs (z_vv fx qlo qhi i s)
    obtain ⟨f1, rl1, rh1, e1, h2⟩ := zm_qbody (one := one) (k71 := k71) (k90 := zf_Q_spreadOut_90 k71 n) hk hs hl (show z_E k (z_vv fx qlo qhi) true s _ from by unfold z_E; rw [if_pos (by rfl)]; exact ⟨i, by omega, rfl⟩) h (x4 := nI i) (t0 := nI i) (t1 := nI k) (fun q => absurd ((nI_leI (by omega) (by omega)).mp q) (by omega)) (zm_qstep_g hk hs (by omega) hf)
    obtain ⟨f2, rl2, rh2, e2, h3⟩ := ih (i + 1) n f1 rl1 rh1 (by omega) (by omega) (z_PS_le h2 (fun a b q => by
      rcases q with q | ⟨q1, g, q2, q3⟩
      · exact Or.inl (Or.inl q)
      · by_cases z : g = i
        · subst z
          exact Or.inr ⟨q1, q3⟩
        · exact Or.inl (Or.inr ⟨q1, g, by omega, q3⟩)))
    refine ⟨f2, rl2, rh2, ?_, h3⟩
    rw [zf_Q_spreadOut_90, if_neg h1, e1, show nI i + (1 : Int32) = nI (i + 1) from nI_1 i, e2]
theorem zm_qtogether (hk : k ≤ 7) (hk0 : 0 < k) {s : Nat} (hs : s < 2 ^ k) (hf : ∀ g, g < k → z_fok fx g) {R0 : Nat → Nat → Bool} {P0 : Nat → Nat → Prop}
    {k71 : Int32 → Int32 → Int32 → Int32 → (Nat → Int64) → (Nat → Int64) → (Nat → Int32) → Int32 → (Nat → Int64) → (Nat → Int64) → Option ((Nat → Int64) × (Nat → Int64))} {n : Nat} (hn : 2 ≤ n) {f : Int32} {rl rh : Nat → Int64}
    (h : z_PS (z_E k (z_vv fx qlo qhi) false) (2 ^ k) R0 P0 f rl rh) :
    ∃ f' rl' rh', zf_Q_spreadOut_90 k71 n (nI (2 ^ k)) f (nI s) (-1) (nI k) qlo qhi fx 0 rl rh = k71 (nI (2 ^ k)) f' (nI (s + 1)) (nI k) qlo qhi fx 0 rl' rh' ∧ z_PS (z_E k (z_vv fx qlo qhi) false) (2 ^ k) R0 (fun a b => P0 a b ∨ (a = s ∧ b = z_num (fun g => z_vv fx qlo qhi g s) k)) f' rl' rh' := by
  obtain ⟨n, rfl⟩ : ∃ n', n = n' + 1 + 1 := ⟨n - 2, by omega⟩
  obtain ⟨f1, rl1, rh1, e1, h2⟩ := zm_qbody (one := 0) (k71 := k71) (k90 := zf_Q_spreadOut_90 k71 (n + 1)) hk hs (z_num_lt _ k) (show z_E k (z_vv fx qlo qhi) false s _ from by unfold z_E; rw [if_neg (by decide)]) h (x4 := -1) (t0 := -1) (t1 := 0) (by decide) (zm_qstep_m hk hk0 hs hf)
  refine ⟨f1, rl1, rh1, ?_, h2⟩
  rw [zf_Q_spreadOut_90, if_pos (by rfl), e1, show (-1 : Int32) + 1 = 0 by decide, zf_Q_spreadOut_90, if_pos (by rfl)]
  unfold zf_Q_spreadOut_107
  rw [if_pos (by decide), show nI s + (1 : Int32) = nI (s + 1) from nI_1 s]
/-- a pass over all states -/
theorem zm_qpass (hk : k ≤ 7) (hk0 : 0 < k) (hf : ∀ g, g < k → z_fok fx g) {R0 : Nat → Nat → Bool} (al : Bool)
    {k63 : Int32 → Int32 → Int32 → (Nat → Int64) → (Nat → Int64) → (Nat → Int32) → Int32 → (Nat → Int64) → (Nat → Int64) → Option ((Nat → Int64) × (Nat → Int64))} :
    ∀ m i n f rl rh, i + m = 2 ^ k → m < n → z_PS (z_E k (z_vv fx qlo qhi) al) (2 ^ k) R0 (fun a b => a < i ∧ z_E k (z_vv fx qlo qhi) al a b) f rl rh →
    ∃ f' rl' rh', zf_Q_spreadOut_71 k63 n (nI (2 ^ k)) f (nI i) (nI k) qlo qhi fx (if al then 1 else 0) rl rh = k63 (nI (2 ^ k)) f' (nI k) qlo qhi fx (if al then 1 else 0) rl' rh' ∧ z_PS (z_E k (z_vv fx qlo qhi) al) (2 ^ k) R0 (fun a b => a < 2 ^ k ∧ z_E k (z_vv fx qlo qhi) al a b) f' rl' rh' := by
  have hp := (z_pow k hk).2.1
  intro m
  induction m with
  | zero =>
    intro i n f rl rh hi0 hn h
    obtain ⟨n, rfl⟩ : ∃ n', n = n' + 1 := ⟨n - 1, by omega⟩
    refine ⟨f, rl, rh, ?_, ?_⟩
    · rw [zf_Q_spreadOut_71, if_pos ((nI_leI (by omega) (by omega)).mpr (by omega))]
    · rw [show 2 ^ k = i by omega] at h ⊢
      exact h
  | succ m ih =>
    intro i n f rl rh hi0 hn h
    obtain ⟨n, rfl⟩ : ∃ n', n = n' + 1 := ⟨n - 1, by omega⟩
    have hs : i < 2 ^ k := by omega
    rw [zf_Q_spreadOut_71, if_neg (fun q => absurd ((nI_leI (by omega) (by omega)).mp q) (by omega))]
    unfold zf_Q_spreadOut_88
    cases al with
    | true =>
      rw [if_neg (by decide)]
      obtain ⟨f1, rl1, rh1, e1, h2⟩ := zm_qgenes (one := 1) (k71 := zf_Q_spreadOut_71 k63 n) hk hs hf (by decide) k 0 z_FU f rl rh (by omega) (by unfold z_FU; omega) (z_PS_le h (fun a b q => by
        rcases q with q | ⟨-, g, q, -⟩
        · exact q
        · omega))
      obtain ⟨f2, rl2, rh2, e2, h3⟩ := ih (i + 1) n f1 rl1 rh1 (by omega) (by omega) (z_PS_le h2 (fun a b q => by
        by_cases z : a = i
        · subst z
          refine Or.inr ⟨rfl, ?_⟩
          have := q.2
          unfold z_E at this
          rw [if_pos (by rfl)] at this
          exact this
        · exact Or.inl ⟨by omega, q.2⟩))
      exact ⟨f2, rl2, rh2, by
        rw [show (0 : Int32) = nI 0 from rfl]
        exact e1.trans e2, h3⟩
    | false =>
      rw [if_pos (by rfl)]
      obtain ⟨f1, rl1, rh1, e1, h2⟩ := zm_qtogether (k71 := zf_Q_spreadOut_71 k63 n) (n := z_FU) hk hk0 hs hf (by unfold z_FU; omega) h
      obtain ⟨f2, rl2, rh2, e2, h3⟩ := ih (i + 1) n f1 rl1 rh1 (by omega) (by omega) (z_PS_le h2 (fun a b q => by
        by_cases z : a = i
        · subst z
          refine Or.inr ⟨rfl, ?_⟩
          have := q.2
          unfold z_E at this
          rw [if_neg (by decide)] at this
          exact this
        · exact Or.inl ⟨by omega, q.2⟩))
      exact ⟨f2, rl2, rh2, e1.trans e2, h3⟩
end
/-! ===== how many bits there are in all rows: the passes end ===== -/
def z_tot (R : Nat → Nat → Bool) : Nat → Nat
  | 0 => 0
  | n + 1 => z_tot R n + z_cnt (R n) 128
theorem z_tot_le (R : Nat → Nat → Bool) (n : Nat) : z_tot R n ≤ 128 * n := by
  induction n with
  | zero => exact Nat.le_refl 0
  | succ n ih =>
    have := z_cnt_le (R n) 128
    unfold z_tot
    omega
theorem z_cnt_mono {f g : Nat → Bool} {n : Nat} (h : ∀ i, i < n → f i = true → g i = true) : z_cnt f n ≤ z_cnt g n := by
  induction n with
  | zero => exact Nat.le_refl 0
  | succ n ih =>
    have i1 := ih (fun i hi => h i (by omega))
    have i2 := h n (by omega)
    unfold z_cnt
    cases hf : f n with
    | false =>
      cases hg : g n with
      | false => exact i1
      | true => exact Nat.le_trans i1 (Nat.le_add_right _ _)
    | true => rw [i2 hf]; exact Nat.add_le_add_right i1 _
theorem z_cnt_lt {f g : Nat → Bool} {n j : Nat} (h : ∀ i, i < n → f i = true → g i = true) (hj : j < n) (h1 : f j = false) (h2 : g j = true) : z_cnt f n < z_cnt g n := by
  induction n with
  | zero => omega
  | succ n ih =>
    by_cases q : j = n
    · subst q
      have i1 := z_cnt_mono (f := f) (g := g) (n := j) (fun i hi => h i (by omega))
      unfold z_cnt
      rw [h1, h2, if_neg (by decide), if_pos (by rfl)]
      omega
    · have i1 := ih (fun i hi => h i (by omega)) (by omega)
      have i2 := h n (by omega)
      unfold z_cnt
      cases hf : f n with
      | false =>
        cases hg : g n with
        | false => exact i1
        | true => exact Nat.lt_of_lt_of_le i1 (Nat.le_add_right _ _)
      | true => rw [i2 hf]; exact Nat.add_lt_add_right i1 _
theorem z_tot_mono {R S : Nat → Nat → Bool} {n : Nat} (h : ∀ a b, b < 128 → R a b = true → S a b = true) : z_tot R n ≤ z_tot S n := by
  induction n with
  | zero => exact Nat.le_refl 0
  | succ n ih =>
    have := z_cnt_mono (f := R n) (g := S n) (n := 128) (fun i hi => h n i hi)
    unfold z_tot
    omega
theorem z_tot_lt {R S : Nat → Nat → Bool} {n a b : Nat} (h : ∀ a b, b < 128 → R a b = true → S a b = true) (ha : a < n) (hb : b < 128) (h1 : R a b = false) (h2 : S a b = true) : z_tot R n < z_tot S n := by
  induction n with
  | zero => omega
  | succ n ih =>
    by_cases q : a = n
    · subst q
      have i1 := z_cnt_lt (f := R a) (g := S a) (n := 128) (j := b) (fun i hi => h a i hi) hb h1 h2
      have i2 := z_tot_mono (n := a) h
      unfold z_tot
      omega
    · have i1 := ih (by omega)
      have i2 := z_cnt_mono (f := R n) (g := S n) (n := 128) (fun i hi => h n i hi)
      unfold z_tot
      omega
theorem zm_qwhile {k : Nat} {qlo qhi : Nat → Int64} {fx : Nat → Int32} (hk : k ≤ 7) (hk0 : 0 < k) (hf : ∀ g, g < k → z_fok fx g) (al : Bool) :
    ∀ n f rl rh, (f = 0 ∨ (f = 1 ∧ 16384 < n + z_tot (z_R rl rh) (2 ^ k))) → (∀ s, s < 2 ^ k → z_R rl rh s s = true) → (∀ s t, s < 2 ^ k → t < 128 → z_R rl rh s t = true → z_lead (z_E k (z_vv fx qlo qhi) al) s t) →
    (f = 0 → ∀ s u, s < 2 ^ k → z_E k (z_vv fx qlo qhi) al s u → ∀ t, t < 128 → z_R rl rh u t = true → z_R rl rh s t = true) →
    ∃ rl' rh', zf_Q_spreadOut_63 (n + 1) (nI (2 ^ k)) f (nI k) qlo qhi fx (if al then 1 else 0) rl rh = some (rl', rh') ∧ ∀ s t, s < 2 ^ k → t < 128 → ((z_R rl' rh' s t = true) ↔ z_lead (z_E k (z_vv fx qlo qhi) al) s t) := by
  have hp := (z_pow k hk).2.1
  have key : ∀ n rl rh, (∀ s, s < 2 ^ k → z_R rl rh s s = true) → (∀ s t, s < 2 ^ k → t < 128 → z_R rl rh s t = true → z_lead (z_E k (z_vv fx qlo qhi) al) s t) →
      (∀ s u, s < 2 ^ k → z_E k (z_vv fx qlo qhi) al s u → ∀ t, t < 128 → z_R rl rh u t = true → z_R rl rh s t = true) →
      ∃ rl' rh', zf_Q_spreadOut_63 (n + 1) (nI (2 ^ k)) 0 (nI k) qlo qhi fx (if al then 1 else 0) rl rh = some (rl', rh') ∧ ∀ s t, s < 2 ^ k → t < 128 → ((z_R rl' rh' s t = true) ↔ z_lead (z_E k (z_vv fx qlo qhi) al) s t) := by
    intro n rl rh h0 h1 h2
    refine ⟨rl, rh, by rw [zf_Q_spreadOut_63, if_pos (by rfl)], fun s t hs ht => ?_⟩
    have := z_lead_iff2 (E := z_E k (z_vv fx qlo qhi) al) (N := 2 ^ k) (R := fun s t => t < 128 ∧ z_R rl rh s t = true) (fun s u hs hu => z_E_lt hk hs hu) (fun s hs => ⟨by omega, h0 s hs⟩)
      (fun s u hs hu t ht => ⟨ht.1, h2 s u hs hu t ht.1 ht.2⟩) (fun s t hs a => h1 s t hs a.1 a.2) (s := s) (t := t) hs
    exact ⟨fun z => this.mp ⟨ht, z⟩, fun z => (this.mpr z).2⟩
  intro n
  induction n with
  | zero =>
    intro f rl rh hf01 h0 h1 h2
    rcases hf01 with rfl | ⟨-, hn⟩
    · exact key 0 rl rh h0 h1 (h2 rfl)
    · have := z_tot_le (z_R rl rh) (2 ^ k)
      omega
  | succ n ih =>
    intro f rl rh hf01 h0 h1 h2
    rcases hf01 with rfl | ⟨rfl, hn⟩
    · exact key (n + 1) rl rh h0 h1 (h2 rfl)
    · rw [zf_Q_spreadOut_63, if_neg (by decide)]
      obtain ⟨f1, rl1, rh1, e1, p1, p2, p3⟩ := zm_qpass (R0 := z_R rl rh) (k63 := zf_Q_spreadOut_63 (n + 1)) (qlo := qlo) (qhi := qhi) (fx := fx) hk hk0 hf al (2 ^ k) 0 z_FU 0 rl rh (by omega) (by unfold z_FU; omega) ⟨fun _ _ _ z => z, h1, Or.inl ⟨rfl, fun _ _ _ => rfl, fun s u z => absurd z.1 (by omega)⟩⟩
      rw [show (0 : Int32) = nI 0 from rfl] at e1 ⊢
      rw [e1]
      have hd : ∀ s, s < 2 ^ k → z_R rl1 rh1 s s = true := fun s hs => p1 s s (by omega) (h0 s hs)
      rcases p3 with ⟨rfl, a, b⟩ | ⟨rfl, a, b, ha, hb, c, d⟩
      · exact ih 0 rl1 rh1 (Or.inl rfl) hd p2 (fun _ s u hs hu t ht z => by
          rw [a u t ht] at z
          rw [a s t ht]
          exact b s u ⟨hs, hu⟩ t ht z)
      · have := z_tot_lt (R := z_R rl rh) (S := z_R rl1 rh1) (n := 2 ^ k) p1 ha hb d c
        exact ih 1 rl1 rh1 (Or.inr ⟨rfl, by omega⟩) hd p2 (fun z => absurd z (by decide))
/-- the rows at the start: each state itself -/
theorem zm_qstart {k : Nat} {qlo qhi : Nat → Int64} {fx : Nat → Int32} {one : Int32} (hk : k ≤ 7) :
    ∀ m i n rl rh, i + m = 2 ^ k → m < n → (∀ a b, a < i → b < 128 → ((z_R rl rh a b = true) ↔ b = a)) →
    ∃ rl' rh', zf_Q_spreadOut_9 n (nI (2 ^ k)) (nI i) (nI k) qlo qhi fx one rl rh = zf_Q_spreadOut_63 z_FU (nI (2 ^ k)) 1 (nI k) qlo qhi fx one rl' rh' ∧ ∀ a b, a < 2 ^ k → b < 128 → ((z_R rl' rh' a b = true) ↔ b = a) := by
  have hp := (z_pow k hk).2.1
  intro m
  induction m with
  | zero =>
    intro i n rl rh hi0 hn h
    obtain ⟨n, rfl⟩ : ∃ n', n = n' + 1 := ⟨n - 1, by omega⟩
    refine ⟨rl, rh, ?_, ?_⟩
    · rw [zf_Q_spreadOut_9, if_pos ((nI_leI (by omega) (by omega)).mpr (by omega))]
    · rw [show 2 ^ k = i by omega]
      exact h
  | succ m ih =>
    intro i n rl rh hi0 hn h
    obtain ⟨n, rfl⟩ : ∃ n', n = n' + 1 := ⟨n - 1, by omega⟩
    rw [zf_Q_spreadOut_9, if_neg (fun q => absurd ((nI_leI (by omega) (by omega)).mp q) (by omega))]
    unfold zf_Q_spreadOut_32 zf_Q_spreadOut_54
    rw [nI_clamp (n := i) (by omega), show nI i + (1 : Int32) = nI (i + 1) from nI_1 i]
    simp only [z_gd_n (show i < 128 by omega) (show 128 < 2 ^ 31 by decide)]
    by_cases q : i < 64
    · simp only [if_neg (fun z => absurd ((z_le64 (s := i) (by omega)).mp z) (by omega))]
      refine ih (i + 1) n _ _ (by omega) (by omega) (fun a b ha hb => ?_)
      unfold z_R z_rb
      by_cases z : a = i
      · rw [z, pk_uLs, pk_uLs]
        by_cases z2 : b < 64
        · rw [if_pos z2, z_bt_shl q, decide_eq_true_iff]
          exact eq_comm
        · rw [if_neg z2, z_bt_0]
          exact ⟨fun w => (by cases w), fun w => absurd w (by omega)⟩
      · rw [pk_uLn z, pk_uLn z]
        exact h a b (by omega) hb
    · simp only [if_pos ((z_le64 (s := i) (by omega)).mpr (by omega)), show nI i - 64 = nI (i - 64) from pk_sub (b := 64) (by omega)]
      refine ih (i + 1) n _ _ (by omega) (by omega) (fun a b ha hb => ?_)
      unfold z_R z_rb
      by_cases z : a = i
      · rw [z, pk_uLs, pk_uLs]
        by_cases z2 : b < 64
        · rw [if_pos z2, z_bt_0]
          exact ⟨fun w => (by cases w), fun w => absurd w (by omega)⟩
        · rw [if_neg z2, z_bt_shl (by omega), decide_eq_true_iff]
          omega
      · rw [pk_uLn z, pk_uLn z]
        exact h a b (by omega) hb
theorem zm_qspreadOut {k : Nat} {qlo qhi : Nat → Int64} {fx : Nat → Int32} (hk : k ≤ 7) (hk0 : 0 < k) (hf : ∀ g, g < k → z_fok fx g) (al : Bool) (rl rh : Nat → Int64) :
    ∃ rl' rh', zf_Q_spreadOut (nI k) qlo qhi fx (if al then 1 else 0) rl rh = some (rl', rh') ∧ ∀ s t, s < 2 ^ k → t < 128 → ((z_R rl' rh' s t = true) ↔ z_lead (z_E k (z_vv fx qlo qhi) al) s t) := by
  obtain ⟨p1, p2, p3⟩ := z_pow k hk
  unfold zf_Q_spreadOut
  rw [p1]
  obtain ⟨rl1, rh1, e1, f1⟩ := zm_qstart (qlo := qlo) (qhi := qhi) (fx := fx) (one := if al then 1 else 0) hk (2 ^ k) 0 z_FU rl rh (by omega) (by unfold z_FU; omega) (fun a b ha => absurd ha (by omega))
  rw [show (0 : Int32) = nI 0 from rfl] at e1 ⊢
  rw [e1]
  exact zm_qwhile (qlo := qlo) (qhi := qhi) hk hk0 hf al 19999 1 rl1 rh1 (Or.inr ⟨rfl, by omega⟩) (fun s hs => (f1 s s hs (by omega)).mpr rfl) (fun s t hs ht z => (by rw [(f1 s t hs ht).mp z]; exact z_lead_refl s)) (fun z => absurd z (by decide))
