/-! ===== who leads to whom: steps E among the numbers below N ===== -/
def z_path (E : Nat → Nat → Prop) : Nat → Nat → Nat → Prop
  | 0, s, t => s = t
  | n + 1, s, t => ∃ u, E s u ∧ z_path E n u t
def z_lead (E : Nat → Nat → Prop) (s t : Nat) : Prop := ∃ n, z_path E n s t
theorem z_lead_refl {E : Nat → Nat → Prop} (s : Nat) : z_lead E s s := ⟨0, rfl⟩
theorem z_lead_step {E : Nat → Nat → Prop} {s u t : Nat} (h : E s u) (h2 : z_lead E u t) : z_lead E s t := by
  obtain ⟨n, hn⟩ := h2
  exact ⟨n + 1, u, h, hn⟩
theorem z_lead_one {E : Nat → Nat → Prop} {s u : Nat} (h : E s u) : z_lead E s u := z_lead_step h (z_lead_refl u)
theorem z_lead_trans {E : Nat → Nat → Prop} {s u t : Nat} (h : z_lead E s u) (h2 : z_lead E u t) : z_lead E s t := by
  obtain ⟨n, hn⟩ := h
  induction n generalizing s with
  | zero => exact (show s = u from hn) ▸ h2
  | succ n ih =>
    obtain ⟨v, h1, h3⟩ := hn
    exact z_lead_step h1 (ih h3)
/-- what holds of the start and goes along with steps holds of what is led to -/
theorem z_lead_ind {E : Nat → Nat → Prop} {P : Nat → Prop} (hP : ∀ s u, P s → E s u → P u) {s t : Nat} (h : z_lead E s t) (hs : P s) : P t := by
  obtain ⟨n, hn⟩ := h
  induction n generalizing s with
  | zero => exact (show s = t from hn) ▸ hs
  | succ n ih =>
    obtain ⟨v, h1, h3⟩ := hn
    exact ih (hP _ _ hs h1) h3
/-- a table that holds each number itself and its steps, and is closed over all that is between, and holds no more than what is led to, is the relation -/
theorem z_lead_iff {E : Nat → Nat → Prop} {N : Nat} {R : Nat → Nat → Prop} (hE : ∀ s u, s < N → E s u → u < N) (h0 : ∀ s, s < N → R s s) (h1 : ∀ s u, s < N → E s u → R s u)
    (hc : ∀ c, c < N → ∀ s t, s < N → R s c → R c t → R s t) (hl : ∀ s t, s < N → R s t → z_lead E s t) {s t : Nat} (hs : s < N) : R s t ↔ z_lead E s t := by
  constructor
  · exact hl s t hs
  · rintro ⟨n, hn⟩
    induction n generalizing s with
    | zero => exact (show s = t from hn) ▸ h0 s hs
    | succ n ih =>
      obtain ⟨u, h2, h3⟩ := hn
      have hu := hE s u hs h2
      exact hc u hu s t hs (h1 s u hs h2) (ih hu h3)
/-- the same of a table in which each row holds the rows of its steps -/
theorem z_lead_iff2 {E : Nat → Nat → Prop} {N : Nat} {R : Nat → Nat → Prop} (hE : ∀ s u, s < N → E s u → u < N) (h0 : ∀ s, s < N → R s s) (hc : ∀ s u, s < N → E s u → ∀ t, R u t → R s t)
    (hl : ∀ s t, s < N → R s t → z_lead E s t) {s t : Nat} (hs : s < N) : R s t ↔ z_lead E s t := by
  constructor
  · exact hl s t hs
  · rintro ⟨n, hn⟩
    induction n generalizing s with
    | zero => exact (show s = t from hn) ▸ h0 s hs
    | succ n ih =>
      obtain ⟨u, h2, h3⟩ := hn
      exact hc s u hs h2 t (ih (hE s u hs h2) h3)
theorem z_lead_lt {E : Nat → Nat → Prop} {N : Nat} (hE : ∀ s u, s < N → E s u → u < N) {s t : Nat} (hs : s < N) (h : z_lead E s t) : t < N :=
  z_lead_ind (P := fun x => x < N) (fun a b ha hb => hE a b ha hb) h hs
/-! ===== the attractors: the least of those that are led back to from all that they lead to ===== -/
/-- all that s leads to leads to s -/
def z_back (R : Nat → Nat → Bool) (N s : Nat) : Bool := (List.range N).all (fun t => !R s t || R t s)
def z_first (R : Nat → Nat → Bool) (s : Nat) : Bool := (List.range s).all (fun t => !R s t)
theorem z_back_iff {R : Nat → Nat → Bool} {N s : Nat} : z_back R N s = true ↔ ∀ t, t < N → R s t = true → R t s = true := by
  unfold z_back
  rw [List.all_eq_true]
  constructor
  · intro h t ht hr
    have := h t (List.mem_range.mpr ht)
    rw [hr] at this
    simpa using this
  · intro h t ht
    have := h t (List.mem_range.mp ht)
    cases hr : R s t with
    | false => rfl
    | true => rw [this hr]; rfl
theorem z_first_iff {R : Nat → Nat → Bool} {s : Nat} : z_first R s = true ↔ ∀ t, t < s → R s t = false := by
  unfold z_first
  rw [List.all_eq_true]
  constructor
  · intro h t ht
    have := h t (List.mem_range.mpr ht)
    simpa using this
  · intro h t ht
    rw [h t (List.mem_range.mp ht)]
    rfl
