/-- how many of the first n hold -/
def z_cnt (f : Nat → Bool) : Nat → Nat
  | 0 => 0
  | n + 1 => z_cnt f n + if f n then 1 else 0
theorem z_cnt_le (f : Nat → Bool) (n : Nat) : z_cnt f n ≤ n := by
  induction n with
  | zero => exact Nat.le_refl 0
  | succ n ih =>
    unfold z_cnt
    split <;> omega
theorem z_cnt_congr {f g : Nat → Bool} {n : Nat} (h : ∀ i, i < n → f i = g i) : z_cnt f n = z_cnt g n := by
  induction n with
  | zero => rfl
  | succ n ih =>
    unfold z_cnt
    rw [ih (fun i hi => h i (by omega)), h n (by omega)]
theorem z_cnt_add (f : Nat → Bool) (a b : Nat) : z_cnt f (a + b) = z_cnt f a + z_cnt (fun i => f (a + i)) b := by
  induction b with
  | zero => rfl
  | succ b ih =>
    rw [← Nat.add_assoc]
    show z_cnt f (a + b) + _ = z_cnt f a + (z_cnt (fun i => f (a + i)) b + _)
    rw [ih, Nat.add_assoc]
theorem z_cnt_none {f : Nat → Bool} {n : Nat} (h : ∀ i, i < n → f i = false) : z_cnt f n = 0 := by
  induction n with
  | zero => rfl
  | succ n ih =>
    unfold z_cnt
    rw [ih (fun i hi => h i (by omega)), h n (by omega)]
    rfl
/-- a word as a number -/
def z_u (x : Int64) : Nat := x.toUInt64.toNat
theorem z_u_lt (x : Int64) : z_u x < 2 ^ 64 := x.toUInt64.toNat_lt
theorem z_u_inj {x y : Int64} (h : z_u x = z_u y) : x = y := congrArg UInt64.toInt64 (UInt64.toNat_inj.mp h)
theorem z_u_add (x y : Int64) : z_u (x + y) = (z_u x + z_u y) % 2 ^ 64 := by
  show (x.toUInt64 + y.toUInt64).toNat = _
  exact UInt64.toNat_add _ _
theorem z_u_sub {x y : Int64} (h : z_u y ≤ z_u x) : z_u (x - y) = z_u x - z_u y := by
  show (x.toUInt64 - y.toUInt64).toNat = _
  exact UInt64.toNat_sub_of_le _ _ (UInt64.le_iff_toNat_le.mpr h)
theorem z_u_and (x y : Int64) : z_u (x &&& y) = z_u x &&& z_u y := UInt64.toNat_and _ _
theorem z_u_or (x y : Int64) : z_u (x ||| y) = z_u x ||| z_u y := UInt64.toNat_or _ _
theorem z_u_xor (x y : Int64) : z_u (x ^^^ y) = z_u x ^^^ z_u y := UInt64.toNat_xor _ _
theorem z_u_ushr (x : Int64) (s : UInt64) : z_u (x.toUInt64 >>> s).toInt64 = z_u x / 2 ^ (s.toNat % 64) := by
  show (x.toUInt64 >>> s).toNat = _
  rw [UInt64.toNat_shiftRight, Nat.shiftRight_eq_div_pow]
  rfl
/-- bit i of a word -/
def z_bt (w : Int64) (i : Nat) : Bool := (z_u w).testBit i
theorem z_bt_big {w : Int64} {i : Nat} (h : 64 ≤ i) : z_bt w i = false :=
  Nat.testBit_lt_two_pow (Nat.lt_of_lt_of_le (z_u_lt w) (Nat.pow_le_pow_right (by decide) h))
theorem z_bt_ext {a b : Int64} (h : ∀ i, i < 64 → z_bt a i = z_bt b i) : a = b := by
  apply z_u_inj
  apply Nat.eq_of_testBit_eq
  intro i
  rcases Nat.lt_or_ge i 64 with q | q
  · exact h i q
  · exact (z_bt_big q).trans (z_bt_big q).symm
theorem z_bt_or (a b : Int64) (i : Nat) : z_bt (a ||| b) i = (z_bt a i || z_bt b i) := by
  unfold z_bt
  rw [z_u_or, Nat.testBit_or]
theorem z_bt_and (a b : Int64) (i : Nat) : z_bt (a &&& b) i = (z_bt a i && z_bt b i) := by
  unfold z_bt
  rw [z_u_and, Nat.testBit_and]
theorem z_bt_0 (i : Nat) : z_bt 0 i = false := Nat.zero_testBit i
theorem z_bt_m1 {i : Nat} (h : i < 64) : z_bt (-1) i = true := by
  have e : z_u (-1) = 2 ^ 64 - 1 := by decide +kernel
  unfold z_bt
  rw [e, Nat.testBit_two_pow_sub_one]
  exact decide_eq_true h
theorem z_bt_not {w : Int64} {i : Nat} (h : i < 64) : z_bt (w ^^^ (-1)) i = !z_bt w i := by
  have e := z_bt_m1 h
  unfold z_bt at e ⊢
  rw [z_u_xor, Nat.testBit_xor, e, Bool.xor_true]
theorem z_shl_u : ∀ k, k < 64 → z_u ((1 : Int64) <<< ((nI k).toInt64 &&& 63)) = 2 ^ k := by decide +kernel
theorem z_bt_shl {k : Nat} (hk : k < 64) (i : Nat) : z_bt ((1 : Int64) <<< ((nI k).toInt64 &&& 63)) i = decide (k = i) := by
  unfold z_bt
  rw [z_shl_u k hk, Nat.testBit_two_pow]
theorem z_and63 : ∀ s, s < 128 → nI s &&& (63 : Int32) = nI (s % 64) := by decide +kernel
theorem z_shu : ∀ k, k < 64 → ((nI k).toInt64.toUInt64 &&& Int64.toUInt64 63).toNat % 64 = k := by decide +kernel
theorem z_shs : ∀ k, k < 64 → ((((nI k).toInt64 &&& 63) : Int64).toBitVec.smod 64).toNat = k := by decide +kernel
theorem z_and1 (v : Int64) : v &&& (1 : Int64) = if z_bt v 0 then 1 else 0 := by
  apply z_u_inj
  have e : z_u (1 : Int64) = 2 ^ 1 - 1 := by decide +kernel
  have e0 : z_u (0 : Int64) = 0 := by decide +kernel
  rw [z_u_and, e, Nat.and_two_pow_sub_one_eq_mod]
  have hb : z_bt v 0 = decide (z_u v % 2 = 1) := Nat.testBit_zero _
  rw [hb]
  by_cases h : z_u v % 2 = 1
  · rw [decide_eq_true h, if_pos rfl]
    show z_u v % 2 = z_u 1
    rw [h]
    rfl
  · rw [decide_eq_false h, if_neg (by decide), e0]
    show z_u v % 2 = 0
    omega
/-- the bit of a word that comes by >>> and & 1 -/
theorem z_bt_ushr (w : Int64) {S : UInt64} {k : Nat} (hS : S.toNat % 64 = k) (i : Nat) : z_bt (w.toUInt64 >>> S).toInt64 i = z_bt w (i + k) := by
  unfold z_bt
  rw [z_u_ushr, hS, Nat.testBit_div_two_pow]
theorem z_bit32 (w : Int64) {S : UInt64} {k : Nat} (hS : S.toNat % 64 = k) : ((w.toUInt64 >>> S).toInt64 &&& (1 : Int64)).toInt32 = if z_bt w k then 1 else 0 := by
  rw [z_and1, z_bt_ushr w hS, Nat.zero_add]
  split <;> rfl
/-- the bit of a word that comes by >> -/
theorem z_bt_sshr (w : Int64) {k : Nat} (hk : k < 64) : z_bt (w >>> ((nI k).toInt64 &&& 63)) 0 = z_bt w k := by
  have h : (w >>> ((nI k).toInt64 &&& 63)).toBitVec.getLsbD 0 = w.toBitVec.getLsbD k := by
    rw [Int64.toBitVec_shiftRight]
    show (w.toBitVec.sshiftRight (((nI k).toInt64 &&& 63).toBitVec.smod 64).toNat).getLsbD 0 = _
    rw [z_shs k hk, BitVec.getLsbD_sshiftRight]
    simp [hk]
  exact h
theorem z_sbit (w : Int64) {k : Nat} (hk : k < 64) : (w >>> ((nI k).toInt64 &&& 63)) &&& (1 : Int64) = if z_bt w k then 1 else 0 := by
  rw [z_and1, z_bt_sshr w hk]
/-! ===== how many bits: Long.bitCount ===== -/
def z_val : List Nat → Nat
  | [] => 0
  | b :: bs => b + 256 * z_val bs
theorem z_and_split {u v d M : Nat} (hu : u < 256) (hd : d < 256) : (u + 256 * v) &&& (d + 256 * M) = (u &&& d) + 256 * (v &&& M) := by
  have h1 : ((u + 256 * v) &&& (d + 256 * M)) % 2 ^ 8 = u &&& d := by
    rw [Nat.and_mod_two_pow, show (u + 256 * v) % 2 ^ 8 = u by omega, show (d + 256 * M) % 2 ^ 8 = d by omega]
  have h2 : ((u + 256 * v) &&& (d + 256 * M)) / 2 ^ 8 = v &&& M := by
    rw [Nat.and_div_two_pow, show (u + 256 * v) / 2 ^ 8 = v by omega, show (d + 256 * M) / 2 ^ 8 = M by omega]
  omega
def z_mk (m : Nat) : Nat → Nat
  | 0 => 0
  | k + 1 => m + 256 * z_mk m k
theorem z_and_le (a b : Nat) : a &&& b ≤ a := Nat.and_le_left
theorem z_p1 : ∀ b, b < 256 → ∀ c, c < 2 → (b / 2 + 128 * c) &&& 85 = (b / 2) &&& 85 ∧ (b / 2) &&& 85 ≤ b := by decide +kernel
theorem z_p2 : ∀ b, b < 256 → ∀ c, c < 4 → (b / 4 + 64 * c) &&& 51 = (b / 4) &&& 51 := by decide +kernel
theorem z_p3 : ∀ b, b < 256 → b % 16 ≤ 4 → b / 16 ≤ 4 → ∀ c, c < 5 → (b + b / 16 + 16 * c) &&& 15 = (b + b / 16) &&& 15 ∧ b + b / 16 + 16 * c < 256 := by decide +kernel
def z_s1 (b : Nat) : Nat := b - ((b / 2) &&& 85)
def z_s2 (b : Nat) : Nat := (b &&& 51) + ((b / 4) &&& 51)
def z_s3 (b : Nat) : Nat := (b + b / 16) &&& 15
theorem z_s_ok : ∀ b, b < 256 → z_s1 b < 256 ∧ z_s2 (z_s1 b) < 256 ∧ z_s2 (z_s1 b) % 16 ≤ 4 ∧ z_s2 (z_s1 b) / 16 ≤ 4 ∧ z_s3 (z_s2 (z_s1 b)) = z_cnt (fun i => b.testBit i) 8 := by decide +kernel
theorem z_st1 (bs : List Nat) (h : ∀ b ∈ bs, b < 256) : (z_val bs / 2) &&& z_mk 85 bs.length ≤ z_val bs ∧ z_val bs - ((z_val bs / 2) &&& z_mk 85 bs.length) = z_val (bs.map z_s1) := by
  induction bs with
  | nil => exact ⟨by decide, by decide⟩
  | cons b bs ih =>
    obtain ⟨i1, i2⟩ := ih (fun x hx => h x (List.mem_cons_of_mem _ hx))
    have hb := h b List.mem_cons_self
    have hc : z_val bs % 2 < 2 := Nat.mod_lt _ (by decide)
    obtain ⟨p1, p2⟩ := z_p1 b hb _ hc
    have e : (b + 256 * z_val bs) / 2 = (b / 2 + 128 * (z_val bs % 2)) + 256 * (z_val bs / 2) := by omega
    show ((b + 256 * z_val bs) / 2) &&& (85 + 256 * z_mk 85 bs.length) ≤ b + 256 * z_val bs ∧ b + 256 * z_val bs - (((b + 256 * z_val bs) / 2) &&& (85 + 256 * z_mk 85 bs.length)) = (b - ((b / 2) &&& 85)) + 256 * z_val (bs.map z_s1)
    rw [e, z_and_split (by omega) (by decide), p1, ← i2]
    omega
theorem z_st2 (bs : List Nat) (h : ∀ b ∈ bs, b < 256) : (z_val bs &&& z_mk 51 bs.length) + ((z_val bs / 4) &&& z_mk 51 bs.length) = z_val (bs.map z_s2) := by
  induction bs with
  | nil => decide
  | cons b bs ih =>
    have i2 := ih (fun x hx => h x (List.mem_cons_of_mem _ hx))
    have hb := h b List.mem_cons_self
    have hc : z_val bs % 4 < 4 := Nat.mod_lt _ (by decide)
    have p1 := z_p2 b hb _ hc
    have e : (b + 256 * z_val bs) / 4 = (b / 4 + 64 * (z_val bs % 4)) + 256 * (z_val bs / 4) := by omega
    show ((b + 256 * z_val bs) &&& (51 + 256 * z_mk 51 bs.length)) + (((b + 256 * z_val bs) / 4) &&& (51 + 256 * z_mk 51 bs.length)) = ((b &&& 51) + ((b / 4) &&& 51)) + 256 * z_val (bs.map z_s2)
    rw [e, z_and_split (by omega) (by decide), z_and_split (by omega) (by decide), p1, ← i2]
    omega
theorem z_low4 (bs : List Nat) (h : ∀ b ∈ bs, b < 256 ∧ b % 16 ≤ 4 ∧ b / 16 ≤ 4) : z_val bs % 16 < 5 := by
  cases bs with
  | nil => decide
  | cons b bs =>
    have := h b List.mem_cons_self
    show (b + 256 * z_val bs) % 16 < 5
    omega
theorem z_st3 (bs : List Nat) (h : ∀ b ∈ bs, b < 256 ∧ b % 16 ≤ 4 ∧ b / 16 ≤ 4) : (z_val bs + z_val bs / 16) &&& z_mk 15 bs.length = z_val (bs.map z_s3) := by
  induction bs with
  | nil => decide
  | cons b bs ih =>
    have hr := fun x hx => h x (List.mem_cons_of_mem b hx)
    have i2 := ih hr
    obtain ⟨hb, h1, h2⟩ := h b List.mem_cons_self
    obtain ⟨p1, p2⟩ := z_p3 b hb h1 h2 _ (z_low4 bs hr)
    have e : (b + 256 * z_val bs) + (b + 256 * z_val bs) / 16 = (b + b / 16 + 16 * (z_val bs % 16)) + 256 * (z_val bs + z_val bs / 16) := by omega
    show ((b + 256 * z_val bs) + (b + 256 * z_val bs) / 16) &&& (15 + 256 * z_mk 15 bs.length) = ((b + b / 16) &&& 15) + 256 * z_val (bs.map z_s3)
    rw [e, z_and_split (by omega) (by decide), p1, ← i2]
theorem z_bytes (n : Nat) (h : n < 2 ^ 64) : ∃ b0 b1 b2 b3 b4 b5 b6 b7 : Nat, (b0 < 256 ∧ b1 < 256 ∧ b2 < 256 ∧ b3 < 256 ∧ b4 < 256 ∧ b5 < 256 ∧ b6 < 256 ∧ b7 < 256) ∧ n = z_val [b0, b1, b2, b3, b4, b5, b6, b7] := by
  refine ⟨n % 256, n / 256 % 256, n / 65536 % 256, n / 16777216 % 256, n / 4294967296 % 256, n / 1099511627776 % 256, n / 281474976710656 % 256, n / 72057594037927936 % 256, ⟨?_, ?_, ?_, ?_, ?_, ?_, ?_, ?_⟩, ?_⟩
  · exact Nat.mod_lt _ (by decide)
  · exact Nat.mod_lt _ (by decide)
  · exact Nat.mod_lt _ (by decide)
  · exact Nat.mod_lt _ (by decide)
  · exact Nat.mod_lt _ (by decide)
  · exact Nat.mod_lt _ (by decide)
  · exact Nat.mod_lt _ (by decide)
  · exact Nat.mod_lt _ (by decide)
  · show n = n % 256 + 256 * (n / 256 % 256 + 256 * (n / 65536 % 256 + 256 * (n / 16777216 % 256 + 256 * (n / 4294967296 % 256 + 256 * (n / 1099511627776 % 256 + 256 * (n / 281474976710656 % 256 + 256 * (n / 72057594037927936 % 256 + 256 * 0)))))))
    omega
theorem z_val_bits (bs : List Nat) (h : ∀ b ∈ bs, b < 256) : z_cnt (fun i => (z_val bs).testBit i) (8 * bs.length) = (bs.map (fun b => z_cnt (fun i => b.testBit i) 8)).sum := by
  induction bs with
  | nil => rfl
  | cons b bs ih =>
    have i2 := ih (fun x hx => h x (List.mem_cons_of_mem _ hx))
    have hb := h b List.mem_cons_self
    have e : 8 * (b :: bs).length = 8 + 8 * bs.length := by rw [List.length_cons]; omega
    have ev : z_val (b :: bs) = 2 ^ 8 * z_val bs + b := by show b + 256 * z_val bs = _; omega
    rw [e, z_cnt_add, ev, List.map_cons, List.sum_cons, ← i2]
    have a1 : z_cnt (fun i => (2 ^ 8 * z_val bs + b).testBit i) 8 = z_cnt (fun i => b.testBit i) 8 := z_cnt_congr (fun i hi => by
      rw [Nat.testBit_two_pow_mul_add _ (by omega), if_pos hi])
    have a2 : z_cnt (fun i => (2 ^ 8 * z_val bs + b).testBit (8 + i)) (8 * bs.length) = z_cnt (fun i => (z_val bs).testBit i) (8 * bs.length) := z_cnt_congr (fun i hi => by
      rw [Nat.testBit_two_pow_mul_add _ (by omega), if_neg (by omega), Nat.add_sub_cancel_left])
    rw [a1, a2]
theorem z_sh1 : ((1 : Int32).toInt64.toUInt64 &&& Int64.toUInt64 63).toNat % 64 = 1 := by decide +kernel
theorem z_sh2 : ((2 : Int32).toInt64.toUInt64 &&& Int64.toUInt64 63).toNat % 64 = 2 := by decide +kernel
theorem z_sh4 : ((4 : Int32).toInt64.toUInt64 &&& Int64.toUInt64 63).toNat % 64 = 4 := by decide +kernel
theorem z_sh8 : ((8 : Int32).toInt64.toUInt64 &&& Int64.toUInt64 63).toNat % 64 = 8 := by decide +kernel
theorem z_sh16 : ((16 : Int32).toInt64.toUInt64 &&& Int64.toUInt64 63).toNat % 64 = 16 := by decide +kernel
theorem z_sh32 : ((32 : Int32).toInt64.toUInt64 &&& Int64.toUInt64 63).toNat % 64 = 32 := by decide +kernel
theorem z_k5 : z_u (6148914691236517205 : Int64) = z_mk 85 8 := by decide +kernel
theorem z_k3 : z_u (3689348814741910323 : Int64) = z_mk 51 8 := by decide +kernel
theorem z_kf : z_u (1085102592571150095 : Int64) = z_mk 15 8 := by decide +kernel
theorem z_cnt8 : ∀ b, b < 256 → z_cnt (fun i => b.testBit i) 8 ≤ 8 := fun b _ => z_cnt_le _ 8
/-- two numbers byte by byte -/
def z_za : List Nat → List Nat → List Nat
  | [], l => l
  | l, [] => l
  | a :: l, b :: k => (a + b) :: z_za l k
theorem z_za_val : ∀ (l k : List Nat), z_val (z_za l k) = z_val l + z_val k := by
  intro l
  induction l with
  | nil => intro k; show z_val (z_za [] k) = 0 + z_val k; rw [Nat.zero_add]; cases k <;> rfl
  | cons a l ih =>
    intro k
    cases k with
    | nil => rfl
    | cons b k =>
      show (a + b) + 256 * z_val (z_za l k) = (a + 256 * z_val l) + (b + 256 * z_val k)
      rw [ih k]
      omega
theorem z_val_div {b : Nat} {l : List Nat} (h : b < 256) : z_val (b :: l) / 256 = z_val l := by
  show (b + 256 * z_val l) / 256 = z_val l
  omega
theorem z_val_div2 {a b : Nat} {l : List Nat} (h : a < 256) (h2 : b < 256) : z_val (a :: b :: l) / 2 ^ 16 = z_val l := by
  rw [show 2 ^ 16 = 256 * 256 from rfl, ← Nat.div_div_eq_div_mul, z_val_div h, z_val_div h2]
theorem z_val_div4 {a b c d : Nat} {l : List Nat} (h : a < 256) (h2 : b < 256) (h3 : c < 256) (h4 : d < 256) : z_val (a :: b :: c :: d :: l) / 2 ^ 32 = z_val l := by
  rw [show 2 ^ 32 = 2 ^ 16 * 2 ^ 16 from rfl, ← Nat.div_div_eq_div_mul, z_val_div2 h h2, z_val_div2 h3 h4]
theorem z_val_le (m : Nat) (bs : List Nat) (h : ∀ b ∈ bs, b ≤ m) : 255 * z_val bs ≤ m * (256 ^ bs.length - 1) := by
  induction bs with
  | nil => exact Nat.zero_le _
  | cons b bs ih =>
    have i2 := ih (fun x hx => h x (List.mem_cons_of_mem _ hx))
    have hb := h b List.mem_cons_self
    have hp : 1 ≤ 256 ^ bs.length := Nat.one_le_two_pow (n := 8 * bs.length) |> fun q => by rw [Nat.pow_mul] at q; exact q
    have e : m * (256 ^ (bs.length + 1) - 1) = 256 * (m * (256 ^ bs.length - 1)) + 255 * m := by
      obtain ⟨t, ht⟩ : ∃ t, 256 ^ bs.length = t + 1 := ⟨256 ^ bs.length - 1, by omega⟩
      rw [Nat.pow_succ, ht, Nat.add_sub_cancel]
      have : (t + 1) * 256 - 1 = 256 * t + 255 := by omega
      rw [this, Nat.mul_add, Nat.mul_left_comm, Nat.mul_comm m 255]
    show 255 * (b + 256 * z_val bs) ≤ m * (256 ^ (bs.length + 1) - 1)
    rw [e]
    omega
theorem z_val_le8 (m : Nat) (l : List Nat) (h : ∀ b ∈ l, b ≤ m) (hl : l.length = 8) : 255 * z_val l ≤ m * 18446744073709551615 := by
  have t := z_val_le m l h
  rw [hl, show 256 ^ 8 - 1 = 18446744073709551615 by decide +kernel] at t
  exact t
theorem z_all8 {P : Nat → Prop} {a b c d e f g h : Nat} (h0 : P a) (h1 : P b) (h2 : P c) (h3 : P d) (h4 : P e) (h5 : P f) (h6 : P g) (h7 : P h) : ∀ x ∈ [a, b, c, d, e, f, g, h], P x := by
  intro x hx
  simp only [List.mem_cons, List.not_mem_nil, or_false] at hx
  rcases hx with rfl | rfl | rfl | rfl | rfl | rfl | rfl | rfl <;> assumption
/-- the last three steps: bytes of at most 8 are added up -/
theorem z_fold {p0 p1 p2 p3 p4 p5 p6 p7 y4 y5 y6 : Nat} (h0 : p0 ≤ 8) (h1 : p1 ≤ 8) (h2 : p2 ≤ 8) (h3 : p3 ≤ 8) (h4 : p4 ≤ 8) (h5 : p5 ≤ 8) (h6 : p6 ≤ 8) (h7 : p7 ≤ 8)
    (e4 : y4 = z_val [p0, p1, p2, p3, p4, p5, p6, p7] + z_val [p0, p1, p2, p3, p4, p5, p6, p7] / 2 ^ 8) (e5 : y5 = y4 + y4 / 2 ^ 16) (e6 : y6 = y5 + y5 / 2 ^ 32) :
    z_val [p0, p1, p2, p3, p4, p5, p6, p7] < 2 ^ 60 ∧ y4 < 2 ^ 61 ∧ y5 < 2 ^ 62 ∧ y6 < 2 ^ 63 ∧ y6 % 128 = p0 + p1 + p2 + p3 + p4 + p5 + p6 + p7 := by
  rw [show (2 : Nat) ^ 8 = 256 from rfl, z_val_div (by omega), ← z_za_val] at e4
  have f4 : y4 = z_val [p0 + p1, p1 + p2, p2 + p3, p3 + p4, p4 + p5, p5 + p6, p6 + p7, p7] := e4
  rw [f4, z_val_div2 (by omega) (by omega), ← z_za_val] at e5
  have f5 : y5 = z_val [p0 + p1 + (p2 + p3), p1 + p2 + (p3 + p4), p2 + p3 + (p4 + p5), p3 + p4 + (p5 + p6), p4 + p5 + (p6 + p7), p5 + p6 + p7, p6 + p7, p7] := e5
  rw [f5, z_val_div4 (by omega) (by omega) (by omega) (by omega), ← z_za_val] at e6
  have f6 : y6 = z_val [p0 + p1 + (p2 + p3) + (p4 + p5 + (p6 + p7)), p1 + p2 + (p3 + p4) + (p5 + p6 + p7), p2 + p3 + (p4 + p5) + (p6 + p7), p3 + p4 + (p5 + p6) + p7, p4 + p5 + (p6 + p7), p5 + p6 + p7, p6 + p7, p7] := e6
  have b3 := z_val_le8 8 [p0, p1, p2, p3, p4, p5, p6, p7] (z_all8 h0 h1 h2 h3 h4 h5 h6 h7) rfl
  have b4 := z_val_le8 16 [p0 + p1, p1 + p2, p2 + p3, p3 + p4, p4 + p5, p5 + p6, p6 + p7, p7] (z_all8 (by omega) (by omega) (by omega) (by omega) (by omega) (by omega) (by omega) (by omega)) rfl
  have b5 := z_val_le8 32 _ (z_all8 (P := fun x => x ≤ 32) (a := p0 + p1 + (p2 + p3)) (b := p1 + p2 + (p3 + p4)) (c := p2 + p3 + (p4 + p5)) (d := p3 + p4 + (p5 + p6)) (e := p4 + p5 + (p6 + p7)) (f := p5 + p6 + p7) (g := p6 + p7) (h := p7) (by omega) (by omega) (by omega) (by omega) (by omega) (by omega) (by omega) (by omega)) rfl
  have b6 := z_val_le8 64 _ (z_all8 (P := fun x => x ≤ 64) (a := p0 + p1 + (p2 + p3) + (p4 + p5 + (p6 + p7))) (b := p1 + p2 + (p3 + p4) + (p5 + p6 + p7)) (c := p2 + p3 + (p4 + p5) + (p6 + p7)) (d := p3 + p4 + (p5 + p6) + p7) (e := p4 + p5 + (p6 + p7)) (f := p5 + p6 + p7) (g := p6 + p7) (h := p7) (by omega) (by omega) (by omega) (by omega) (by omega) (by omega) (by omega) (by omega)) rfl
  rw [← f4] at b4
  rw [← f5] at b5
  rw [← f6] at b6
  refine ⟨by omega, by omega, by omega, by omega, ?_⟩
  rw [f6]
  show (p0 + p1 + (p2 + p3) + (p4 + p5 + (p6 + p7)) + 256 * _) % 128 = _
  omega
theorem z_u_lN (x : Int64) : x = lN (z_u x) := by
  apply z_u_inj
  have h : z_u (lN (z_u x)) = z_u x % 2 ^ 64 := rfl
  rw [h, Nat.mod_eq_of_lt (z_u_lt x)]
theorem z_lt_in {α β : Type} {e : α} {k : α → Option β} {r : Option β} (h : ∀ y, y = e → k y = r) : z_lt e k = r := h e rfl
