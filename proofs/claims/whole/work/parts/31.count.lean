set_option maxRecDepth 20000 in
theorem zm_bitCount (x : Int64) : zf_JL_bitCount x = some (nI (z_cnt (z_bt x) 64)) := by
  obtain ⟨b0, b1, b2, b3, b4, b5, b6, b7, ⟨l0, l1, l2, l3, l4, l5, l6, l7⟩, ex⟩ := z_bytes (z_u x) (z_u_lt x)
  have hbs : ∀ b ∈ [b0, b1, b2, b3, b4, b5, b6, b7], b < 256 := by
    intro b hb
    simp only [List.mem_cons, List.not_mem_nil, or_false] at hb
    rcases hb with rfl | rfl | rfl | rfl | rfl | rfl | rfl | rfl <;> assumption
  have c0 := z_s_ok b0 l0
  have c1 := z_s_ok b1 l1
  have c2 := z_s_ok b2 l2
  have c3 := z_s_ok b3 l3
  have c4 := z_s_ok b4 l4
  have c5 := z_s_ok b5 l5
  have c6 := z_s_ok b6 l6
  have c7 := z_s_ok b7 l7
  have hb1 : ∀ b ∈ [z_s1 b0, z_s1 b1, z_s1 b2, z_s1 b3, z_s1 b4, z_s1 b5, z_s1 b6, z_s1 b7], b < 256 := by
    intro b hb
    simp only [List.mem_cons, List.not_mem_nil, or_false] at hb
    rcases hb with rfl | rfl | rfl | rfl | rfl | rfl | rfl | rfl
    · exact c0.1
    · exact c1.1
    · exact c2.1
    · exact c3.1
    · exact c4.1
    · exact c5.1
    · exact c6.1
    · exact c7.1
  have hb2 : ∀ b ∈ [z_s2 (z_s1 b0), z_s2 (z_s1 b1), z_s2 (z_s1 b2), z_s2 (z_s1 b3), z_s2 (z_s1 b4), z_s2 (z_s1 b5), z_s2 (z_s1 b6), z_s2 (z_s1 b7)], b < 256 ∧ b % 16 ≤ 4 ∧ b / 16 ≤ 4 := by
    intro b hb
    simp only [List.mem_cons, List.not_mem_nil, or_false] at hb
    rcases hb with rfl | rfl | rfl | rfl | rfl | rfl | rfl | rfl
    · exact ⟨c0.2.1, c0.2.2.1, c0.2.2.2.1⟩
    · exact ⟨c1.2.1, c1.2.2.1, c1.2.2.2.1⟩
    · exact ⟨c2.2.1, c2.2.2.1, c2.2.2.2.1⟩
    · exact ⟨c3.2.1, c3.2.2.1, c3.2.2.2.1⟩
    · exact ⟨c4.2.1, c4.2.2.1, c4.2.2.2.1⟩
    · exact ⟨c5.2.1, c5.2.2.1, c5.2.2.2.1⟩
    · exact ⟨c6.2.1, c6.2.2.1, c6.2.2.2.1⟩
    · exact ⟨c7.2.1, c7.2.2.1, c7.2.2.2.1⟩
  have t1 := z_st1 _ hbs
  have t2 := z_st2 _ hb1
  have t3 := z_st3 _ hb2
  have m2 := z_val_le8 68 _ (fun b hb => show b ≤ 68 by have := hb2 b hb; omega) rfl
  have tb := z_val_bits _ hbs
  unfold zf_JL_bitCount
  refine z_lt_in (fun y1 e1 => ?_)
  have u1 : z_u y1 = z_val [z_s1 b0, z_s1 b1, z_s1 b2, z_s1 b3, z_s1 b4, z_s1 b5, z_s1 b6, z_s1 b7] := by
    rw [e1, z_u_sub (by rw [z_u_and, z_u_ushr, z_sh1, z_k5, ex]; exact t1.1), z_u_and, z_u_ushr, z_sh1, z_k5, ex]
    exact t1.2
  refine z_lt_in (fun y2 e2 => ?_)
  have u2 : z_u y2 = z_val [z_s2 (z_s1 b0), z_s2 (z_s1 b1), z_s2 (z_s1 b2), z_s2 (z_s1 b3), z_s2 (z_s1 b4), z_s2 (z_s1 b5), z_s2 (z_s1 b6), z_s2 (z_s1 b7)] := by
    rw [e2, z_u_add, z_u_and, z_u_and, z_u_ushr, z_sh2, z_k3, u1]
    have t2' : (z_val [z_s1 b0, z_s1 b1, z_s1 b2, z_s1 b3, z_s1 b4, z_s1 b5, z_s1 b6, z_s1 b7] &&& z_mk 51 8) + ((z_val [z_s1 b0, z_s1 b1, z_s1 b2, z_s1 b3, z_s1 b4, z_s1 b5, z_s1 b6, z_s1 b7] / 2 ^ 2) &&& z_mk 51 8) = z_val [z_s2 (z_s1 b0), z_s2 (z_s1 b1), z_s2 (z_s1 b2), z_s2 (z_s1 b3), z_s2 (z_s1 b4), z_s2 (z_s1 b5), z_s2 (z_s1 b6), z_s2 (z_s1 b7)] := t2
    rw [t2']
    apply Nat.mod_eq_of_lt
    omega
  have m2' : 255 * z_u y2 ≤ 68 * 18446744073709551615 := by rw [u2]; exact m2
  refine z_lt_in (fun y3 e3 => ?_)
  have u3 : z_u y3 = z_val [z_s3 (z_s2 (z_s1 b0)), z_s3 (z_s2 (z_s1 b1)), z_s3 (z_s2 (z_s1 b2)), z_s3 (z_s2 (z_s1 b3)), z_s3 (z_s2 (z_s1 b4)), z_s3 (z_s2 (z_s1 b5)), z_s3 (z_s2 (z_s1 b6)), z_s3 (z_s2 (z_s1 b7))] := by
    rw [e3, z_u_and, z_u_add, z_u_ushr, z_sh4, z_kf, Nat.mod_eq_of_lt (by omega), u2]
    exact t3
  have q0 := c0.2.2.2.2
  have q1 := c1.2.2.2.2
  have q2 := c2.2.2.2.2
  have q3 := c3.2.2.2.2
  have q4 := c4.2.2.2.2
  have q5 := c5.2.2.2.2
  have q6 := c6.2.2.2.2
  have q7 := c7.2.2.2.2
  rw [q0, q1, q2, q3, q4, q5, q6, q7] at u3
  obtain ⟨w3, w4, w5, w6, w7⟩ := z_fold (z_cnt_le (fun i => b0.testBit i) 8) (z_cnt_le (fun i => b1.testBit i) 8) (z_cnt_le (fun i => b2.testBit i) 8) (z_cnt_le (fun i => b3.testBit i) 8) (z_cnt_le (fun i => b4.testBit i) 8) (z_cnt_le (fun i => b5.testBit i) 8) (z_cnt_le (fun i => b6.testBit i) 8) (z_cnt_le (fun i => b7.testBit i) 8) rfl rfl rfl
  rw [← u3] at w3 w4 w5 w6 w7
  refine z_lt_in (fun y4 e4 => ?_)
  have u4 : z_u y4 = z_u y3 + z_u y3 / 2 ^ 8 := by rw [e4, z_u_add, z_u_ushr, z_sh8, Nat.mod_eq_of_lt (by omega)]
  rw [← u4] at w4 w5 w6 w7
  refine z_lt_in (fun y5 e5 => ?_)
  have u5 : z_u y5 = z_u y4 + z_u y4 / 2 ^ 16 := by rw [e5, z_u_add, z_u_ushr, z_sh16, Nat.mod_eq_of_lt (by omega)]
  rw [← u5] at w5 w6 w7
  refine z_lt_in (fun y6 e6 => ?_)
  have u6 : z_u y6 = z_u y5 + z_u y5 / 2 ^ 32 := by rw [e6, z_u_add, z_u_ushr, z_sh32, Nat.mod_eq_of_lt (by omega)]
  rw [← u6] at w6 w7
  have ec : z_cnt (z_bt x) 64 = z_u y6 % 128 := by
    rw [w7]
    have tb' : z_cnt (fun i => (z_u x).testBit i) 64 = ([b0, b1, b2, b3, b4, b5, b6, b7].map (fun b => z_cnt (fun i => b.testBit i) 8)).sum := by rw [ex]; exact tb
    refine Eq.trans tb' ?_
    simp only [List.map_cons, List.map_nil, List.sum_cons, List.sum_nil]
    omega
  rw [ec]
  congr 1
  have e7 : y6.toInt32 = nI (z_u y6) := by
    have := lN_i (z_u y6)
    rw [← z_u_lN] at this
    exact this
  rw [e7, pk_and (nI (z_u y6)) (m := 127) 7 (by decide +kernel)]
  have e8 : (nI (z_u y6)).toBitVec.toNat = z_u y6 % 2 ^ 32 := rfl
  rw [e8]
  congr 1
  omega
