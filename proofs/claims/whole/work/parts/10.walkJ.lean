set_option maxHeartbeats 4000000 in
set_option maxRecDepth 100000 in
theorem zk_JA_fill_5 {p : Program} {l : Launch} {e : Env} {s : State} {m : MethodId} {args : Array Value} {below : List Frame} {meth : Method} {c : Code} {dC : Nat → ClassId} {dI : Nat → Nat → Nat} {cC cI cJ : ClassId} {A : Nat → Prop} {tp : Nat} {h_p0 : Nat} {n_p0 : Nat} {o_p0 : Nat → Int32} (C0 : z_kx p s m args meth c "java/util/Arrays" zb_JA_fill 4 none) (hK : va_K (dC, dI) vwCl (z_tys cC cI cJ) s) (hA : ∀ q : Nat, s.heap.size ≤ q → A q) (hX : z_X tp A s) :
    ∀ n : Nat, ∀ (x1 : Int32) (x2 : Int32) (x3 : Int32) (p0 : Nat → Int32) (H : Heap) (locs : List Loc) (ls : Array Slot), va_P (dC, dI) vwCl (zd_pI cC cI cJ h_p0 n_p0 p0) H → va_D A (zd_pI cC cI cJ h_p0 n_p0 p0) → va_S A s.heap H locs → lv_has ls 4 [(0, .ref h_p0), (1, .int x1), (2, .int x2), (3, .int x3)] → zf_JA_fill_5 n x1 x2 x3 n_p0 p0 = some (o_p0) → W p l e (headSpec zs_JA_fill rm_JA_fill).room s m args below meth c H locs 0 0 (MQ below (zq_JA_fill dC dI cC cI cJ h_p0 n_p0 o_p0 A) args s 0 0 A) (F0 m 5 ls []) := by
  obtain ⟨hx, hb, hr, hml, hown, ht, hlocks⟩ := id C0
  intro n
  induction n with
  | zero =>
    intro x1 x2 x3 p0 H locs ls hP hD hS hl h
    cases (show none = some _ from h)
  | succ n ih =>
    intro x1 x2 x3 p0 H locs ls hP hD hS hl h
    rw [zf_JA_fill_5] at h
    refine lv_iload_n hx hb ze_JA_fill_5 rfl (lv_at hl 2 rfl) ?_
    refine lv_iload_n hx hb ze_JA_fill_6 rfl (lv_at hl 3 rfl) ?_
    refine lv_icmp_ge (tgt := 20) hx hb ze_JA_fill_7 (by decide) (fun c1 => ?_) (fun c1 => ?_)
    · replace h := z_it_t c1 h
      cases h
      exact W.vret hx hb hr (fun t ht9 hW => ⟨⟨(), rfl, trivial, by rw [ht9]; exact hP, hD⟩, hS.F ht9⟩) hS.2.2 ze_JA_fill_20
    · replace h := z_it_f c1 h
      refine lv_aload_n hx hb ze_JA_fill_10 rfl (lv_at hl 0 rfl) ?_
      refine lv_iload_n hx hb ze_JA_fill_11 rfl (lv_at hl 2 rfl) ?_
      refine lv_iload_n hx hb ze_JA_fill_12 rfl (lv_at hl 1 rfl) ?_
      obtain ⟨g2, h⟩ := z_gd_some h
      refine va_iast hx hb hK hP hD hS 0 1 rfl rfl g2 ze_JA_fill_13 (fun H locs hP hD hS => ?_)
      have hP : va_P (dC, dI) vwCl (zd_pI cC cI cJ h_p0 n_p0 (upd p0 x2.toNatClampNeg x1)) H := hP
      have hD : va_D A (zd_pI cC cI cJ h_p0 n_p0 (upd p0 x2.toNatClampNeg x1)) := hD
      refine lv_iinc (v := (x2 + (1 : Int32))) (lv' := [(2, .int (x2 + (1 : Int32))), (0, .ref h_p0), (1, .int x1), (3, .int x3)]) hx hb ze_JA_fill_14 hl (k := 2) rfl rfl (by decide) rfl (fun ls hl => ?_)
      refine lv_goto (tgt := 5) hx hb ze_JA_fill_17 (by decide) ?_
      exact ih x1 (x2 + (1 : Int32)) x3 (upd p0 x2.toNatClampNeg x1) _ _ _ hP hD hS (lv_sub hl [1, 2, 0, 3] rfl) h
set_option maxHeartbeats 4000000 in
set_option maxRecDepth 100000 in
theorem zc_JA_fill (l : Launch) (dC : Nat → ClassId) (dI : Nat → Nat → Nat) (cC : ClassId) (cI : ClassId) (cJ : ClassId) (tp : Nat) (h_p0 : Nat) (n_p0 : Nat) (sz : Nat) (p0 : Nat → Int32) (x1 : Int32) (o_p0 : Nat → Int32) (h : zf_JA_fill x1 n_p0 p0 = some (o_p0)) : Met l zy_JA_fill zs_JA_fill (rm_JA_fill) (va_Pc [.ref h_p0, .int x1] (fun U => U.heap.size = sz ∧ va_P (dC, dI) vwCl (zd_pI cC cI cJ h_p0 n_p0 p0) U.heap ∧ va_K (dC, dI) vwCl (z_tys cC cI cJ) U ∧ va_D (fun _ => True) (zd_pI cC cI cJ h_p0 n_p0 p0) ∧ z_X tp (va_A (zd_pI cC cI cJ h_p0 n_p0 p0) sz) U)) (zq_JA_fill dC dI cC cI cJ h_p0 n_p0 o_p0 (va_A (zd_pI cC cI cJ h_p0 n_p0 p0) sz)) 0 0 (va_A (zd_pI cC cI cJ h_p0 n_p0 p0) sz) := by
  refine Met.ofW (cc := zb_JA_fill) (maxL := 4) (ret := none) (by decide) rfl ?_
  intro p e s m args below meth c s₁ B hml hv
  obtain ⟨rfl, hsz, hP, hK, hD0, hX⟩ := hv
  have hx := B.exec
  have hb := B.bytes
  have hr := B.returns
  have hts := atoms_spec (ws := zs_JA_fill) B.pre
  have ht : ∀ w ∈ z_W, w.before _ s = true := fun w h => hts w (List.mem_cons_of_mem _ h)
  have hown : s.vm.findClass "java/util/Arrays" = some m.cls := findClass_of_methodNamed B.named
  have hlocks := B.notSynchronized
  have C0 : z_kx p s m _ meth c "java/util/Arrays" zb_JA_fill 4 none := ⟨hx, hb, hr, hml, hown, ht, hlocks⟩
  subst hsz
  have hD := hD0.self (sz := s.heap.size)
  generalize hAe : va_A (zd_pI cC cI cJ h_p0 n_p0 p0) s.heap.size = A at hD hX ⊢
  have hA : ∀ q : Nat, s.heap.size ≤ q → A q := fun q h => by rw [← hAe]; exact Or.inr h
  have hS : va_S A s.heap s.heap [] := va_S.rf
  have hl := lv_entry ([.ref h_p0, .int x1]) (n := 4) (Nat.le_of_ble_eq_true rfl)
  rw [lg_entry_eq]
  generalize (lg_sl ([.ref h_p0, .int x1]) ++ List.replicate (4 - (lg_sl ([.ref h_p0, .int x1])).length) Slot.unset).toArray = ls at hl ⊢
  have hl : lv_has ls 4 [(0, .ref h_p0), (1, .int x1)] := hl
  rw [zf_JA_fill] at h
  refine lv_iconst (v := (0 : Int32)) hx hb ze_JA_fill_0 (by decide) ?_
  refine lv_istore_n (lv' := [(2, .int (0 : Int32)), (0, .ref h_p0), (1, .int x1)]) hx hb ze_JA_fill_1 rfl hl (by decide) rfl (fun ls hl => ?_)
  refine lv_aload_n hx hb ze_JA_fill_2 rfl (lv_at hl 1 rfl) ?_
  refine va_alen (v := (Int32.ofNat n_p0)) hx hb hK hP 0 1 rfl rfl rfl ze_JA_fill_3 ?_
  refine lv_istore_n (lv' := [(3, .int (Int32.ofNat n_p0)), (2, .int (0 : Int32)), (0, .ref h_p0), (1, .int x1)]) hx hb ze_JA_fill_4 rfl hl (by decide) rfl (fun ls hl => ?_)
  exact zk_JA_fill_5 C0 hK hA hX z_FU x1 (0 : Int32) (Int32.ofNat n_p0) p0 _ _ _ hP hD hS (lv_sub hl [2, 3, 1, 0] rfl) h
set_option maxHeartbeats 4000000 in
set_option maxRecDepth 100000 in
theorem zc_JL_bitCount (l : Launch) (dC : Nat → ClassId) (dI : Nat → Nat → Nat) (cC : ClassId) (cI : ClassId) (cJ : ClassId) (tp : Nat) (sz : Nat) (x0 : Int64) (o_r : Int32) (h : zf_JL_bitCount x0 = some (o_r)) : Met l zy_JL_bitCount zs_JL_bitCount (rm_JL_bitCount) (va_Pc [.long x0] (fun U => U.heap.size = sz ∧ va_P (dC, dI) vwCl (zd_ cC cI cJ) U.heap ∧ va_K (dC, dI) vwCl (z_tys cC cI cJ) U ∧ va_D (fun _ => True) (zd_ cC cI cJ) ∧ z_X tp (va_A (zd_ cC cI cJ) sz) U)) (zq_JL_bitCount dC dI cC cI cJ o_r (va_A (zd_ cC cI cJ) sz)) 0 0 (va_A (zd_ cC cI cJ) sz) := by
  refine Met.ofW (cc := zb_JL_bitCount) (maxL := 2) (ret := (some .int)) (by decide) rfl ?_
  intro p e s m args below meth c s₁ B hml hv
  obtain ⟨rfl, hsz, hP, hK, hD0, hX⟩ := hv
  have hx := B.exec
  have hb := B.bytes
  have hr := B.returns
  have hts := atoms_spec (ws := zs_JL_bitCount) B.pre
  have ht : ∀ w ∈ z_W, w.before _ s = true := fun w h => hts w (List.mem_cons_of_mem _ h)
  have hown : s.vm.findClass "java/lang/Long" = some m.cls := findClass_of_methodNamed B.named
  have hlocks := B.notSynchronized
  have C0 : z_kx p s m _ meth c "java/lang/Long" zb_JL_bitCount 2 (some .int) := ⟨hx, hb, hr, hml, hown, ht, hlocks⟩
  subst hsz
  have hD := hD0.self (sz := s.heap.size)
  generalize hAe : va_A (zd_ cC cI cJ) s.heap.size = A at hD hX ⊢
  have hA : ∀ q : Nat, s.heap.size ≤ q → A q := fun q h => by rw [← hAe]; exact Or.inr h
  have hS : va_S A s.heap s.heap [] := va_S.rf
  have hl := lv_entry ([.long x0]) (n := 2) (Nat.le_of_ble_eq_true rfl)
  rw [lg_entry_eq]
  generalize (lg_sl ([.long x0]) ++ List.replicate (2 - (lg_sl ([.long x0])).length) Slot.unset).toArray = ls at hl ⊢
  have hl : lv_has ls 2 [(0, .long x0)] := hl
  rw [zf_JL_bitCount] at h
  refine lv_lload_n hx hb ze_JL_bitCount_0 rfl (lv_at hl 0 rfl) ?_
  refine lv_lload_n hx hb ze_JL_bitCount_1 rfl (lv_at hl 0 rfl) ?_
  refine lv_iconst (v := (1 : Int32)) hx hb ze_JL_bitCount_2 (by decide) ?_
  refine lv_lushr hx hb ze_JL_bitCount_3 rfl ?_
  refine lv_ldc2 (v := (6148914691236517205 : Int64)) hx hb hown (ht _ zw_453) ze_JL_bitCount_4 ?_
  refine lv_land hx hb ze_JL_bitCount_7 ?_
  refine lv_lsub hx hb ze_JL_bitCount_8 ?_
  obtain ⟨y1, ey1, h⟩ := z_lt_some h
  rw [← ey1]
  refine lv_lstore_n (lv' := [(0, .long y1)]) hx hb ze_JL_bitCount_9 rfl hl (by decide) rfl (fun ls hl => ?_)
  refine lv_lload_n hx hb ze_JL_bitCount_10 rfl (lv_at hl 0 rfl) ?_
  refine lv_ldc2 (v := (3689348814741910323 : Int64)) hx hb hown (ht _ zw_454) ze_JL_bitCount_11 ?_
  refine lv_land hx hb ze_JL_bitCount_14 ?_
  refine lv_lload_n hx hb ze_JL_bitCount_15 rfl (lv_at hl 0 rfl) ?_
  refine lv_iconst (v := (2 : Int32)) hx hb ze_JL_bitCount_16 (by decide) ?_
  refine lv_lushr hx hb ze_JL_bitCount_17 rfl ?_
  refine lv_ldc2 (v := (3689348814741910323 : Int64)) hx hb hown (ht _ zw_454) ze_JL_bitCount_18 ?_
  refine lv_land hx hb ze_JL_bitCount_21 ?_
  refine lv_ladd hx hb ze_JL_bitCount_22 ?_
  obtain ⟨y2, ey2, h⟩ := z_lt_some h
  rw [← ey2]
  refine lv_lstore_n (lv' := [(0, .long y2)]) hx hb ze_JL_bitCount_23 rfl hl (by decide) rfl (fun ls hl => ?_)
  refine lv_lload_n hx hb ze_JL_bitCount_24 rfl (lv_at hl 0 rfl) ?_
  refine lv_lload_n hx hb ze_JL_bitCount_25 rfl (lv_at hl 0 rfl) ?_
  refine lv_iconst (v := (4 : Int32)) hx hb ze_JL_bitCount_26 (by decide) ?_
  refine lv_lushr hx hb ze_JL_bitCount_27 rfl ?_
  refine lv_ladd hx hb ze_JL_bitCount_28 ?_
  refine lv_ldc2 (v := (1085102592571150095 : Int64)) hx hb hown (ht _ zw_455) ze_JL_bitCount_29 ?_
  refine lv_land hx hb ze_JL_bitCount_32 ?_
  obtain ⟨y3, ey3, h⟩ := z_lt_some h
  rw [← ey3]
  refine lv_lstore_n (lv' := [(0, .long y3)]) hx hb ze_JL_bitCount_33 rfl hl (by decide) rfl (fun ls hl => ?_)
  refine lv_lload_n hx hb ze_JL_bitCount_34 rfl (lv_at hl 0 rfl) ?_
  refine lv_lload_n hx hb ze_JL_bitCount_35 rfl (lv_at hl 0 rfl) ?_
  refine lv_bipush (v := (8 : Int32)) hx hb ze_JL_bitCount_36 (by decide) ?_
  refine lv_lushr hx hb ze_JL_bitCount_38 rfl ?_
  refine lv_ladd hx hb ze_JL_bitCount_39 ?_
  obtain ⟨y4, ey4, h⟩ := z_lt_some h
  rw [← ey4]
  refine lv_lstore_n (lv' := [(0, .long y4)]) hx hb ze_JL_bitCount_40 rfl hl (by decide) rfl (fun ls hl => ?_)
  refine lv_lload_n hx hb ze_JL_bitCount_41 rfl (lv_at hl 0 rfl) ?_
  refine lv_lload_n hx hb ze_JL_bitCount_42 rfl (lv_at hl 0 rfl) ?_
  refine lv_bipush (v := (16 : Int32)) hx hb ze_JL_bitCount_43 (by decide) ?_
  refine lv_lushr hx hb ze_JL_bitCount_45 rfl ?_
  refine lv_ladd hx hb ze_JL_bitCount_46 ?_
  obtain ⟨y5, ey5, h⟩ := z_lt_some h
  rw [← ey5]
  refine lv_lstore_n (lv' := [(0, .long y5)]) hx hb ze_JL_bitCount_47 rfl hl (by decide) rfl (fun ls hl => ?_)
  refine lv_lload_n hx hb ze_JL_bitCount_48 rfl (lv_at hl 0 rfl) ?_
  refine lv_lload_n hx hb ze_JL_bitCount_49 rfl (lv_at hl 0 rfl) ?_
  refine lv_bipush (v := (32 : Int32)) hx hb ze_JL_bitCount_50 (by decide) ?_
  refine lv_lushr hx hb ze_JL_bitCount_52 rfl ?_
  refine lv_ladd hx hb ze_JL_bitCount_53 ?_
  obtain ⟨y6, ey6, h⟩ := z_lt_some h
  rw [← ey6]
  refine lv_lstore_n (lv' := [(0, .long y6)]) hx hb ze_JL_bitCount_54 rfl hl (by decide) rfl (fun ls hl => ?_)
  refine lv_lload_n hx hb ze_JL_bitCount_55 rfl (lv_at hl 0 rfl) ?_
  refine lv_l2i hx hb ze_JL_bitCount_56 rfl ?_
  refine lv_bipush (v := (127 : Int32)) hx hb ze_JL_bitCount_57 (by decide) ?_
  refine lv_iand hx hb ze_JL_bitCount_59 ?_
  cases h
  exact W.iret hx hb hr (fun t ht9 hW => ⟨⟨_, (), rfl, rfl, by rw [ht9]; exact hP, hD⟩, hS.F ht9⟩) hS.2.2 ze_JL_bitCount_60
set_option maxHeartbeats 4000000 in
set_option maxRecDepth 100000 in
theorem zk_N_indexOf_2 {p : Program} {l : Launch} {e : Env} {s : State} {m : MethodId} {args : Array Value} {below : List Frame} {meth : Method} {c : Code} {dC : Nat → ClassId} {dI : Nat → Nat → Nat} {cC cI cJ : ClassId} {A : Nat → Prop} {tp : Nat} {h_p1 : Nat} {n_p1 : Nat} {o_r : Int32} (C0 : z_kx p s m args meth c "RuleNetwork" zb_N_indexOf 4 (some .int)) (hK : va_K (dC, dI) vwCl (z_tys cC cI cJ) s) (hA : ∀ q : Nat, s.heap.size ≤ q → A q) (hX : z_X tp A s) :
    ∀ n : Nat, ∀ (x0 : Int32) (x2 : Int32) (x3 : Int32) (p1 : Nat → Int32) (H : Heap) (locs : List Loc) (ls : Array Slot), va_P (dC, dI) vwCl (zd_pC cC cI cJ h_p1 n_p1 p1) H → va_D A (zd_pC cC cI cJ h_p1 n_p1 p1) → va_S A s.heap H locs → lv_has ls 4 [(0, .int x0), (1, .ref h_p1), (2, .int x2), (3, .int x3)] → zf_N_indexOf_2 n x0 x2 x3 n_p1 p1 = some (o_r) → W p l e (headSpec zs_N_indexOf rm_N_indexOf).room s m args below meth c H locs 0 0 (MQ below (zq_N_indexOf dC dI cC cI cJ h_p1 n_p1 p1 o_r A) args s 0 0 A) (F0 m 2 ls []) := by
  obtain ⟨hx, hb, hr, hml, hown, ht, hlocks⟩ := id C0
  intro n
  induction n with
  | zero =>
    intro x0 x2 x3 p1 H locs ls hP hD hS hl h
    cases (show none = some _ from h)
  | succ n ih =>
    intro x0 x2 x3 p1 H locs ls hP hD hS hl h
    rw [zf_N_indexOf_2] at h
    refine lv_iload_n hx hb ze_N_indexOf_2 rfl (lv_at hl 3 rfl) ?_
    refine lv_iload_n hx hb ze_N_indexOf_3 rfl (lv_at hl 2 rfl) ?_
    refine lv_icmp_ge (tgt := 22) hx hb ze_N_indexOf_4 (by decide) (fun c1 => ?_) (fun c1 => ?_)
    · replace h := z_it_t c1 h
      refine lv_iconst (v := (-1 : Int32)) hx hb ze_N_indexOf_22 (by decide) ?_
      cases h
      exact W.iret hx hb hr (fun t ht9 hW => ⟨⟨_, (), rfl, rfl, by rw [ht9]; exact hP, hD⟩, hS.F ht9⟩) hS.2.2 ze_N_indexOf_23
    · replace h := z_it_f c1 h
      refine lv_aload_n hx hb ze_N_indexOf_7 rfl (lv_at hl 1 rfl) ?_
      refine lv_iload_n hx hb ze_N_indexOf_8 rfl (lv_at hl 3 rfl) ?_
      obtain ⟨g2, h⟩ := z_gd_some h
      refine va_cald hx hb hK hP 0 0 rfl rfl g2 ze_N_indexOf_9 ?_
      refine lv_iload_n hx hb ze_N_indexOf_10 rfl (lv_at hl 0 rfl) ?_
      refine lv_icmp_ne (tgt := 16) hx hb ze_N_indexOf_11 (by decide) (fun c3 => ?_) (fun c3 => ?_)
      · replace h := z_it_f c3 h
        refine lv_iinc (v := (x3 + (1 : Int32))) (lv' := [(3, .int (x3 + (1 : Int32))), (0, .int x0), (1, .ref h_p1), (2, .int x2)]) hx hb ze_N_indexOf_16 hl (k := 3) rfl rfl (by decide) rfl (fun ls hl => ?_)
        refine lv_goto (tgt := 2) hx hb ze_N_indexOf_19 (by decide) ?_
        exact ih x0 x2 (x3 + (1 : Int32)) p1 _ _ _ hP hD hS (lv_sub hl [1, 2, 3, 0] rfl) h
      · replace h := z_it_t c3 h
        refine lv_iload_n hx hb ze_N_indexOf_14 rfl (lv_at hl 3 rfl) ?_
        cases h
        exact W.iret hx hb hr (fun t ht9 hW => ⟨⟨_, (), rfl, rfl, by rw [ht9]; exact hP, hD⟩, hS.F ht9⟩) hS.2.2 ze_N_indexOf_15
set_option maxHeartbeats 4000000 in
set_option maxRecDepth 100000 in
theorem zc_N_indexOf (l : Launch) (dC : Nat → ClassId) (dI : Nat → Nat → Nat) (cC : ClassId) (cI : ClassId) (cJ : ClassId) (tp : Nat) (h_p1 : Nat) (n_p1 : Nat) (sz : Nat) (p1 : Nat → Int32) (x0 : Int32) (x2 : Int32) (o_r : Int32) (h : zf_N_indexOf x0 x2 n_p1 p1 = some (o_r)) : Met l zy_N_indexOf zs_N_indexOf (rm_N_indexOf) (va_Pc [.int x0, .ref h_p1, .int x2] (fun U => U.heap.size = sz ∧ va_P (dC, dI) vwCl (zd_pC cC cI cJ h_p1 n_p1 p1) U.heap ∧ va_K (dC, dI) vwCl (z_tys cC cI cJ) U ∧ va_D (fun _ => True) (zd_pC cC cI cJ h_p1 n_p1 p1) ∧ z_X tp (va_A (zd_pC cC cI cJ h_p1 n_p1 p1) sz) U)) (zq_N_indexOf dC dI cC cI cJ h_p1 n_p1 p1 o_r (va_A (zd_pC cC cI cJ h_p1 n_p1 p1) sz)) 0 0 (va_A (zd_pC cC cI cJ h_p1 n_p1 p1) sz) := by
  refine Met.ofW (cc := zb_N_indexOf) (maxL := 4) (ret := (some .int)) (by decide) rfl ?_
  intro p e s m args below meth c s₁ B hml hv
  obtain ⟨rfl, hsz, hP, hK, hD0, hX⟩ := hv
  have hx := B.exec
  have hb := B.bytes
  have hr := B.returns
  have hts := atoms_spec (ws := zs_N_indexOf) B.pre
  have ht : ∀ w ∈ z_W, w.before _ s = true := fun w h => hts w (List.mem_cons_of_mem _ h)
  have hown : s.vm.findClass "RuleNetwork" = some m.cls := findClass_of_methodNamed B.named
  have hlocks := B.notSynchronized
  have C0 : z_kx p s m _ meth c "RuleNetwork" zb_N_indexOf 4 (some .int) := ⟨hx, hb, hr, hml, hown, ht, hlocks⟩
  subst hsz
  have hD := hD0.self (sz := s.heap.size)
  generalize hAe : va_A (zd_pC cC cI cJ h_p1 n_p1 p1) s.heap.size = A at hD hX ⊢
  have hA : ∀ q : Nat, s.heap.size ≤ q → A q := fun q h => by rw [← hAe]; exact Or.inr h
  have hS : va_S A s.heap s.heap [] := va_S.rf
  have hl := lv_entry ([.int x0, .ref h_p1, .int x2]) (n := 4) (Nat.le_of_ble_eq_true rfl)
  rw [lg_entry_eq]
  generalize (lg_sl ([.int x0, .ref h_p1, .int x2]) ++ List.replicate (4 - (lg_sl ([.int x0, .ref h_p1, .int x2])).length) Slot.unset).toArray = ls at hl ⊢
  have hl : lv_has ls 4 [(0, .int x0), (1, .ref h_p1), (2, .int x2)] := hl
  rw [zf_N_indexOf] at h
  refine lv_iconst (v := (0 : Int32)) hx hb ze_N_indexOf_0 (by decide) ?_
  refine lv_istore_n (lv' := [(3, .int (0 : Int32)), (0, .int x0), (1, .ref h_p1), (2, .int x2)]) hx hb ze_N_indexOf_1 rfl hl (by decide) rfl (fun ls hl => ?_)
  exact zk_N_indexOf_2 C0 hK hA hX z_FU x0 x2 (0 : Int32) p1 _ _ _ hP hD hS (lv_sub hl [1, 2, 3, 0] rfl) h
set_option maxHeartbeats 4000000 in
set_option maxRecDepth 100000 in
theorem zk_N_bitOf_12 {p : Program} {l : Launch} {e : Env} {s : State} {m : MethodId} {args : Array Value} {below : List Frame} {meth : Method} {c : Code} {dC : Nat → ClassId} {dI : Nat → Nat → Nat} {cC cI cJ : ClassId} {A : Nat → Prop} {tp : Nat} {o_r : Int32} (C0 : z_kx p s m args meth c "RuleNetwork" zb_N_bitOf 5 (some .int)) (hK : va_K (dC, dI) vwCl (z_tys cC cI cJ) s) (hA : ∀ q : Nat, s.heap.size ≤ q → A q) (hX : z_X tp A s) :
    ∀ (x4 : Int32) (t0 : Int64) (H : Heap) (locs : List Loc) (ls : Array Slot), va_P (dC, dI) vwCl (zd_ cC cI cJ) H → va_D A (zd_ cC cI cJ) → va_S A s.heap H locs → lv_has ls 5 [(4, .int x4)] → zf_N_bitOf_12 x4 t0 = some (o_r) → W p l e (headSpec zs_N_bitOf rm_N_bitOf).room s m args below meth c H locs 0 0 (MQ below (zq_N_bitOf dC dI cC cI cJ o_r A) args s 0 0 A) (F0 m 12 ls [.long t0]) := by
  obtain ⟨hx, hb, hr, hml, hown, ht, hlocks⟩ := id C0
  intro x4 t0 H locs ls hP hD hS hl h
  rw [zf_N_bitOf_12] at h
  refine lv_iload hx hb ze_N_bitOf_12 (lv_at hl 0 rfl) ?_
  refine lv_bipush (v := (63 : Int32)) hx hb ze_N_bitOf_14 (by decide) ?_
  refine lv_iand hx hb ze_N_bitOf_16 ?_
  refine lv_lushr hx hb ze_N_bitOf_17 rfl ?_
  refine lv_lconst (v := (1 : Int64)) hx hb ze_N_bitOf_18 (by decide) ?_
  refine lv_land hx hb ze_N_bitOf_19 ?_
  refine lv_l2i hx hb ze_N_bitOf_20 rfl ?_
  cases h
  exact W.iret hx hb hr (fun t ht9 hW => ⟨⟨_, (), rfl, rfl, by rw [ht9]; exact hP, hD⟩, hS.F ht9⟩) hS.2.2 ze_N_bitOf_21
set_option maxHeartbeats 4000000 in
set_option maxRecDepth 100000 in
theorem zc_N_bitOf (l : Launch) (dC : Nat → ClassId) (dI : Nat → Nat → Nat) (cC : ClassId) (cI : ClassId) (cJ : ClassId) (tp : Nat) (sz : Nat) (x0 : Int64) (x2 : Int64) (x4 : Int32) (o_r : Int32) (h : zf_N_bitOf x0 x2 x4 = some (o_r)) : Met l zy_N_bitOf zs_N_bitOf (rm_N_bitOf) (va_Pc [.long x0, .long x2, .int x4] (fun U => U.heap.size = sz ∧ va_P (dC, dI) vwCl (zd_ cC cI cJ) U.heap ∧ va_K (dC, dI) vwCl (z_tys cC cI cJ) U ∧ va_D (fun _ => True) (zd_ cC cI cJ) ∧ z_X tp (va_A (zd_ cC cI cJ) sz) U)) (zq_N_bitOf dC dI cC cI cJ o_r (va_A (zd_ cC cI cJ) sz)) 0 0 (va_A (zd_ cC cI cJ) sz) := by
  refine Met.ofW (cc := zb_N_bitOf) (maxL := 5) (ret := (some .int)) (by decide) rfl ?_
  intro p e s m args below meth c s₁ B hml hv
  obtain ⟨rfl, hsz, hP, hK, hD0, hX⟩ := hv
  have hx := B.exec
  have hb := B.bytes
  have hr := B.returns
  have hts := atoms_spec (ws := zs_N_bitOf) B.pre
  have ht : ∀ w ∈ z_W, w.before _ s = true := fun w h => hts w (List.mem_cons_of_mem _ h)
  have hown : s.vm.findClass "RuleNetwork" = some m.cls := findClass_of_methodNamed B.named
  have hlocks := B.notSynchronized
  have C0 : z_kx p s m _ meth c "RuleNetwork" zb_N_bitOf 5 (some .int) := ⟨hx, hb, hr, hml, hown, ht, hlocks⟩
  subst hsz
  have hD := hD0.self (sz := s.heap.size)
  generalize hAe : va_A (zd_ cC cI cJ) s.heap.size = A at hD hX ⊢
  have hA : ∀ q : Nat, s.heap.size ≤ q → A q := fun q h => by rw [← hAe]; exact Or.inr h
  have hS : va_S A s.heap s.heap [] := va_S.rf
  have hl := lv_entry ([.long x0, .long x2, .int x4]) (n := 5) (Nat.le_of_ble_eq_true rfl)
  rw [lg_entry_eq]
  generalize (lg_sl ([.long x0, .long x2, .int x4]) ++ List.replicate (5 - (lg_sl ([.long x0, .long x2, .int x4])).length) Slot.unset).toArray = ls at hl ⊢
  have hl : lv_has ls 5 [(0, .long x0), (2, .long x2), (4, .int x4)] := hl
  rw [zf_N_bitOf] at h
  refine lv_iload hx hb ze_N_bitOf_0 (lv_at hl 2 rfl) ?_
  refine lv_bipush (v := (64 : Int32)) hx hb ze_N_bitOf_2 (by decide) ?_
  refine lv_icmp_ge (tgt := 11) hx hb ze_N_bitOf_4 (by decide) (fun c1 => ?_) (fun c1 => ?_)
  · replace h := z_it_t c1 h
    refine lv_lload_n hx hb ze_N_bitOf_11 rfl (lv_at hl 1 rfl) ?_
    exact zk_N_bitOf_12 C0 hK hA hX x4 x2 _ _ _ hP hD hS (lv_sub hl [2] rfl) h
  · replace h := z_it_f c1 h
    refine lv_lload_n hx hb ze_N_bitOf_7 rfl (lv_at hl 0 rfl) ?_
    refine lv_goto (tgt := 12) hx hb ze_N_bitOf_8 (by decide) ?_
    exact zk_N_bitOf_12 C0 hK hA hX x4 x0 _ _ _ hP hD hS (lv_sub hl [2] rfl) h
