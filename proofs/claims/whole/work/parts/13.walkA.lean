set_option maxHeartbeats 4000000 in
set_option maxRecDepth 100000 in
theorem zc_A_forget (l : Launch) (dC : Nat → ClassId) (dI : Nat → Nat → Nat) (cC : ClassId) (cI : ClassId) (cJ : ClassId) (tp : Nat) (h_A : Nat) (h_A_low : Nat) (h_A_high : Nat) (h_A_homes : Nat) (h_A_leasts : Nat) (sz : Nat) (A_genes : Int32) (A_count : Int32) (A_low : Nat → Int64) (A_high : Nat → Int64) (A_homes : Nat → Int32) (A_leasts : Nat → Int32) (A_states : Int32) (A_lowLeasts : Int64) (A_highLeasts : Int64) (o_A_count : Int32) (o_A_states : Int32) (h : zf_A_forget A_count A_states = some (o_A_count, o_A_states)) : Met l zy_A_forget zs_A_forget (rm_A_forget) (va_Pc [.ref h_A] (fun U => U.heap.size = sz ∧ va_P (dC, dI) vwCl (zd_A cC cI cJ h_A h_A_low h_A_high h_A_homes h_A_leasts A_genes A_count A_low A_high A_homes A_leasts A_states A_lowLeasts A_highLeasts) U.heap ∧ va_K (dC, dI) vwCl (z_tys cC cI cJ) U ∧ va_D (fun _ => True) (zd_A cC cI cJ h_A h_A_low h_A_high h_A_homes h_A_leasts A_genes A_count A_low A_high A_homes A_leasts A_states A_lowLeasts A_highLeasts) ∧ z_X tp (va_A (zd_A cC cI cJ h_A h_A_low h_A_high h_A_homes h_A_leasts A_genes A_count A_low A_high A_homes A_leasts A_states A_lowLeasts A_highLeasts) sz) U)) (zq_A_forget dC dI cC cI cJ h_A h_A_low h_A_high h_A_homes h_A_leasts A_genes A_low A_high A_homes A_leasts A_lowLeasts A_highLeasts o_A_count o_A_states (va_A (zd_A cC cI cJ h_A h_A_low h_A_high h_A_homes h_A_leasts A_genes A_count A_low A_high A_homes A_leasts A_states A_lowLeasts A_highLeasts) sz)) 0 0 (va_A (zd_A cC cI cJ h_A h_A_low h_A_high h_A_homes h_A_leasts A_genes A_count A_low A_high A_homes A_leasts A_states A_lowLeasts A_highLeasts) sz) := by
  refine Met.ofW (cc := zb_A_forget) (maxL := 1) (ret := none) (by decide) rfl ?_
  intro p e s m args below meth c s₁ B hml hv
  obtain ⟨rfl, hsz, hP, hK, hD0, hX⟩ := hv
  have hx := B.exec
  have hb := B.bytes
  have hr := B.returns
  have hts := atoms_spec (ws := zs_A_forget) B.pre
  have ht : ∀ w ∈ z_W, w.before _ s = true := fun w h => hts w (List.mem_cons_of_mem _ h)
  have hown : s.vm.findClass "RuleNetwork$Analysis" = some m.cls := findClass_of_methodNamed B.named
  have hlocks := B.notSynchronized
  have C0 : z_kx p s m _ meth c "RuleNetwork$Analysis" zb_A_forget 1 none := ⟨hx, hb, hr, hml, hown, ht, hlocks⟩
  subst hsz
  have hD := hD0.self (sz := s.heap.size)
  generalize hAe : va_A (zd_A cC cI cJ h_A h_A_low h_A_high h_A_homes h_A_leasts A_genes A_count A_low A_high A_homes A_leasts A_states A_lowLeasts A_highLeasts) s.heap.size = A at hD hX ⊢
  have hA : ∀ q : Nat, s.heap.size ≤ q → A q := fun q h => by rw [← hAe]; exact Or.inr h
  have hS : va_S A s.heap s.heap [] := va_S.rf
  have hl := lv_entry ([.ref h_A]) (n := 1) (Nat.le_of_ble_eq_true rfl)
  rw [lg_entry_eq]
  generalize (lg_sl ([.ref h_A]) ++ List.replicate (1 - (lg_sl ([.ref h_A])).length) Slot.unset).toArray = ls at hl ⊢
  have hl : lv_has ls 1 [(0, .ref h_A)] := hl
  rw [zf_A_forget] at h
  refine lv_aload_n hx hb ze_A_forget_0 rfl (lv_at hl 0 rfl) ?_
  refine lv_iconst (v := (0 : Int32)) hx hb ze_A_forget_1 (by decide) ?_
  refine va_put (D := (dC, dI)) (ci := 2) (v := .int (0 : Int32)) (ty := .int) (C := "RuleNetwork$Analysis") (T := zT_A) (N := 9) hx hb ht zin_A zty_A zty_A_ok znm_A hown hK hP hD hS 0 rfl rfl 6 (by decide) (ht _ zw_161) (fun _ h9 => h9) rfl (zty_A_ok 6 (by decide)) rfl rfl (Nat.le_of_ble_eq_true rfl) ze_A_forget_2 (fun H locs hP hD hS => ?_)
  have hP : va_P (dC, dI) vwCl (zd_A cC cI cJ h_A h_A_low h_A_high h_A_homes h_A_leasts A_genes A_count A_low A_high A_homes A_leasts (0 : Int32) A_lowLeasts A_highLeasts) H := hP
  have hD : va_D A (zd_A cC cI cJ h_A h_A_low h_A_high h_A_homes h_A_leasts A_genes A_count A_low A_high A_homes A_leasts (0 : Int32) A_lowLeasts A_highLeasts) := hD
  refine lv_aload_n hx hb ze_A_forget_5 rfl (lv_at hl 0 rfl) ?_
  refine lv_iconst (v := (0 : Int32)) hx hb ze_A_forget_6 (by decide) ?_
  refine va_put (D := (dC, dI)) (ci := 2) (v := .int (0 : Int32)) (ty := .int) (C := "RuleNetwork$Analysis") (T := zT_A) (N := 9) hx hb ht zin_A zty_A zty_A_ok znm_A hown hK hP hD hS 0 rfl rfl 1 (by decide) (ht _ zw_151) (fun _ h9 => h9) rfl (zty_A_ok 1 (by decide)) rfl rfl (Nat.le_of_ble_eq_true rfl) ze_A_forget_7 (fun H locs hP hD hS => ?_)
  have hP : va_P (dC, dI) vwCl (zd_A cC cI cJ h_A h_A_low h_A_high h_A_homes h_A_leasts A_genes (0 : Int32) A_low A_high A_homes A_leasts (0 : Int32) A_lowLeasts A_highLeasts) H := hP
  have hD : va_D A (zd_A cC cI cJ h_A h_A_low h_A_high h_A_homes h_A_leasts A_genes (0 : Int32) A_low A_high A_homes A_leasts (0 : Int32) A_lowLeasts A_highLeasts) := hD
  cases h
  exact W.vret hx hb hr (fun t ht9 hW => ⟨⟨(), rfl, trivial, by rw [ht9]; exact hP, hD⟩, hS.F ht9⟩) hS.2.2 ze_A_forget_10
set_option maxHeartbeats 4000000 in
set_option maxRecDepth 100000 in
theorem zc_A_leads (l : Launch) (dC : Nat → ClassId) (dI : Nat → Nat → Nat) (cC : ClassId) (cI : ClassId) (cJ : ClassId) (tp : Nat) (h_A : Nat) (h_A_low : Nat) (h_A_high : Nat) (h_A_homes : Nat) (h_A_leasts : Nat) (sz : Nat) (A_genes : Int32) (A_count : Int32) (A_low : Nat → Int64) (A_high : Nat → Int64) (A_homes : Nat → Int32) (A_leasts : Nat → Int32) (A_states : Int32) (A_lowLeasts : Int64) (A_highLeasts : Int64) (x1 : Int32) (x2 : Int32) (o_r : Int32) (h : zf_A_leads x1 x2 A_low A_high = some (o_r)) : Met l zy_A_leads zs_A_leads (rm_A_leads) (va_Pc [.ref h_A, .int x1, .int x2] (fun U => U.heap.size = sz ∧ va_P (dC, dI) vwCl (zd_A cC cI cJ h_A h_A_low h_A_high h_A_homes h_A_leasts A_genes A_count A_low A_high A_homes A_leasts A_states A_lowLeasts A_highLeasts) U.heap ∧ va_K (dC, dI) vwCl (z_tys cC cI cJ) U ∧ va_D (fun _ => True) (zd_A cC cI cJ h_A h_A_low h_A_high h_A_homes h_A_leasts A_genes A_count A_low A_high A_homes A_leasts A_states A_lowLeasts A_highLeasts) ∧ z_X tp (va_A (zd_A cC cI cJ h_A h_A_low h_A_high h_A_homes h_A_leasts A_genes A_count A_low A_high A_homes A_leasts A_states A_lowLeasts A_highLeasts) sz) U)) (zq_A_leads dC dI cC cI cJ h_A h_A_low h_A_high h_A_homes h_A_leasts A_genes A_count A_low A_high A_homes A_leasts A_states A_lowLeasts A_highLeasts o_r (va_A (zd_A cC cI cJ h_A h_A_low h_A_high h_A_homes h_A_leasts A_genes A_count A_low A_high A_homes A_leasts A_states A_lowLeasts A_highLeasts) sz)) 0 0 (va_A (zd_A cC cI cJ h_A h_A_low h_A_high h_A_homes h_A_leasts A_genes A_count A_low A_high A_homes A_leasts A_states A_lowLeasts A_highLeasts) sz) := by
  refine Met.ofW (cc := zb_A_leads) (maxL := 3) (ret := (some .boolean)) (by decide) rfl ?_
  intro p e s m args below meth c s₁ B hml hv
  obtain ⟨rfl, hsz, hP, hK, hD0, hX⟩ := hv
  have hx := B.exec
  have hb := B.bytes
  have hr := B.returns
  have hts := atoms_spec (ws := zs_A_leads) B.pre
  have ht : ∀ w ∈ z_W, w.before _ s = true := fun w h => hts w (List.mem_cons_of_mem _ h)
  have hown : s.vm.findClass "RuleNetwork$Analysis" = some m.cls := findClass_of_methodNamed B.named
  have hlocks := B.notSynchronized
  have C0 : z_kx p s m _ meth c "RuleNetwork$Analysis" zb_A_leads 3 (some .boolean) := ⟨hx, hb, hr, hml, hown, ht, hlocks⟩
  subst hsz
  have hD := hD0.self (sz := s.heap.size)
  generalize hAe : va_A (zd_A cC cI cJ h_A h_A_low h_A_high h_A_homes h_A_leasts A_genes A_count A_low A_high A_homes A_leasts A_states A_lowLeasts A_highLeasts) s.heap.size = A at hD hX ⊢
  have hA : ∀ q : Nat, s.heap.size ≤ q → A q := fun q h => by rw [← hAe]; exact Or.inr h
  have hS : va_S A s.heap s.heap [] := va_S.rf
  have hl := lv_entry ([.ref h_A, .int x1, .int x2]) (n := 3) (Nat.le_of_ble_eq_true rfl)
  rw [lg_entry_eq]
  generalize (lg_sl ([.ref h_A, .int x1, .int x2]) ++ List.replicate (3 - (lg_sl ([.ref h_A, .int x1, .int x2])).length) Slot.unset).toArray = ls at hl ⊢
  have hl : lv_has ls 3 [(0, .ref h_A), (1, .int x1), (2, .int x2)] := hl
  rw [zf_A_leads] at h
  refine lv_aload_n hx hb ze_A_leads_0 rfl (lv_at hl 0 rfl) ?_
  refine va_get (D := (dC, dI)) (ci := 2) (v := .ref h_A_low) (C := "RuleNetwork$Analysis") (T := zT_A) (N := 9) hx hb ht zin_A hown hK hP 0 rfl rfl 2 (by decide) (ht _ zw_153) (fun _ h9 => h9) rfl ze_A_leads_1 ?_
  refine lv_iload_n hx hb ze_A_leads_4 rfl (lv_at hl 1 rfl) ?_
  obtain ⟨g1, h⟩ := z_gd_some h
  refine va_lald hx hb hK hP 1 2 rfl rfl g1 ze_A_leads_5 ?_
  refine lv_aload_n hx hb ze_A_leads_6 rfl (lv_at hl 0 rfl) ?_
  refine va_get (D := (dC, dI)) (ci := 2) (v := .ref h_A_high) (C := "RuleNetwork$Analysis") (T := zT_A) (N := 9) hx hb ht zin_A hown hK hP 0 rfl rfl 3 (by decide) (ht _ zw_155) (fun _ h9 => h9) rfl ze_A_leads_7 ?_
  refine lv_iload_n hx hb ze_A_leads_10 rfl (lv_at hl 1 rfl) ?_
  obtain ⟨g2, h⟩ := z_gd_some h
  refine va_lald hx hb hK hP 2 2 rfl rfl g2 ze_A_leads_11 ?_
  refine lv_iload_n hx hb ze_A_leads_12 rfl (lv_at hl 2 rfl) ?_
  obtain ⟨r3, q3, h⟩ := z_b1_some h
  have hPc := hP.sub (ws' := (zd_ cC cI cJ)) [] rfl
  have hDc := hD.sub (ws' := (zd_ cC cI cJ)) [] (by decide) rfl
  have hFc := va_free (wc := (zd_ cC cI cJ)) hD hS hA [] rfl
  -- CALL N_bitOf
  refine va_calli (va_runSN (As := [.long (A_low x1.toNatClampNeg), .long (A_high x1.toNatClampNeg), .int x2]) (rest := []) ⟨hx, hb, hml, hown, ht⟩ (zc_N_bitOf l dC dI cC cI cJ tp s.heap.size (A_low x1.toNatClampNeg) (A_high x1.toNatClampNeg) x2 r3 q3) ⟨va_cnB 3 ht (z_gC zw_372) rfl rfl rfl (show va_Nw (.methodLinkNest "RuleNetwork$Analysis" 81 zy_N_bitOf "RuleNetwork") s from hX.1 _ (List.mem_of_getElem? (i := 8) rfl)) (ht _ zw_55) zh_N_bitOf ⟨Nat.le_of_ble_eq_true rfl, Nat.le_of_ble_eq_true rfl⟩, ht _ zw_371, trivial⟩ ⟨fun a U g mk q => by obtain ⟨z0, z1, zP, zK, zD, zX⟩ := q; exact ⟨z0, z1, zP, va_K.moved (u := U) (U := U.calling g mk a) (Vm.Alike.refl U.vm) zK, zD, z_X.same rfl rfl zX⟩, fun U hU hW => ⟨rfl, by rw [hU], by rw [hU]; exact hPc, va_K.moved hW.alike hK, hDc.weaken (fun _ _ _ _ => trivial), hX.warm hS hFc hU hW⟩⟩ rfl rfl hl.1 rfl (lv_room (Nat.le_of_ble_eq_true rfl)) ze_A_leads_13 ⟨Nat.zero_le _, Nat.zero_le _⟩) hS (fun q _ h => hFc q h) hFc (fun rv u t H1 locs ht9 hvm hw hB hz1 hk1 hS => ?_)
  obtain ⟨hP1, hD1⟩ := hB
  rw [ht9] at hP1
  have hw' : r3 = rv := Eq.symm hw
  subst hw'
  obtain ⟨hP, hD⟩ := va_join (wr := [(h_A, .inr (2, [.int A_genes, .int A_count, .ref h_A_low, .ref h_A_high, .ref h_A_homes, .ref h_A_leasts, .int A_states, .long A_lowLeasts, .long A_highLeasts])), (h_A_low, .inl (cJ, 128, .inr (.inl A_low))), (h_A_high, .inl (cJ, 128, .inr (.inl A_high))), (h_A_homes, .inl (cI, 128, .inl A_homes)), (h_A_leasts, .inl (cI, 128, .inl A_leasts))]) (w1 := (zd_ cC cI cJ)) hP hD [] [0, 1, 2, 3, 4] rfl rfl (by decide) (by decide) hk1 hFc hP1 hD1
  generalize H1 = H at hP hS ⊢
  replace hP := hP.sub (ws' := (zd_A cC cI cJ h_A h_A_low h_A_high h_A_homes h_A_leasts A_genes A_count A_low A_high A_homes A_leasts A_states A_lowLeasts A_highLeasts)) [0, 1, 2, 3, 4] rfl
  replace hD := hD.sub (ws' := (zd_A cC cI cJ h_A h_A_low h_A_high h_A_homes h_A_leasts A_genes A_count A_low A_high A_homes A_leasts A_states A_lowLeasts A_highLeasts)) [0, 1, 2, 3, 4] (by decide) rfl
  refine lv_iconst (v := (1 : Int32)) hx hb ze_A_leads_16 (by decide) ?_
  refine lv_icmp_ne (tgt := 24) hx hb ze_A_leads_17 (by decide) (fun c4 => ?_) (fun c4 => ?_)
  · replace h := z_it_f c4 h
    refine lv_iconst (v := (0 : Int32)) hx hb ze_A_leads_24 (by decide) ?_
    obtain ⟨hn, h⟩ := z_gb_some h
    cases h
    exact W.zret hx hb hr hn (fun t ht9 hW => ⟨⟨_, (), rfl, rfl, by rw [ht9]; exact hP, hD⟩, hS.F ht9⟩) hS.2.2 ze_A_leads_25
  · replace h := z_it_t c4 h
    refine lv_iconst (v := (1 : Int32)) hx hb ze_A_leads_20 (by decide) ?_
    refine lv_goto (tgt := 25) hx hb ze_A_leads_21 (by decide) ?_
    obtain ⟨hn, h⟩ := z_gb_some h
    cases h
    exact W.zret hx hb hr hn (fun t ht9 hW => ⟨⟨_, (), rfl, rfl, by rw [ht9]; exact hP, hD⟩, hS.F ht9⟩) hS.2.2 ze_A_leads_25
set_option maxHeartbeats 4000000 in
set_option maxRecDepth 100000 in
theorem zk_A_joinSteps_12 {p : Program} {l : Launch} {e : Env} {s : State} {m : MethodId} {args : Array Value} {below : List Frame} {meth : Method} {c : Code} {dC : Nat → ClassId} {dI : Nat → Nat → Nat} {cC cI cJ : ClassId} {A : Nat → Prop} {tp : Nat} {h_A h_A_low h_A_high h_A_homes h_A_leasts : Nat} {A_genes : Int32} {A_count : Int32} {A_homes : Nat → Int32} {A_leasts : Nat → Int32} {A_lowLeasts : Int64} {A_highLeasts : Int64} {o_A_low : Nat → Int64} {o_A_high : Nat → Int64} {k2 : Int32 → (Nat → Int64) → (Nat → Int64) → Int32 → Option ((Nat → Int64) × (Nat → Int64))} (C0 : z_kx p s m args meth c "RuleNetwork$Analysis" zb_A_joinSteps 3 none) (hK : va_K (dC, dI) vwCl (z_tys cC cI cJ) s) (hA : ∀ q : Nat, s.heap.size ≤ q → A q) (hX : z_X tp A s) (hk2 : ∀ (x1 : Int32) (A_low : Nat → Int64) (A_high : Nat → Int64) (A_states : Int32) (H : Heap) (locs : List Loc) (ls : Array Slot), va_P (dC, dI) vwCl (zd_A cC cI cJ h_A h_A_low h_A_high h_A_homes h_A_leasts A_genes A_count A_low A_high A_homes A_leasts A_states A_lowLeasts A_highLeasts) H → va_D A (zd_A cC cI cJ h_A h_A_low h_A_high h_A_homes h_A_leasts A_genes A_count A_low A_high A_homes A_leasts A_states A_lowLeasts A_highLeasts) → va_S A s.heap H locs → lv_has ls 3 [(0, .ref h_A), (1, .int x1)] → k2 x1 A_low A_high A_states = some (o_A_low, o_A_high) → W p l e (headSpec zs_A_joinSteps rm_A_joinSteps).room s m args below meth c H locs 0 0 (MQ below (zq_A_joinSteps dC dI cC cI cJ h_A h_A_low h_A_high h_A_homes h_A_leasts A_genes A_count A_homes A_leasts A_states A_lowLeasts A_highLeasts o_A_low o_A_high A) args s 0 0 A) (F0 m 2 ls [])) :
    ∀ n : Nat, ∀ (x1 : Int32) (x2 : Int32) (A_low : Nat → Int64) (A_high : Nat → Int64) (A_states : Int32) (H : Heap) (locs : List Loc) (ls : Array Slot), va_P (dC, dI) vwCl (zd_A cC cI cJ h_A h_A_low h_A_high h_A_homes h_A_leasts A_genes A_count A_low A_high A_homes A_leasts A_states A_lowLeasts A_highLeasts) H → va_D A (zd_A cC cI cJ h_A h_A_low h_A_high h_A_homes h_A_leasts A_genes A_count A_low A_high A_homes A_leasts A_states A_lowLeasts A_highLeasts) → va_S A s.heap H locs → lv_has ls 3 [(0, .ref h_A), (1, .int x1), (2, .int x2)] → zf_A_joinSteps_12 k2 n x1 x2 A_low A_high A_states = some (o_A_low, o_A_high) → W p l e (headSpec zs_A_joinSteps rm_A_joinSteps).room s m args below meth c H locs 0 0 (MQ below (zq_A_joinSteps dC dI cC cI cJ h_A h_A_low h_A_high h_A_homes h_A_leasts A_genes A_count A_homes A_leasts A_states A_lowLeasts A_highLeasts o_A_low o_A_high A) args s 0 0 A) (F0 m 12 ls []) := by
  obtain ⟨hx, hb, hr, hml, hown, ht, hlocks⟩ := id C0
  intro n
  induction n with
  | zero =>
    intro x1 x2 A_low A_high A_states H locs ls hP hD hS hl h
    cases (show none = some _ from h)
  | succ n ih =>
    intro x1 x2 A_low A_high A_states H locs ls hP hD hS hl h
    rw [zf_A_joinSteps_12] at h
    refine lv_iload_n hx hb ze_A_joinSteps_12 rfl (lv_at hl 2 rfl) ?_
    refine lv_aload_n hx hb ze_A_joinSteps_13 rfl (lv_at hl 0 rfl) ?_
    refine va_get (D := (dC, dI)) (ci := 2) (v := .int A_states) (C := "RuleNetwork$Analysis") (T := zT_A) (N := 9) hx hb ht zin_A hown hK hP 0 rfl rfl 6 (by decide) (ht _ zw_161) (fun _ h9 => h9) rfl ze_A_joinSteps_14 ?_
    refine lv_icmp_ge (tgt := 65) hx hb ze_A_joinSteps_17 (by decide) (fun c1 => ?_) (fun c1 => ?_)
    · replace h := z_it_t c1 h
      refine lv_iinc (v := (x1 + (1 : Int32))) (lv' := [(1, .int (x1 + (1 : Int32))), (0, .ref h_A), (2, .int x2)]) hx hb ze_A_joinSteps_65 hl (k := 1) rfl rfl (by decide) rfl (fun ls hl => ?_)
      refine lv_goto (tgt := 2) hx hb ze_A_joinSteps_68 (by decide) ?_
      exact hk2 (x1 + (1 : Int32)) A_low A_high A_states _ _ _ hP hD hS (lv_sub hl [1, 0] rfl) h
    · replace h := z_it_f c1 h
      refine lv_aload_n hx hb ze_A_joinSteps_20 rfl (lv_at hl 0 rfl) ?_
      refine lv_iload_n hx hb ze_A_joinSteps_21 rfl (lv_at hl 2 rfl) ?_
      refine lv_iload_n hx hb ze_A_joinSteps_22 rfl (lv_at hl 1 rfl) ?_
      obtain ⟨r2, q2, h⟩ := z_b1_some h
      have hPc := hP.sub (ws' := (zd_A cC cI cJ h_A h_A_low h_A_high h_A_homes h_A_leasts A_genes A_count A_low A_high A_homes A_leasts A_states A_lowLeasts A_highLeasts)) [0, 1, 2, 3, 4] rfl
      have hDc := hD.sub (ws' := (zd_A cC cI cJ h_A h_A_low h_A_high h_A_homes h_A_leasts A_genes A_count A_low A_high A_homes A_leasts A_states A_lowLeasts A_highLeasts)) [0, 1, 2, 3, 4] (by decide) rfl
      have hFc := va_free (wc := (zd_A cC cI cJ h_A h_A_low h_A_high h_A_homes h_A_leasts A_genes A_count A_low A_high A_homes A_leasts A_states A_lowLeasts A_highLeasts)) hD hS hA [0, 1, 2, 3, 4] rfl
      -- CALL A_leads
      refine va_calli (va_runV (As := [.int x2, .int x1]) (rest := []) ⟨hx, hb, hml, hown, ht⟩ (zc_A_leads l dC dI cC cI cJ tp h_A h_A_low h_A_high h_A_homes h_A_leasts H.size A_genes A_count A_low A_high A_homes A_leasts A_states A_lowLeasts A_highLeasts x2 x1 r2 q2) (cwV 2 ht (z_gV zw_420 zw_422 zw_16 zw_58 zw_423) rfl rfl rfl ⟨rfl, zh_A_leads⟩ ⟨Nat.le_of_ble_eq_true rfl, Nat.le_of_ble_eq_true rfl⟩) ⟨fun a U g mk q => by obtain ⟨z0, z1, zP, zK, zD, zX⟩ := q; exact ⟨z0, z1, zP, va_K.moved (u := U) (U := U.calling g mk a) (Vm.Alike.refl U.vm) zK, zD, z_X.same rfl rfl zX⟩, va_recv hK hP (ci := 2) (q0 := 0) rfl rfl, fun U hU hW => ⟨rfl, by rw [hU], by rw [hU]; exact hPc, va_K.moved hW.alike hK, hDc.weaken (fun _ _ _ _ => trivial), hX.warm hS hFc hU hW⟩⟩ rfl rfl hl.1 rfl (lv_room (Nat.le_of_ble_eq_true rfl)) ze_A_joinSteps_23 ⟨Nat.zero_le _, Nat.zero_le _⟩) hS (fun q _ h => hFc q h) hFc (fun rv u t H1 locs ht9 hvm hw hB hz1 hk1 hS => ?_)
      obtain ⟨hP1, hD1⟩ := hB
      rw [ht9] at hP1
      have hw' : r2 = rv := Eq.symm hw
      subst hw'
      obtain ⟨hP, hD⟩ := va_join (wr := []) (w1 := (zd_A cC cI cJ h_A h_A_low h_A_high h_A_homes h_A_leasts A_genes A_count A_low A_high A_homes A_leasts A_states A_lowLeasts A_highLeasts)) hP hD [0, 1, 2, 3, 4] [] rfl rfl (by decide) (by decide) hk1 hFc hP1 hD1
      generalize H1 = H at hP hS ⊢
      replace hP := hP.sub (ws' := (zd_A cC cI cJ h_A h_A_low h_A_high h_A_homes h_A_leasts A_genes A_count A_low A_high A_homes A_leasts A_states A_lowLeasts A_highLeasts)) [0, 1, 2, 3, 4] rfl
      replace hD := hD.sub (ws' := (zd_A cC cI cJ h_A h_A_low h_A_high h_A_homes h_A_leasts A_genes A_count A_low A_high A_homes A_leasts A_states A_lowLeasts A_highLeasts)) [0, 1, 2, 3, 4] (by decide) rfl
      refine lv_if_eq (tgt := 59) hx hb ze_A_joinSteps_26 (by decide) (fun c3 => ?_) (fun c3 => ?_)
      · replace h := z_it_t c3 h
        refine lv_iinc (v := (x2 + (1 : Int32))) (lv' := [(2, .int (x2 + (1 : Int32))), (0, .ref h_A), (1, .int x1)]) hx hb ze_A_joinSteps_59 hl (k := 2) rfl rfl (by decide) rfl (fun ls hl => ?_)
        refine lv_goto (tgt := 12) hx hb ze_A_joinSteps_62 (by decide) ?_
        exact ih x1 (x2 + (1 : Int32)) A_low A_high A_states _ _ _ hP hD hS (lv_sub hl [1, 2, 0] rfl) h
      · replace h := z_it_f c3 h
        refine lv_aload_n hx hb ze_A_joinSteps_29 rfl (lv_at hl 0 rfl) ?_
        refine va_get (D := (dC, dI)) (ci := 2) (v := .ref h_A_low) (C := "RuleNetwork$Analysis") (T := zT_A) (N := 9) hx hb ht zin_A hown hK hP 0 rfl rfl 2 (by decide) (ht _ zw_153) (fun _ h9 => h9) rfl ze_A_joinSteps_30 ?_
        refine lv_iload_n hx hb ze_A_joinSteps_33 rfl (lv_at hl 2 rfl) ?_
        refine lv_dup2_11 hx hb ze_A_joinSteps_34 rfl rfl ?_
        obtain ⟨g4, h⟩ := z_gd_some h
        refine va_lald hx hb hK hP 1 2 rfl rfl g4 ze_A_joinSteps_35 ?_
        refine lv_aload_n hx hb ze_A_joinSteps_36 rfl (lv_at hl 0 rfl) ?_
        refine va_get (D := (dC, dI)) (ci := 2) (v := .ref h_A_low) (C := "RuleNetwork$Analysis") (T := zT_A) (N := 9) hx hb ht zin_A hown hK hP 0 rfl rfl 2 (by decide) (ht _ zw_153) (fun _ h9 => h9) rfl ze_A_joinSteps_37 ?_
        refine lv_iload_n hx hb ze_A_joinSteps_40 rfl (lv_at hl 1 rfl) ?_
        obtain ⟨g5, h⟩ := z_gd_some h
        refine va_lald hx hb hK hP 1 2 rfl rfl g5 ze_A_joinSteps_41 ?_
        refine lv_lor hx hb ze_A_joinSteps_42 ?_
        obtain ⟨g6, h⟩ := z_gd_some h
        refine va_last hx hb hK hP hD hS 1 2 rfl rfl g6 ze_A_joinSteps_43 (fun H locs hP hD hS => ?_)
        have hP : va_P (dC, dI) vwCl (zd_A cC cI cJ h_A h_A_low h_A_high h_A_homes h_A_leasts A_genes A_count (vp_updL A_low x2.toNatClampNeg ((A_low x2.toNatClampNeg) ||| (A_low x1.toNatClampNeg))) A_high A_homes A_leasts A_states A_lowLeasts A_highLeasts) H := hP
        have hD : va_D A (zd_A cC cI cJ h_A h_A_low h_A_high h_A_homes h_A_leasts A_genes A_count (vp_updL A_low x2.toNatClampNeg ((A_low x2.toNatClampNeg) ||| (A_low x1.toNatClampNeg))) A_high A_homes A_leasts A_states A_lowLeasts A_highLeasts) := hD
        refine lv_aload_n hx hb ze_A_joinSteps_44 rfl (lv_at hl 0 rfl) ?_
        refine va_get (D := (dC, dI)) (ci := 2) (v := .ref h_A_high) (C := "RuleNetwork$Analysis") (T := zT_A) (N := 9) hx hb ht zin_A hown hK hP 0 rfl rfl 3 (by decide) (ht _ zw_155) (fun _ h9 => h9) rfl ze_A_joinSteps_45 ?_
        refine lv_iload_n hx hb ze_A_joinSteps_48 rfl (lv_at hl 2 rfl) ?_
        refine lv_dup2_11 hx hb ze_A_joinSteps_49 rfl rfl ?_
        obtain ⟨g7, h⟩ := z_gd_some h
        refine va_lald hx hb hK hP 2 2 rfl rfl g7 ze_A_joinSteps_50 ?_
        refine lv_aload_n hx hb ze_A_joinSteps_51 rfl (lv_at hl 0 rfl) ?_
        refine va_get (D := (dC, dI)) (ci := 2) (v := .ref h_A_high) (C := "RuleNetwork$Analysis") (T := zT_A) (N := 9) hx hb ht zin_A hown hK hP 0 rfl rfl 3 (by decide) (ht _ zw_155) (fun _ h9 => h9) rfl ze_A_joinSteps_52 ?_
        refine lv_iload_n hx hb ze_A_joinSteps_55 rfl (lv_at hl 1 rfl) ?_
        obtain ⟨g8, h⟩ := z_gd_some h
        refine va_lald hx hb hK hP 2 2 rfl rfl g8 ze_A_joinSteps_56 ?_
        refine lv_lor hx hb ze_A_joinSteps_57 ?_
        obtain ⟨g9, h⟩ := z_gd_some h
        refine va_last hx hb hK hP hD hS 2 2 rfl rfl g9 ze_A_joinSteps_58 (fun H locs hP hD hS => ?_)
        have hP : va_P (dC, dI) vwCl (zd_A cC cI cJ h_A h_A_low h_A_high h_A_homes h_A_leasts A_genes A_count (vp_updL A_low x2.toNatClampNeg ((A_low x2.toNatClampNeg) ||| (A_low x1.toNatClampNeg))) (vp_updL A_high x2.toNatClampNeg ((A_high x2.toNatClampNeg) ||| (A_high x1.toNatClampNeg))) A_homes A_leasts A_states A_lowLeasts A_highLeasts) H := hP
        have hD : va_D A (zd_A cC cI cJ h_A h_A_low h_A_high h_A_homes h_A_leasts A_genes A_count (vp_updL A_low x2.toNatClampNeg ((A_low x2.toNatClampNeg) ||| (A_low x1.toNatClampNeg))) (vp_updL A_high x2.toNatClampNeg ((A_high x2.toNatClampNeg) ||| (A_high x1.toNatClampNeg))) A_homes A_leasts A_states A_lowLeasts A_highLeasts) := hD
        refine lv_iinc (v := (x2 + (1 : Int32))) (lv' := [(2, .int (x2 + (1 : Int32))), (0, .ref h_A), (1, .int x1)]) hx hb ze_A_joinSteps_59 hl (k := 2) rfl rfl (by decide) rfl (fun ls hl => ?_)
        refine lv_goto (tgt := 12) hx hb ze_A_joinSteps_62 (by decide) ?_
        exact ih x1 (x2 + (1 : Int32)) (vp_updL A_low x2.toNatClampNeg ((A_low x2.toNatClampNeg) ||| (A_low x1.toNatClampNeg))) (vp_updL A_high x2.toNatClampNeg ((A_high x2.toNatClampNeg) ||| (A_high x1.toNatClampNeg))) A_states _ _ _ hP hD hS (lv_sub hl [1, 2, 0] rfl) h
set_option maxHeartbeats 4000000 in
set_option maxRecDepth 100000 in
theorem zk_A_joinSteps_2 {p : Program} {l : Launch} {e : Env} {s : State} {m : MethodId} {args : Array Value} {below : List Frame} {meth : Method} {c : Code} {dC : Nat → ClassId} {dI : Nat → Nat → Nat} {cC cI cJ : ClassId} {A : Nat → Prop} {tp : Nat} {h_A h_A_low h_A_high h_A_homes h_A_leasts : Nat} {A_genes : Int32} {A_count : Int32} {A_homes : Nat → Int32} {A_leasts : Nat → Int32} {A_lowLeasts : Int64} {A_highLeasts : Int64} {o_A_low : Nat → Int64} {o_A_high : Nat → Int64} (C0 : z_kx p s m args meth c "RuleNetwork$Analysis" zb_A_joinSteps 3 none) (hK : va_K (dC, dI) vwCl (z_tys cC cI cJ) s) (hA : ∀ q : Nat, s.heap.size ≤ q → A q) (hX : z_X tp A s) :
    ∀ n : Nat, ∀ (x1 : Int32) (A_low : Nat → Int64) (A_high : Nat → Int64) (A_states : Int32) (H : Heap) (locs : List Loc) (ls : Array Slot), va_P (dC, dI) vwCl (zd_A cC cI cJ h_A h_A_low h_A_high h_A_homes h_A_leasts A_genes A_count A_low A_high A_homes A_leasts A_states A_lowLeasts A_highLeasts) H → va_D A (zd_A cC cI cJ h_A h_A_low h_A_high h_A_homes h_A_leasts A_genes A_count A_low A_high A_homes A_leasts A_states A_lowLeasts A_highLeasts) → va_S A s.heap H locs → lv_has ls 3 [(0, .ref h_A), (1, .int x1)] → zf_A_joinSteps_2 n x1 A_low A_high A_states = some (o_A_low, o_A_high) → W p l e (headSpec zs_A_joinSteps rm_A_joinSteps).room s m args below meth c H locs 0 0 (MQ below (zq_A_joinSteps dC dI cC cI cJ h_A h_A_low h_A_high h_A_homes h_A_leasts A_genes A_count A_homes A_leasts A_states A_lowLeasts A_highLeasts o_A_low o_A_high A) args s 0 0 A) (F0 m 2 ls []) := by
  obtain ⟨hx, hb, hr, hml, hown, ht, hlocks⟩ := id C0
  intro n
  induction n with
  | zero =>
    intro x1 A_low A_high A_states H locs ls hP hD hS hl h
    cases (show none = some _ from h)
  | succ n ih =>
    intro x1 A_low A_high A_states H locs ls hP hD hS hl h
    rw [zf_A_joinSteps_2] at h
    refine lv_iload_n hx hb ze_A_joinSteps_2 rfl (lv_at hl 1 rfl) ?_
    refine lv_aload_n hx hb ze_A_joinSteps_3 rfl (lv_at hl 0 rfl) ?_
    refine va_get (D := (dC, dI)) (ci := 2) (v := .int A_states) (C := "RuleNetwork$Analysis") (T := zT_A) (N := 9) hx hb ht zin_A hown hK hP 0 rfl rfl 6 (by decide) (ht _ zw_161) (fun _ h9 => h9) rfl ze_A_joinSteps_4 ?_
    refine lv_icmp_ge (tgt := 71) hx hb ze_A_joinSteps_7 (by decide) (fun c1 => ?_) (fun c1 => ?_)
    · replace h := z_it_t c1 h
      cases h
      exact W.vret hx hb hr (fun t ht9 hW => ⟨⟨(), rfl, trivial, by rw [ht9]; exact hP, hD⟩, hS.F ht9⟩) hS.2.2 ze_A_joinSteps_71
    · replace h := z_it_f c1 h
      refine lv_iconst (v := (0 : Int32)) hx hb ze_A_joinSteps_10 (by decide) ?_
      refine lv_istore_n (lv' := [(2, .int (0 : Int32)), (0, .ref h_A), (1, .int x1)]) hx hb ze_A_joinSteps_11 rfl hl (by decide) rfl (fun ls hl => ?_)
      exact zk_A_joinSteps_12 C0 hK hA hX ih z_FU x1 (0 : Int32) A_low A_high A_states _ _ _ hP hD hS (lv_sub hl [1, 2, 0] rfl) h
set_option maxHeartbeats 4000000 in
set_option maxRecDepth 100000 in
theorem zc_A_joinSteps (l : Launch) (dC : Nat → ClassId) (dI : Nat → Nat → Nat) (cC : ClassId) (cI : ClassId) (cJ : ClassId) (tp : Nat) (h_A : Nat) (h_A_low : Nat) (h_A_high : Nat) (h_A_homes : Nat) (h_A_leasts : Nat) (sz : Nat) (A_genes : Int32) (A_count : Int32) (A_low : Nat → Int64) (A_high : Nat → Int64) (A_homes : Nat → Int32) (A_leasts : Nat → Int32) (A_states : Int32) (A_lowLeasts : Int64) (A_highLeasts : Int64) (o_A_low : Nat → Int64) (o_A_high : Nat → Int64) (h : zf_A_joinSteps A_low A_high A_states = some (o_A_low, o_A_high)) : Met l zy_A_joinSteps zs_A_joinSteps (rm_A_joinSteps) (va_Pc [.ref h_A] (fun U => U.heap.size = sz ∧ va_P (dC, dI) vwCl (zd_A cC cI cJ h_A h_A_low h_A_high h_A_homes h_A_leasts A_genes A_count A_low A_high A_homes A_leasts A_states A_lowLeasts A_highLeasts) U.heap ∧ va_K (dC, dI) vwCl (z_tys cC cI cJ) U ∧ va_D (fun _ => True) (zd_A cC cI cJ h_A h_A_low h_A_high h_A_homes h_A_leasts A_genes A_count A_low A_high A_homes A_leasts A_states A_lowLeasts A_highLeasts) ∧ z_X tp (va_A (zd_A cC cI cJ h_A h_A_low h_A_high h_A_homes h_A_leasts A_genes A_count A_low A_high A_homes A_leasts A_states A_lowLeasts A_highLeasts) sz) U)) (zq_A_joinSteps dC dI cC cI cJ h_A h_A_low h_A_high h_A_homes h_A_leasts A_genes A_count A_homes A_leasts A_states A_lowLeasts A_highLeasts o_A_low o_A_high (va_A (zd_A cC cI cJ h_A h_A_low h_A_high h_A_homes h_A_leasts A_genes A_count A_low A_high A_homes A_leasts A_states A_lowLeasts A_highLeasts) sz)) 0 0 (va_A (zd_A cC cI cJ h_A h_A_low h_A_high h_A_homes h_A_leasts A_genes A_count A_low A_high A_homes A_leasts A_states A_lowLeasts A_highLeasts) sz) := by
  refine Met.ofW (cc := zb_A_joinSteps) (maxL := 3) (ret := none) (by decide) rfl ?_
  intro p e s m args below meth c s₁ B hml hv
  obtain ⟨rfl, hsz, hP, hK, hD0, hX⟩ := hv
  have hx := B.exec
  have hb := B.bytes
  have hr := B.returns
  have hts := atoms_spec (ws := zs_A_joinSteps) B.pre
  have ht : ∀ w ∈ z_W, w.before _ s = true := fun w h => hts w (List.mem_cons_of_mem _ h)
  have hown : s.vm.findClass "RuleNetwork$Analysis" = some m.cls := findClass_of_methodNamed B.named
  have hlocks := B.notSynchronized
  have C0 : z_kx p s m _ meth c "RuleNetwork$Analysis" zb_A_joinSteps 3 none := ⟨hx, hb, hr, hml, hown, ht, hlocks⟩
  subst hsz
  have hD := hD0.self (sz := s.heap.size)
  generalize hAe : va_A (zd_A cC cI cJ h_A h_A_low h_A_high h_A_homes h_A_leasts A_genes A_count A_low A_high A_homes A_leasts A_states A_lowLeasts A_highLeasts) s.heap.size = A at hD hX ⊢
  have hA : ∀ q : Nat, s.heap.size ≤ q → A q := fun q h => by rw [← hAe]; exact Or.inr h
  have hS : va_S A s.heap s.heap [] := va_S.rf
  have hl := lv_entry ([.ref h_A]) (n := 3) (Nat.le_of_ble_eq_true rfl)
  rw [lg_entry_eq]
  generalize (lg_sl ([.ref h_A]) ++ List.replicate (3 - (lg_sl ([.ref h_A])).length) Slot.unset).toArray = ls at hl ⊢
  have hl : lv_has ls 3 [(0, .ref h_A)] := hl
  rw [zf_A_joinSteps] at h
  refine lv_iconst (v := (0 : Int32)) hx hb ze_A_joinSteps_0 (by decide) ?_
  refine lv_istore_n (lv' := [(1, .int (0 : Int32)), (0, .ref h_A)]) hx hb ze_A_joinSteps_1 rfl hl (by decide) rfl (fun ls hl => ?_)
  exact zk_A_joinSteps_2 C0 hK hA hX z_FU (0 : Int32) A_low A_high A_states _ _ _ hP hD hS (lv_sub hl [1, 0] rfl) h
set_option maxHeartbeats 4000000 in
set_option maxRecDepth 100000 in
theorem zk_A_isLedBackTo_2 {p : Program} {l : Launch} {e : Env} {s : State} {m : MethodId} {args : Array Value} {below : List Frame} {meth : Method} {c : Code} {dC : Nat → ClassId} {dI : Nat → Nat → Nat} {cC cI cJ : ClassId} {A : Nat → Prop} {tp : Nat} {h_A h_A_low h_A_high h_A_homes h_A_leasts : Nat} {A_genes : Int32} {A_count : Int32} {A_homes : Nat → Int32} {A_leasts : Nat → Int32} {A_lowLeasts : Int64} {A_highLeasts : Int64} {o_r : Int32} (C0 : z_kx p s m args meth c "RuleNetwork$Analysis" zb_A_isLedBackTo 3 (some .boolean)) (hK : va_K (dC, dI) vwCl (z_tys cC cI cJ) s) (hA : ∀ q : Nat, s.heap.size ≤ q → A q) (hX : z_X tp A s) :
    ∀ n : Nat, ∀ (x1 : Int32) (x2 : Int32) (A_low : Nat → Int64) (A_high : Nat → Int64) (A_states : Int32) (H : Heap) (locs : List Loc) (ls : Array Slot), va_P (dC, dI) vwCl (zd_A cC cI cJ h_A h_A_low h_A_high h_A_homes h_A_leasts A_genes A_count A_low A_high A_homes A_leasts A_states A_lowLeasts A_highLeasts) H → va_D A (zd_A cC cI cJ h_A h_A_low h_A_high h_A_homes h_A_leasts A_genes A_count A_low A_high A_homes A_leasts A_states A_lowLeasts A_highLeasts) → va_S A s.heap H locs → lv_has ls 3 [(0, .ref h_A), (1, .int x1), (2, .int x2)] → zf_A_isLedBackTo_2 n x1 x2 A_low A_high A_states = some (o_r) → W p l e (headSpec zs_A_isLedBackTo rm_A_isLedBackTo).room s m args below meth c H locs 0 0 (MQ below (zq_A_isLedBackTo dC dI cC cI cJ h_A h_A_low h_A_high h_A_homes h_A_leasts A_genes A_count A_low A_high A_homes A_leasts A_states A_lowLeasts A_highLeasts o_r A) args s 0 0 A) (F0 m 2 ls []) := by
  obtain ⟨hx, hb, hr, hml, hown, ht, hlocks⟩ := id C0
  intro n
  induction n with
  | zero =>
    intro x1 x2 A_low A_high A_states H locs ls hP hD hS hl h
    cases (show none = some _ from h)
  | succ n ih =>
    intro x1 x2 A_low A_high A_states H locs ls hP hD hS hl h
    rw [zf_A_isLedBackTo_2] at h
    refine lv_iload_n hx hb ze_A_isLedBackTo_2 rfl (lv_at hl 2 rfl) ?_
    refine lv_aload_n hx hb ze_A_isLedBackTo_3 rfl (lv_at hl 0 rfl) ?_
    refine va_get (D := (dC, dI)) (ci := 2) (v := .int A_states) (C := "RuleNetwork$Analysis") (T := zT_A) (N := 9) hx hb ht zin_A hown hK hP 0 rfl rfl 6 (by decide) (ht _ zw_161) (fun _ h9 => h9) rfl ze_A_isLedBackTo_4 ?_
    refine lv_icmp_ge (tgt := 36) hx hb ze_A_isLedBackTo_7 (by decide) (fun c1 => ?_) (fun c1 => ?_)
    · replace h := z_it_t c1 h
      refine lv_iconst (v := (1 : Int32)) hx hb ze_A_isLedBackTo_36 (by decide) ?_
      obtain ⟨hn, h⟩ := z_gb_some h
      cases h
      exact W.zret hx hb hr hn (fun t ht9 hW => ⟨⟨_, (), rfl, rfl, by rw [ht9]; exact hP, hD⟩, hS.F ht9⟩) hS.2.2 ze_A_isLedBackTo_37
    · replace h := z_it_f c1 h
      refine lv_aload_n hx hb ze_A_isLedBackTo_10 rfl (lv_at hl 0 rfl) ?_
      refine lv_iload_n hx hb ze_A_isLedBackTo_11 rfl (lv_at hl 1 rfl) ?_
      refine lv_iload_n hx hb ze_A_isLedBackTo_12 rfl (lv_at hl 2 rfl) ?_
      obtain ⟨r2, q2, h⟩ := z_b1_some h
      have hPc := hP.sub (ws' := (zd_A cC cI cJ h_A h_A_low h_A_high h_A_homes h_A_leasts A_genes A_count A_low A_high A_homes A_leasts A_states A_lowLeasts A_highLeasts)) [0, 1, 2, 3, 4] rfl
      have hDc := hD.sub (ws' := (zd_A cC cI cJ h_A h_A_low h_A_high h_A_homes h_A_leasts A_genes A_count A_low A_high A_homes A_leasts A_states A_lowLeasts A_highLeasts)) [0, 1, 2, 3, 4] (by decide) rfl
      have hFc := va_free (wc := (zd_A cC cI cJ h_A h_A_low h_A_high h_A_homes h_A_leasts A_genes A_count A_low A_high A_homes A_leasts A_states A_lowLeasts A_highLeasts)) hD hS hA [0, 1, 2, 3, 4] rfl
      -- CALL A_leads
      refine va_calli (va_runV (As := [.int x1, .int x2]) (rest := []) ⟨hx, hb, hml, hown, ht⟩ (zc_A_leads l dC dI cC cI cJ tp h_A h_A_low h_A_high h_A_homes h_A_leasts H.size A_genes A_count A_low A_high A_homes A_leasts A_states A_lowLeasts A_highLeasts x1 x2 r2 q2) (cwV 2 ht (z_gV zw_420 zw_422 zw_16 zw_58 zw_423) rfl rfl rfl ⟨rfl, zh_A_leads⟩ ⟨Nat.le_of_ble_eq_true rfl, Nat.le_of_ble_eq_true rfl⟩) ⟨fun a U g mk q => by obtain ⟨z0, z1, zP, zK, zD, zX⟩ := q; exact ⟨z0, z1, zP, va_K.moved (u := U) (U := U.calling g mk a) (Vm.Alike.refl U.vm) zK, zD, z_X.same rfl rfl zX⟩, va_recv hK hP (ci := 2) (q0 := 0) rfl rfl, fun U hU hW => ⟨rfl, by rw [hU], by rw [hU]; exact hPc, va_K.moved hW.alike hK, hDc.weaken (fun _ _ _ _ => trivial), hX.warm hS hFc hU hW⟩⟩ rfl rfl hl.1 rfl (lv_room (Nat.le_of_ble_eq_true rfl)) ze_A_isLedBackTo_13 ⟨Nat.zero_le _, Nat.zero_le _⟩) hS (fun q _ h => hFc q h) hFc (fun rv u t H1 locs ht9 hvm hw hB hz1 hk1 hS => ?_)
      obtain ⟨hP1, hD1⟩ := hB
      rw [ht9] at hP1
      have hw' : r2 = rv := Eq.symm hw
      subst hw'
      obtain ⟨hP, hD⟩ := va_join (wr := []) (w1 := (zd_A cC cI cJ h_A h_A_low h_A_high h_A_homes h_A_leasts A_genes A_count A_low A_high A_homes A_leasts A_states A_lowLeasts A_highLeasts)) hP hD [0, 1, 2, 3, 4] [] rfl rfl (by decide) (by decide) hk1 hFc hP1 hD1
      generalize H1 = H at hP hS ⊢
      replace hP := hP.sub (ws' := (zd_A cC cI cJ h_A h_A_low h_A_high h_A_homes h_A_leasts A_genes A_count A_low A_high A_homes A_leasts A_states A_lowLeasts A_highLeasts)) [0, 1, 2, 3, 4] rfl
      replace hD := hD.sub (ws' := (zd_A cC cI cJ h_A h_A_low h_A_high h_A_homes h_A_leasts A_genes A_count A_low A_high A_homes A_leasts A_states A_lowLeasts A_highLeasts)) [0, 1, 2, 3, 4] (by decide) rfl
      refine lv_if_eq (tgt := 30) hx hb ze_A_isLedBackTo_16 (by decide) (fun c3 => ?_) (fun c3 => ?_)
      · replace h := z_it_t c3 h
        refine lv_iinc (v := (x2 + (1 : Int32))) (lv' := [(2, .int (x2 + (1 : Int32))), (0, .ref h_A), (1, .int x1)]) hx hb ze_A_isLedBackTo_30 hl (k := 2) rfl rfl (by decide) rfl (fun ls hl => ?_)
        refine lv_goto (tgt := 2) hx hb ze_A_isLedBackTo_33 (by decide) ?_
        exact ih x1 (x2 + (1 : Int32)) A_low A_high A_states _ _ _ hP hD hS (lv_sub hl [1, 2, 0] rfl) h
      · replace h := z_it_f c3 h
        refine lv_aload_n hx hb ze_A_isLedBackTo_19 rfl (lv_at hl 0 rfl) ?_
        refine lv_iload_n hx hb ze_A_isLedBackTo_20 rfl (lv_at hl 2 rfl) ?_
        refine lv_iload_n hx hb ze_A_isLedBackTo_21 rfl (lv_at hl 1 rfl) ?_
        obtain ⟨r4, q4, h⟩ := z_b1_some h
        have hPc := hP.sub (ws' := (zd_A cC cI cJ h_A h_A_low h_A_high h_A_homes h_A_leasts A_genes A_count A_low A_high A_homes A_leasts A_states A_lowLeasts A_highLeasts)) [0, 1, 2, 3, 4] rfl
        have hDc := hD.sub (ws' := (zd_A cC cI cJ h_A h_A_low h_A_high h_A_homes h_A_leasts A_genes A_count A_low A_high A_homes A_leasts A_states A_lowLeasts A_highLeasts)) [0, 1, 2, 3, 4] (by decide) rfl
        have hFc := va_free (wc := (zd_A cC cI cJ h_A h_A_low h_A_high h_A_homes h_A_leasts A_genes A_count A_low A_high A_homes A_leasts A_states A_lowLeasts A_highLeasts)) hD hS hA [0, 1, 2, 3, 4] rfl
        -- CALL A_leads
        refine va_calli (va_runV (As := [.int x2, .int x1]) (rest := []) ⟨hx, hb, hml, hown, ht⟩ (zc_A_leads l dC dI cC cI cJ tp h_A h_A_low h_A_high h_A_homes h_A_leasts H.size A_genes A_count A_low A_high A_homes A_leasts A_states A_lowLeasts A_highLeasts x2 x1 r4 q4) (cwV 2 ht (z_gV zw_420 zw_422 zw_16 zw_58 zw_423) rfl rfl rfl ⟨rfl, zh_A_leads⟩ ⟨Nat.le_of_ble_eq_true rfl, Nat.le_of_ble_eq_true rfl⟩) ⟨fun a U g mk q => by obtain ⟨z0, z1, zP, zK, zD, zX⟩ := q; exact ⟨z0, z1, zP, va_K.moved (u := U) (U := U.calling g mk a) (Vm.Alike.refl U.vm) zK, zD, z_X.same rfl rfl zX⟩, va_recv hK hP (ci := 2) (q0 := 0) rfl rfl, fun U hU hW => ⟨rfl, by rw [hU], by rw [hU]; exact hPc, va_K.moved hW.alike hK, hDc.weaken (fun _ _ _ _ => trivial), hX.warm hS hFc hU hW⟩⟩ rfl rfl hl.1 rfl (lv_room (Nat.le_of_ble_eq_true rfl)) ze_A_isLedBackTo_22 ⟨Nat.zero_le _, Nat.zero_le _⟩) hS (fun q _ h => hFc q h) hFc (fun rv u t H1 locs ht9 hvm hw hB hz1 hk1 hS => ?_)
        obtain ⟨hP1, hD1⟩ := hB
        rw [ht9] at hP1
        have hw' : r4 = rv := Eq.symm hw
        subst hw'
        obtain ⟨hP, hD⟩ := va_join (wr := []) (w1 := (zd_A cC cI cJ h_A h_A_low h_A_high h_A_homes h_A_leasts A_genes A_count A_low A_high A_homes A_leasts A_states A_lowLeasts A_highLeasts)) hP hD [0, 1, 2, 3, 4] [] rfl rfl (by decide) (by decide) hk1 hFc hP1 hD1
        generalize H1 = H at hP hS ⊢
        replace hP := hP.sub (ws' := (zd_A cC cI cJ h_A h_A_low h_A_high h_A_homes h_A_leasts A_genes A_count A_low A_high A_homes A_leasts A_states A_lowLeasts A_highLeasts)) [0, 1, 2, 3, 4] rfl
        replace hD := hD.sub (ws' := (zd_A cC cI cJ h_A h_A_low h_A_high h_A_homes h_A_leasts A_genes A_count A_low A_high A_homes A_leasts A_states A_lowLeasts A_highLeasts)) [0, 1, 2, 3, 4] (by decide) rfl
        refine lv_if_ne (tgt := 30) hx hb ze_A_isLedBackTo_25 (by decide) (fun c5 => ?_) (fun c5 => ?_)
        · replace h := z_it_f c5 h
          refine lv_iinc (v := (x2 + (1 : Int32))) (lv' := [(2, .int (x2 + (1 : Int32))), (0, .ref h_A), (1, .int x1)]) hx hb ze_A_isLedBackTo_30 hl (k := 2) rfl rfl (by decide) rfl (fun ls hl => ?_)
          refine lv_goto (tgt := 2) hx hb ze_A_isLedBackTo_33 (by decide) ?_
          exact ih x1 (x2 + (1 : Int32)) A_low A_high A_states _ _ _ hP hD hS (lv_sub hl [1, 2, 0] rfl) h
        · replace h := z_it_t c5 h
          refine lv_iconst (v := (0 : Int32)) hx hb ze_A_isLedBackTo_28 (by decide) ?_
          obtain ⟨hn, h⟩ := z_gb_some h
          cases h
          exact W.zret hx hb hr hn (fun t ht9 hW => ⟨⟨_, (), rfl, rfl, by rw [ht9]; exact hP, hD⟩, hS.F ht9⟩) hS.2.2 ze_A_isLedBackTo_29
set_option maxHeartbeats 4000000 in
set_option maxRecDepth 100000 in
theorem zc_A_isLedBackTo (l : Launch) (dC : Nat → ClassId) (dI : Nat → Nat → Nat) (cC : ClassId) (cI : ClassId) (cJ : ClassId) (tp : Nat) (h_A : Nat) (h_A_low : Nat) (h_A_high : Nat) (h_A_homes : Nat) (h_A_leasts : Nat) (sz : Nat) (A_genes : Int32) (A_count : Int32) (A_low : Nat → Int64) (A_high : Nat → Int64) (A_homes : Nat → Int32) (A_leasts : Nat → Int32) (A_states : Int32) (A_lowLeasts : Int64) (A_highLeasts : Int64) (x1 : Int32) (o_r : Int32) (h : zf_A_isLedBackTo x1 A_low A_high A_states = some (o_r)) : Met l zy_A_isLedBackTo zs_A_isLedBackTo (rm_A_isLedBackTo) (va_Pc [.ref h_A, .int x1] (fun U => U.heap.size = sz ∧ va_P (dC, dI) vwCl (zd_A cC cI cJ h_A h_A_low h_A_high h_A_homes h_A_leasts A_genes A_count A_low A_high A_homes A_leasts A_states A_lowLeasts A_highLeasts) U.heap ∧ va_K (dC, dI) vwCl (z_tys cC cI cJ) U ∧ va_D (fun _ => True) (zd_A cC cI cJ h_A h_A_low h_A_high h_A_homes h_A_leasts A_genes A_count A_low A_high A_homes A_leasts A_states A_lowLeasts A_highLeasts) ∧ z_X tp (va_A (zd_A cC cI cJ h_A h_A_low h_A_high h_A_homes h_A_leasts A_genes A_count A_low A_high A_homes A_leasts A_states A_lowLeasts A_highLeasts) sz) U)) (zq_A_isLedBackTo dC dI cC cI cJ h_A h_A_low h_A_high h_A_homes h_A_leasts A_genes A_count A_low A_high A_homes A_leasts A_states A_lowLeasts A_highLeasts o_r (va_A (zd_A cC cI cJ h_A h_A_low h_A_high h_A_homes h_A_leasts A_genes A_count A_low A_high A_homes A_leasts A_states A_lowLeasts A_highLeasts) sz)) 0 0 (va_A (zd_A cC cI cJ h_A h_A_low h_A_high h_A_homes h_A_leasts A_genes A_count A_low A_high A_homes A_leasts A_states A_lowLeasts A_highLeasts) sz) := by
  refine Met.ofW (cc := zb_A_isLedBackTo) (maxL := 3) (ret := (some .boolean)) (by decide) rfl ?_
  intro p e s m args below meth c s₁ B hml hv
  obtain ⟨rfl, hsz, hP, hK, hD0, hX⟩ := hv
  have hx := B.exec
  have hb := B.bytes
  have hr := B.returns
  have hts := atoms_spec (ws := zs_A_isLedBackTo) B.pre
  have ht : ∀ w ∈ z_W, w.before _ s = true := fun w h => hts w (List.mem_cons_of_mem _ h)
  have hown : s.vm.findClass "RuleNetwork$Analysis" = some m.cls := findClass_of_methodNamed B.named
  have hlocks := B.notSynchronized
  have C0 : z_kx p s m _ meth c "RuleNetwork$Analysis" zb_A_isLedBackTo 3 (some .boolean) := ⟨hx, hb, hr, hml, hown, ht, hlocks⟩
  subst hsz
  have hD := hD0.self (sz := s.heap.size)
  generalize hAe : va_A (zd_A cC cI cJ h_A h_A_low h_A_high h_A_homes h_A_leasts A_genes A_count A_low A_high A_homes A_leasts A_states A_lowLeasts A_highLeasts) s.heap.size = A at hD hX ⊢
  have hA : ∀ q : Nat, s.heap.size ≤ q → A q := fun q h => by rw [← hAe]; exact Or.inr h
  have hS : va_S A s.heap s.heap [] := va_S.rf
  have hl := lv_entry ([.ref h_A, .int x1]) (n := 3) (Nat.le_of_ble_eq_true rfl)
  rw [lg_entry_eq]
  generalize (lg_sl ([.ref h_A, .int x1]) ++ List.replicate (3 - (lg_sl ([.ref h_A, .int x1])).length) Slot.unset).toArray = ls at hl ⊢
  have hl : lv_has ls 3 [(0, .ref h_A), (1, .int x1)] := hl
  rw [zf_A_isLedBackTo] at h
  refine lv_iconst (v := (0 : Int32)) hx hb ze_A_isLedBackTo_0 (by decide) ?_
  refine lv_istore_n (lv' := [(2, .int (0 : Int32)), (0, .ref h_A), (1, .int x1)]) hx hb ze_A_isLedBackTo_1 rfl hl (by decide) rfl (fun ls hl => ?_)
  exact zk_A_isLedBackTo_2 C0 hK hA hX z_FU x1 (0 : Int32) A_low A_high A_states _ _ _ hP hD hS (lv_sub hl [1, 2, 0] rfl) h
set_option maxHeartbeats 4000000 in
set_option maxRecDepth 100000 in
theorem zk_A_addAttractor_2 {p : Program} {l : Launch} {e : Env} {s : State} {m : MethodId} {args : Array Value} {below : List Frame} {meth : Method} {c : Code} {dC : Nat → ClassId} {dI : Nat → Nat → Nat} {cC cI cJ : ClassId} {A : Nat → Prop} {tp : Nat} {h_A h_A_low h_A_high h_A_homes h_A_leasts : Nat} {A_genes : Int32} {o_A_count : Int32} {o_A_homes : Nat → Int32} {o_A_leasts : Nat → Int32} {o_A_lowLeasts : Int64} {o_A_highLeasts : Int64} (C0 : z_kx p s m args meth c "RuleNetwork$Analysis" zb_A_addAttractor 3 none) (hK : va_K (dC, dI) vwCl (z_tys cC cI cJ) s) (hA : ∀ q : Nat, s.heap.size ≤ q → A q) (hX : z_X tp A s) :
    ∀ n : Nat, ∀ (x1 : Int32) (x2 : Int32) (A_count : Int32) (A_low : Nat → Int64) (A_high : Nat → Int64) (A_homes : Nat → Int32) (A_leasts : Nat → Int32) (A_states : Int32) (A_lowLeasts : Int64) (A_highLeasts : Int64) (H : Heap) (locs : List Loc) (ls : Array Slot), va_P (dC, dI) vwCl (zd_A cC cI cJ h_A h_A_low h_A_high h_A_homes h_A_leasts A_genes A_count A_low A_high A_homes A_leasts A_states A_lowLeasts A_highLeasts) H → va_D A (zd_A cC cI cJ h_A h_A_low h_A_high h_A_homes h_A_leasts A_genes A_count A_low A_high A_homes A_leasts A_states A_lowLeasts A_highLeasts) → va_S A s.heap H locs → lv_has ls 3 [(0, .ref h_A), (1, .int x1), (2, .int x2)] → zf_A_addAttractor_2 n x1 x2 A_count A_low A_high A_homes A_leasts A_states A_lowLeasts A_highLeasts = some (o_A_count, o_A_homes, o_A_leasts, o_A_lowLeasts, o_A_highLeasts) → W p l e (headSpec zs_A_addAttractor rm_A_addAttractor).room s m args below meth c H locs 0 0 (MQ below (zq_A_addAttractor dC dI cC cI cJ h_A h_A_low h_A_high h_A_homes h_A_leasts A_genes A_low A_high A_states o_A_count o_A_homes o_A_leasts o_A_lowLeasts o_A_highLeasts A) args s 0 0 A) (F0 m 2 ls []) := by
  obtain ⟨hx, hb, hr, hml, hown, ht, hlocks⟩ := id C0
  intro n
  induction n with
  | zero =>
    intro x1 x2 A_count A_low A_high A_homes A_leasts A_states A_lowLeasts A_highLeasts H locs ls hP hD hS hl h
    cases (show none = some _ from h)
  | succ n ih =>
    intro x1 x2 A_count A_low A_high A_homes A_leasts A_states A_lowLeasts A_highLeasts H locs ls hP hD hS hl h
    rw [zf_A_addAttractor_2] at h
    refine lv_iload_n hx hb ze_A_addAttractor_2 rfl (lv_at hl 2 rfl) ?_
    refine lv_aload_n hx hb ze_A_addAttractor_3 rfl (lv_at hl 0 rfl) ?_
    refine va_get (D := (dC, dI)) (ci := 2) (v := .int A_states) (C := "RuleNetwork$Analysis") (T := zT_A) (N := 9) hx hb ht zin_A hown hK hP 0 rfl rfl 6 (by decide) (ht _ zw_161) (fun _ h9 => h9) rfl ze_A_addAttractor_4 ?_
    refine lv_icmp_ge (tgt := 35) hx hb ze_A_addAttractor_7 (by decide) (fun c1 => ?_) (fun c1 => ?_)
    · replace h := z_it_t c1 h
      refine lv_aload_n hx hb ze_A_addAttractor_35 rfl (lv_at hl 0 rfl) ?_
      refine va_get (D := (dC, dI)) (ci := 2) (v := .ref h_A_leasts) (C := "RuleNetwork$Analysis") (T := zT_A) (N := 9) hx hb ht zin_A hown hK hP 0 rfl rfl 5 (by decide) (ht _ zw_159) (fun _ h9 => h9) rfl ze_A_addAttractor_36 ?_
      refine lv_aload_n hx hb ze_A_addAttractor_39 rfl (lv_at hl 0 rfl) ?_
      refine va_get (D := (dC, dI)) (ci := 2) (v := .int A_count) (C := "RuleNetwork$Analysis") (T := zT_A) (N := 9) hx hb ht zin_A hown hK hP 0 rfl rfl 1 (by decide) (ht _ zw_151) (fun _ h9 => h9) rfl ze_A_addAttractor_40 ?_
      refine lv_iload_n hx hb ze_A_addAttractor_43 rfl (lv_at hl 1 rfl) ?_
      obtain ⟨g2, h⟩ := z_gd_some h
      refine va_iast hx hb hK hP hD hS 4 1 rfl rfl g2 ze_A_addAttractor_44 (fun H locs hP hD hS => ?_)
      have hP : va_P (dC, dI) vwCl (zd_A cC cI cJ h_A h_A_low h_A_high h_A_homes h_A_leasts A_genes A_count A_low A_high A_homes (upd A_leasts A_count.toNatClampNeg x1) A_states A_lowLeasts A_highLeasts) H := hP
      have hD : va_D A (zd_A cC cI cJ h_A h_A_low h_A_high h_A_homes h_A_leasts A_genes A_count A_low A_high A_homes (upd A_leasts A_count.toNatClampNeg x1) A_states A_lowLeasts A_highLeasts) := hD
      refine lv_aload_n hx hb ze_A_addAttractor_45 rfl (lv_at hl 0 rfl) ?_
      refine lv_dup hx hb ze_A_addAttractor_46 rfl ?_
      refine va_get (D := (dC, dI)) (ci := 2) (v := .int A_count) (C := "RuleNetwork$Analysis") (T := zT_A) (N := 9) hx hb ht zin_A hown hK hP 0 rfl rfl 1 (by decide) (ht _ zw_151) (fun _ h9 => h9) rfl ze_A_addAttractor_47 ?_
      refine lv_iconst (v := (1 : Int32)) hx hb ze_A_addAttractor_50 (by decide) ?_
      refine lv_iadd hx hb ze_A_addAttractor_51 ?_
      refine va_put (D := (dC, dI)) (ci := 2) (v := .int (A_count + (1 : Int32))) (ty := .int) (C := "RuleNetwork$Analysis") (T := zT_A) (N := 9) hx hb ht zin_A zty_A zty_A_ok znm_A hown hK hP hD hS 0 rfl rfl 1 (by decide) (ht _ zw_151) (fun _ h9 => h9) rfl (zty_A_ok 1 (by decide)) rfl rfl (Nat.le_of_ble_eq_true rfl) ze_A_addAttractor_52 (fun H locs hP hD hS => ?_)
      have hP : va_P (dC, dI) vwCl (zd_A cC cI cJ h_A h_A_low h_A_high h_A_homes h_A_leasts A_genes (A_count + (1 : Int32)) A_low A_high A_homes (upd A_leasts A_count.toNatClampNeg x1) A_states A_lowLeasts A_highLeasts) H := hP
      have hD : va_D A (zd_A cC cI cJ h_A h_A_low h_A_high h_A_homes h_A_leasts A_genes (A_count + (1 : Int32)) A_low A_high A_homes (upd A_leasts A_count.toNatClampNeg x1) A_states A_lowLeasts A_highLeasts) := hD
      refine lv_iload_n hx hb ze_A_addAttractor_55 rfl (lv_at hl 1 rfl) ?_
      refine lv_bipush (v := (64 : Int32)) hx hb ze_A_addAttractor_56 (by decide) ?_
      refine lv_icmp_ge (tgt := 76) hx hb ze_A_addAttractor_58 (by decide) (fun c3 => ?_) (fun c3 => ?_)
      · replace h := z_it_t c3 h
        refine lv_aload_n hx hb ze_A_addAttractor_76 rfl (lv_at hl 0 rfl) ?_
        refine lv_dup hx hb ze_A_addAttractor_77 rfl ?_
        refine va_get (D := (dC, dI)) (ci := 2) (v := .long A_highLeasts) (C := "RuleNetwork$Analysis") (T := zT_A) (N := 9) hx hb ht zin_A hown hK hP 0 rfl rfl 8 (by decide) (ht _ zw_163) (fun _ h9 => h9) rfl ze_A_addAttractor_78 ?_
        refine lv_lconst (v := (1 : Int64)) hx hb ze_A_addAttractor_81 (by decide) ?_
        refine lv_iload_n hx hb ze_A_addAttractor_82 rfl (lv_at hl 1 rfl) ?_
        refine lv_bipush (v := (63 : Int32)) hx hb ze_A_addAttractor_83 (by decide) ?_
        refine lv_iand hx hb ze_A_addAttractor_85 ?_
        refine lv_lshl hx hb ze_A_addAttractor_86 rfl ?_
        refine lv_lor hx hb ze_A_addAttractor_87 ?_
        refine va_put (D := (dC, dI)) (ci := 2) (v := .long (A_highLeasts ||| ((1 : Int64) <<< ((x1 &&& (63 : Int32)).toInt64 &&& 63)))) (ty := .long) (C := "RuleNetwork$Analysis") (T := zT_A) (N := 9) hx hb ht zin_A zty_A zty_A_ok znm_A hown hK hP hD hS 0 rfl rfl 8 (by decide) (ht _ zw_163) (fun _ h9 => h9) rfl (zty_A_ok 8 (by decide)) rfl rfl (Nat.le_of_ble_eq_true rfl) ze_A_addAttractor_88 (fun H locs hP hD hS => ?_)
        have hP : va_P (dC, dI) vwCl (zd_A cC cI cJ h_A h_A_low h_A_high h_A_homes h_A_leasts A_genes (A_count + (1 : Int32)) A_low A_high A_homes (upd A_leasts A_count.toNatClampNeg x1) A_states A_lowLeasts (A_highLeasts ||| ((1 : Int64) <<< ((x1 &&& (63 : Int32)).toInt64 &&& 63)))) H := hP
        have hD : va_D A (zd_A cC cI cJ h_A h_A_low h_A_high h_A_homes h_A_leasts A_genes (A_count + (1 : Int32)) A_low A_high A_homes (upd A_leasts A_count.toNatClampNeg x1) A_states A_lowLeasts (A_highLeasts ||| ((1 : Int64) <<< ((x1 &&& (63 : Int32)).toInt64 &&& 63)))) := hD
        cases h
        exact W.vret hx hb hr (fun t ht9 hW => ⟨⟨(), rfl, trivial, by rw [ht9]; exact hP, hD⟩, hS.F ht9⟩) hS.2.2 ze_A_addAttractor_91
      · replace h := z_it_f c3 h
        refine lv_aload_n hx hb ze_A_addAttractor_61 rfl (lv_at hl 0 rfl) ?_
        refine lv_dup hx hb ze_A_addAttractor_62 rfl ?_
        refine va_get (D := (dC, dI)) (ci := 2) (v := .long A_lowLeasts) (C := "RuleNetwork$Analysis") (T := zT_A) (N := 9) hx hb ht zin_A hown hK hP 0 rfl rfl 7 (by decide) (ht _ zw_162) (fun _ h9 => h9) rfl ze_A_addAttractor_63 ?_
        refine lv_lconst (v := (1 : Int64)) hx hb ze_A_addAttractor_66 (by decide) ?_
        refine lv_iload_n hx hb ze_A_addAttractor_67 rfl (lv_at hl 1 rfl) ?_
        refine lv_lshl hx hb ze_A_addAttractor_68 rfl ?_
        refine lv_lor hx hb ze_A_addAttractor_69 ?_
        refine va_put (D := (dC, dI)) (ci := 2) (v := .long (A_lowLeasts ||| ((1 : Int64) <<< (x1.toInt64 &&& 63)))) (ty := .long) (C := "RuleNetwork$Analysis") (T := zT_A) (N := 9) hx hb ht zin_A zty_A zty_A_ok znm_A hown hK hP hD hS 0 rfl rfl 7 (by decide) (ht _ zw_162) (fun _ h9 => h9) rfl (zty_A_ok 7 (by decide)) rfl rfl (Nat.le_of_ble_eq_true rfl) ze_A_addAttractor_70 (fun H locs hP hD hS => ?_)
        have hP : va_P (dC, dI) vwCl (zd_A cC cI cJ h_A h_A_low h_A_high h_A_homes h_A_leasts A_genes (A_count + (1 : Int32)) A_low A_high A_homes (upd A_leasts A_count.toNatClampNeg x1) A_states (A_lowLeasts ||| ((1 : Int64) <<< (x1.toInt64 &&& 63))) A_highLeasts) H := hP
        have hD : va_D A (zd_A cC cI cJ h_A h_A_low h_A_high h_A_homes h_A_leasts A_genes (A_count + (1 : Int32)) A_low A_high A_homes (upd A_leasts A_count.toNatClampNeg x1) A_states (A_lowLeasts ||| ((1 : Int64) <<< (x1.toInt64 &&& 63))) A_highLeasts) := hD
        refine lv_goto (tgt := 91) hx hb ze_A_addAttractor_73 (by decide) ?_
        cases h
        exact W.vret hx hb hr (fun t ht9 hW => ⟨⟨(), rfl, trivial, by rw [ht9]; exact hP, hD⟩, hS.F ht9⟩) hS.2.2 ze_A_addAttractor_91
    · replace h := z_it_f c1 h
      refine lv_aload_n hx hb ze_A_addAttractor_10 rfl (lv_at hl 0 rfl) ?_
      refine lv_iload_n hx hb ze_A_addAttractor_11 rfl (lv_at hl 1 rfl) ?_
      refine lv_iload_n hx hb ze_A_addAttractor_12 rfl (lv_at hl 2 rfl) ?_
      obtain ⟨r4, q4, h⟩ := z_b1_some h
      have hPc := hP.sub (ws' := (zd_A cC cI cJ h_A h_A_low h_A_high h_A_homes h_A_leasts A_genes A_count A_low A_high A_homes A_leasts A_states A_lowLeasts A_highLeasts)) [0, 1, 2, 3, 4] rfl
      have hDc := hD.sub (ws' := (zd_A cC cI cJ h_A h_A_low h_A_high h_A_homes h_A_leasts A_genes A_count A_low A_high A_homes A_leasts A_states A_lowLeasts A_highLeasts)) [0, 1, 2, 3, 4] (by decide) rfl
      have hFc := va_free (wc := (zd_A cC cI cJ h_A h_A_low h_A_high h_A_homes h_A_leasts A_genes A_count A_low A_high A_homes A_leasts A_states A_lowLeasts A_highLeasts)) hD hS hA [0, 1, 2, 3, 4] rfl
      -- CALL A_leads
      refine va_calli (va_runV (As := [.int x1, .int x2]) (rest := []) ⟨hx, hb, hml, hown, ht⟩ (zc_A_leads l dC dI cC cI cJ tp h_A h_A_low h_A_high h_A_homes h_A_leasts H.size A_genes A_count A_low A_high A_homes A_leasts A_states A_lowLeasts A_highLeasts x1 x2 r4 q4) (cwV 2 ht (z_gV zw_420 zw_422 zw_16 zw_58 zw_423) rfl rfl rfl ⟨rfl, zh_A_leads⟩ ⟨Nat.le_of_ble_eq_true rfl, Nat.le_of_ble_eq_true rfl⟩) ⟨fun a U g mk q => by obtain ⟨z0, z1, zP, zK, zD, zX⟩ := q; exact ⟨z0, z1, zP, va_K.moved (u := U) (U := U.calling g mk a) (Vm.Alike.refl U.vm) zK, zD, z_X.same rfl rfl zX⟩, va_recv hK hP (ci := 2) (q0 := 0) rfl rfl, fun U hU hW => ⟨rfl, by rw [hU], by rw [hU]; exact hPc, va_K.moved hW.alike hK, hDc.weaken (fun _ _ _ _ => trivial), hX.warm hS hFc hU hW⟩⟩ rfl rfl hl.1 rfl (lv_room (Nat.le_of_ble_eq_true rfl)) ze_A_addAttractor_13 ⟨Nat.zero_le _, Nat.zero_le _⟩) hS (fun q _ h => hFc q h) hFc (fun rv u t H1 locs ht9 hvm hw hB hz1 hk1 hS => ?_)
      obtain ⟨hP1, hD1⟩ := hB
      rw [ht9] at hP1
      have hw' : r4 = rv := Eq.symm hw
      subst hw'
      obtain ⟨hP, hD⟩ := va_join (wr := []) (w1 := (zd_A cC cI cJ h_A h_A_low h_A_high h_A_homes h_A_leasts A_genes A_count A_low A_high A_homes A_leasts A_states A_lowLeasts A_highLeasts)) hP hD [0, 1, 2, 3, 4] [] rfl rfl (by decide) (by decide) hk1 hFc hP1 hD1
      generalize H1 = H at hP hS ⊢
      replace hP := hP.sub (ws' := (zd_A cC cI cJ h_A h_A_low h_A_high h_A_homes h_A_leasts A_genes A_count A_low A_high A_homes A_leasts A_states A_lowLeasts A_highLeasts)) [0, 1, 2, 3, 4] rfl
      replace hD := hD.sub (ws' := (zd_A cC cI cJ h_A h_A_low h_A_high h_A_homes h_A_leasts A_genes A_count A_low A_high A_homes A_leasts A_states A_lowLeasts A_highLeasts)) [0, 1, 2, 3, 4] (by decide) rfl
      refine lv_if_eq (tgt := 29) hx hb ze_A_addAttractor_16 (by decide) (fun c5 => ?_) (fun c5 => ?_)
      · replace h := z_it_t c5 h
        refine lv_iinc (v := (x2 + (1 : Int32))) (lv' := [(2, .int (x2 + (1 : Int32))), (0, .ref h_A), (1, .int x1)]) hx hb ze_A_addAttractor_29 hl (k := 2) rfl rfl (by decide) rfl (fun ls hl => ?_)
        refine lv_goto (tgt := 2) hx hb ze_A_addAttractor_32 (by decide) ?_
        exact ih x1 (x2 + (1 : Int32)) A_count A_low A_high A_homes A_leasts A_states A_lowLeasts A_highLeasts _ _ _ hP hD hS (lv_sub hl [1, 2, 0] rfl) h
      · replace h := z_it_f c5 h
        refine lv_aload_n hx hb ze_A_addAttractor_19 rfl (lv_at hl 0 rfl) ?_
        refine va_get (D := (dC, dI)) (ci := 2) (v := .ref h_A_homes) (C := "RuleNetwork$Analysis") (T := zT_A) (N := 9) hx hb ht zin_A hown hK hP 0 rfl rfl 4 (by decide) (ht _ zw_157) (fun _ h9 => h9) rfl ze_A_addAttractor_20 ?_
        refine lv_iload_n hx hb ze_A_addAttractor_23 rfl (lv_at hl 2 rfl) ?_
        refine lv_aload_n hx hb ze_A_addAttractor_24 rfl (lv_at hl 0 rfl) ?_
        refine va_get (D := (dC, dI)) (ci := 2) (v := .int A_count) (C := "RuleNetwork$Analysis") (T := zT_A) (N := 9) hx hb ht zin_A hown hK hP 0 rfl rfl 1 (by decide) (ht _ zw_151) (fun _ h9 => h9) rfl ze_A_addAttractor_25 ?_
        obtain ⟨g6, h⟩ := z_gd_some h
        refine va_iast hx hb hK hP hD hS 3 1 rfl rfl g6 ze_A_addAttractor_28 (fun H locs hP hD hS => ?_)
        have hP : va_P (dC, dI) vwCl (zd_A cC cI cJ h_A h_A_low h_A_high h_A_homes h_A_leasts A_genes A_count A_low A_high (upd A_homes x2.toNatClampNeg A_count) A_leasts A_states A_lowLeasts A_highLeasts) H := hP
        have hD : va_D A (zd_A cC cI cJ h_A h_A_low h_A_high h_A_homes h_A_leasts A_genes A_count A_low A_high (upd A_homes x2.toNatClampNeg A_count) A_leasts A_states A_lowLeasts A_highLeasts) := hD
        refine lv_iinc (v := (x2 + (1 : Int32))) (lv' := [(2, .int (x2 + (1 : Int32))), (0, .ref h_A), (1, .int x1)]) hx hb ze_A_addAttractor_29 hl (k := 2) rfl rfl (by decide) rfl (fun ls hl => ?_)
        refine lv_goto (tgt := 2) hx hb ze_A_addAttractor_32 (by decide) ?_
        exact ih x1 (x2 + (1 : Int32)) A_count A_low A_high (upd A_homes x2.toNatClampNeg A_count) A_leasts A_states A_lowLeasts A_highLeasts _ _ _ hP hD hS (lv_sub hl [1, 2, 0] rfl) h
set_option maxHeartbeats 4000000 in
set_option maxRecDepth 100000 in
theorem zc_A_addAttractor (l : Launch) (dC : Nat → ClassId) (dI : Nat → Nat → Nat) (cC : ClassId) (cI : ClassId) (cJ : ClassId) (tp : Nat) (h_A : Nat) (h_A_low : Nat) (h_A_high : Nat) (h_A_homes : Nat) (h_A_leasts : Nat) (sz : Nat) (A_genes : Int32) (A_count : Int32) (A_low : Nat → Int64) (A_high : Nat → Int64) (A_homes : Nat → Int32) (A_leasts : Nat → Int32) (A_states : Int32) (A_lowLeasts : Int64) (A_highLeasts : Int64) (x1 : Int32) (o_A_count : Int32) (o_A_homes : Nat → Int32) (o_A_leasts : Nat → Int32) (o_A_lowLeasts : Int64) (o_A_highLeasts : Int64) (h : zf_A_addAttractor x1 A_count A_low A_high A_homes A_leasts A_states A_lowLeasts A_highLeasts = some (o_A_count, o_A_homes, o_A_leasts, o_A_lowLeasts, o_A_highLeasts)) : Met l zy_A_addAttractor zs_A_addAttractor (rm_A_addAttractor) (va_Pc [.ref h_A, .int x1] (fun U => U.heap.size = sz ∧ va_P (dC, dI) vwCl (zd_A cC cI cJ h_A h_A_low h_A_high h_A_homes h_A_leasts A_genes A_count A_low A_high A_homes A_leasts A_states A_lowLeasts A_highLeasts) U.heap ∧ va_K (dC, dI) vwCl (z_tys cC cI cJ) U ∧ va_D (fun _ => True) (zd_A cC cI cJ h_A h_A_low h_A_high h_A_homes h_A_leasts A_genes A_count A_low A_high A_homes A_leasts A_states A_lowLeasts A_highLeasts) ∧ z_X tp (va_A (zd_A cC cI cJ h_A h_A_low h_A_high h_A_homes h_A_leasts A_genes A_count A_low A_high A_homes A_leasts A_states A_lowLeasts A_highLeasts) sz) U)) (zq_A_addAttractor dC dI cC cI cJ h_A h_A_low h_A_high h_A_homes h_A_leasts A_genes A_low A_high A_states o_A_count o_A_homes o_A_leasts o_A_lowLeasts o_A_highLeasts (va_A (zd_A cC cI cJ h_A h_A_low h_A_high h_A_homes h_A_leasts A_genes A_count A_low A_high A_homes A_leasts A_states A_lowLeasts A_highLeasts) sz)) 0 0 (va_A (zd_A cC cI cJ h_A h_A_low h_A_high h_A_homes h_A_leasts A_genes A_count A_low A_high A_homes A_leasts A_states A_lowLeasts A_highLeasts) sz) := by
  refine Met.ofW (cc := zb_A_addAttractor) (maxL := 3) (ret := none) (by decide) rfl ?_
  intro p e s m args below meth c s₁ B hml hv
  obtain ⟨rfl, hsz, hP, hK, hD0, hX⟩ := hv
  have hx := B.exec
  have hb := B.bytes
  have hr := B.returns
  have hts := atoms_spec (ws := zs_A_addAttractor) B.pre
  have ht : ∀ w ∈ z_W, w.before _ s = true := fun w h => hts w (List.mem_cons_of_mem _ h)
  have hown : s.vm.findClass "RuleNetwork$Analysis" = some m.cls := findClass_of_methodNamed B.named
  have hlocks := B.notSynchronized
  have C0 : z_kx p s m _ meth c "RuleNetwork$Analysis" zb_A_addAttractor 3 none := ⟨hx, hb, hr, hml, hown, ht, hlocks⟩
  subst hsz
  have hD := hD0.self (sz := s.heap.size)
  generalize hAe : va_A (zd_A cC cI cJ h_A h_A_low h_A_high h_A_homes h_A_leasts A_genes A_count A_low A_high A_homes A_leasts A_states A_lowLeasts A_highLeasts) s.heap.size = A at hD hX ⊢
  have hA : ∀ q : Nat, s.heap.size ≤ q → A q := fun q h => by rw [← hAe]; exact Or.inr h
  have hS : va_S A s.heap s.heap [] := va_S.rf
  have hl := lv_entry ([.ref h_A, .int x1]) (n := 3) (Nat.le_of_ble_eq_true rfl)
  rw [lg_entry_eq]
  generalize (lg_sl ([.ref h_A, .int x1]) ++ List.replicate (3 - (lg_sl ([.ref h_A, .int x1])).length) Slot.unset).toArray = ls at hl ⊢
  have hl : lv_has ls 3 [(0, .ref h_A), (1, .int x1)] := hl
  rw [zf_A_addAttractor] at h
  refine lv_iconst (v := (0 : Int32)) hx hb ze_A_addAttractor_0 (by decide) ?_
  refine lv_istore_n (lv' := [(2, .int (0 : Int32)), (0, .ref h_A), (1, .int x1)]) hx hb ze_A_addAttractor_1 rfl hl (by decide) rfl (fun ls hl => ?_)
  exact zk_A_addAttractor_2 C0 hK hA hX z_FU x1 (0 : Int32) A_count A_low A_high A_homes A_leasts A_states A_lowLeasts A_highLeasts _ _ _ hP hD hS (lv_sub hl [1, 2, 0] rfl) h
set_option maxHeartbeats 4000000 in
set_option maxRecDepth 100000 in
theorem zk_A_findAttractors_25 {p : Program} {l : Launch} {e : Env} {s : State} {m : MethodId} {args : Array Value} {below : List Frame} {meth : Method} {c : Code} {dC : Nat → ClassId} {dI : Nat → Nat → Nat} {cC cI cJ : ClassId} {A : Nat → Prop} {tp : Nat} {h_A h_A_low h_A_high h_A_homes h_A_leasts : Nat} {A_genes : Int32} {o_A_count : Int32} {o_A_homes : Nat → Int32} {o_A_leasts : Nat → Int32} {o_A_lowLeasts : Int64} {o_A_highLeasts : Int64} (C0 : z_kx p s m args meth c "RuleNetwork$Analysis" zb_A_findAttractors 2 none) (hK : va_K (dC, dI) vwCl (z_tys cC cI cJ) s) (hA : ∀ q : Nat, s.heap.size ≤ q → A q) (hX : z_X tp A s) :
    ∀ n : Nat, ∀ (x1 : Int32) (A_count : Int32) (A_low : Nat → Int64) (A_high : Nat → Int64) (A_homes : Nat → Int32) (A_leasts : Nat → Int32) (A_states : Int32) (A_lowLeasts : Int64) (A_highLeasts : Int64) (H : Heap) (locs : List Loc) (ls : Array Slot), va_P (dC, dI) vwCl (zd_A cC cI cJ h_A h_A_low h_A_high h_A_homes h_A_leasts A_genes A_count A_low A_high A_homes A_leasts A_states A_lowLeasts A_highLeasts) H → va_D A (zd_A cC cI cJ h_A h_A_low h_A_high h_A_homes h_A_leasts A_genes A_count A_low A_high A_homes A_leasts A_states A_lowLeasts A_highLeasts) → va_S A s.heap H locs → lv_has ls 2 [(0, .ref h_A), (1, .int x1)] → zf_A_findAttractors_25 n x1 A_count A_low A_high A_homes A_leasts A_states A_lowLeasts A_highLeasts = some (o_A_count, o_A_homes, o_A_leasts, o_A_lowLeasts, o_A_highLeasts) → W p l e (headSpec zs_A_findAttractors rm_A_findAttractors).room s m args below meth c H locs 0 0 (MQ below (zq_A_findAttractors dC dI cC cI cJ h_A h_A_low h_A_high h_A_homes h_A_leasts A_genes A_low A_high A_states o_A_count o_A_homes o_A_leasts o_A_lowLeasts o_A_highLeasts A) args s 0 0 A) (F0 m 25 ls []) := by
  obtain ⟨hx, hb, hr, hml, hown, ht, hlocks⟩ := id C0
  intro n
  induction n with
  | zero =>
    intro x1 A_count A_low A_high A_homes A_leasts A_states A_lowLeasts A_highLeasts H locs ls hP hD hS hl h
    cases (show none = some _ from h)
  | succ n ih =>
    intro x1 A_count A_low A_high A_homes A_leasts A_states A_lowLeasts A_highLeasts H locs ls hP hD hS hl h
    rw [zf_A_findAttractors_25] at h
    refine lv_iload_n hx hb ze_A_findAttractors_25 rfl (lv_at hl 1 rfl) ?_
    refine lv_aload_n hx hb ze_A_findAttractors_26 rfl (lv_at hl 0 rfl) ?_
    refine va_get (D := (dC, dI)) (ci := 2) (v := .int A_states) (C := "RuleNetwork$Analysis") (T := zT_A) (N := 9) hx hb ht zin_A hown hK hP 0 rfl rfl 6 (by decide) (ht _ zw_161) (fun _ h9 => h9) rfl ze_A_findAttractors_27 ?_
    refine lv_icmp_ge (tgt := 62) hx hb ze_A_findAttractors_30 (by decide) (fun c1 => ?_) (fun c1 => ?_)
    · replace h := z_it_t c1 h
      cases h
      exact W.vret hx hb hr (fun t ht9 hW => ⟨⟨(), rfl, trivial, by rw [ht9]; exact hP, hD⟩, hS.F ht9⟩) hS.2.2 ze_A_findAttractors_62
    · replace h := z_it_f c1 h
      refine lv_aload_n hx hb ze_A_findAttractors_33 rfl (lv_at hl 0 rfl) ?_
      refine va_get (D := (dC, dI)) (ci := 2) (v := .ref h_A_homes) (C := "RuleNetwork$Analysis") (T := zT_A) (N := 9) hx hb ht zin_A hown hK hP 0 rfl rfl 4 (by decide) (ht _ zw_157) (fun _ h9 => h9) rfl ze_A_findAttractors_34 ?_
      refine lv_iload_n hx hb ze_A_findAttractors_37 rfl (lv_at hl 1 rfl) ?_
      obtain ⟨g2, h⟩ := z_gd_some h
      refine va_iald hx hb hK hP 3 1 rfl rfl g2 ze_A_findAttractors_38 ?_
      refine lv_iconst (v := (-1 : Int32)) hx hb ze_A_findAttractors_39 (by decide) ?_
      refine lv_icmp_ne (tgt := 56) hx hb ze_A_findAttractors_40 (by decide) (fun c3 => ?_) (fun c3 => ?_)
      · replace h := z_it_f c3 h
        refine lv_iinc (v := (x1 + (1 : Int32))) (lv' := [(1, .int (x1 + (1 : Int32))), (0, .ref h_A)]) hx hb ze_A_findAttractors_56 hl (k := 1) rfl rfl (by decide) rfl (fun ls hl => ?_)
        refine lv_goto (tgt := 25) hx hb ze_A_findAttractors_59 (by decide) ?_
        exact ih (x1 + (1 : Int32)) A_count A_low A_high A_homes A_leasts A_states A_lowLeasts A_highLeasts _ _ _ hP hD hS (lv_sub hl [1, 0] rfl) h
      · replace h := z_it_t c3 h
        refine lv_aload_n hx hb ze_A_findAttractors_43 rfl (lv_at hl 0 rfl) ?_
        refine lv_iload_n hx hb ze_A_findAttractors_44 rfl (lv_at hl 1 rfl) ?_
        obtain ⟨r4, q4, h⟩ := z_b1_some h
        have hPc := hP.sub (ws' := (zd_A cC cI cJ h_A h_A_low h_A_high h_A_homes h_A_leasts A_genes A_count A_low A_high A_homes A_leasts A_states A_lowLeasts A_highLeasts)) [0, 1, 2, 3, 4] rfl
        have hDc := hD.sub (ws' := (zd_A cC cI cJ h_A h_A_low h_A_high h_A_homes h_A_leasts A_genes A_count A_low A_high A_homes A_leasts A_states A_lowLeasts A_highLeasts)) [0, 1, 2, 3, 4] (by decide) rfl
        have hFc := va_free (wc := (zd_A cC cI cJ h_A h_A_low h_A_high h_A_homes h_A_leasts A_genes A_count A_low A_high A_homes A_leasts A_states A_lowLeasts A_highLeasts)) hD hS hA [0, 1, 2, 3, 4] rfl
        -- CALL A_isLedBackTo
        refine va_calli (va_runV (As := [.int x1]) (rest := []) ⟨hx, hb, hml, hown, ht⟩ (zc_A_isLedBackTo l dC dI cC cI cJ tp h_A h_A_low h_A_high h_A_homes h_A_leasts H.size A_genes A_count A_low A_high A_homes A_leasts A_states A_lowLeasts A_highLeasts x1 r4 q4) (cwV 1 ht (z_gV zw_430 zw_432 zw_18 zw_58 zw_433) rfl rfl rfl ⟨rfl, zh_A_isLedBackTo⟩ ⟨Nat.le_of_ble_eq_true rfl, Nat.le_of_ble_eq_true rfl⟩) ⟨fun a U g mk q => by obtain ⟨z0, z1, zP, zK, zD, zX⟩ := q; exact ⟨z0, z1, zP, va_K.moved (u := U) (U := U.calling g mk a) (Vm.Alike.refl U.vm) zK, zD, z_X.same rfl rfl zX⟩, va_recv hK hP (ci := 2) (q0 := 0) rfl rfl, fun U hU hW => ⟨rfl, by rw [hU], by rw [hU]; exact hPc, va_K.moved hW.alike hK, hDc.weaken (fun _ _ _ _ => trivial), hX.warm hS hFc hU hW⟩⟩ rfl rfl hl.1 rfl (lv_room (Nat.le_of_ble_eq_true rfl)) ze_A_findAttractors_45 ⟨Nat.zero_le _, Nat.zero_le _⟩) hS (fun q _ h => hFc q h) hFc (fun rv u t H1 locs ht9 hvm hw hB hz1 hk1 hS => ?_)
        obtain ⟨hP1, hD1⟩ := hB
        rw [ht9] at hP1
        have hw' : r4 = rv := Eq.symm hw
        subst hw'
        obtain ⟨hP, hD⟩ := va_join (wr := []) (w1 := (zd_A cC cI cJ h_A h_A_low h_A_high h_A_homes h_A_leasts A_genes A_count A_low A_high A_homes A_leasts A_states A_lowLeasts A_highLeasts)) hP hD [0, 1, 2, 3, 4] [] rfl rfl (by decide) (by decide) hk1 hFc hP1 hD1
        generalize H1 = H at hP hS ⊢
        replace hP := hP.sub (ws' := (zd_A cC cI cJ h_A h_A_low h_A_high h_A_homes h_A_leasts A_genes A_count A_low A_high A_homes A_leasts A_states A_lowLeasts A_highLeasts)) [0, 1, 2, 3, 4] rfl
        replace hD := hD.sub (ws' := (zd_A cC cI cJ h_A h_A_low h_A_high h_A_homes h_A_leasts A_genes A_count A_low A_high A_homes A_leasts A_states A_lowLeasts A_highLeasts)) [0, 1, 2, 3, 4] (by decide) rfl
        refine lv_if_eq (tgt := 56) hx hb ze_A_findAttractors_48 (by decide) (fun c5 => ?_) (fun c5 => ?_)
        · replace h := z_it_t c5 h
          refine lv_iinc (v := (x1 + (1 : Int32))) (lv' := [(1, .int (x1 + (1 : Int32))), (0, .ref h_A)]) hx hb ze_A_findAttractors_56 hl (k := 1) rfl rfl (by decide) rfl (fun ls hl => ?_)
          refine lv_goto (tgt := 25) hx hb ze_A_findAttractors_59 (by decide) ?_
          exact ih (x1 + (1 : Int32)) A_count A_low A_high A_homes A_leasts A_states A_lowLeasts A_highLeasts _ _ _ hP hD hS (lv_sub hl [1, 0] rfl) h
        · replace h := z_it_f c5 h
          refine lv_aload_n hx hb ze_A_findAttractors_51 rfl (lv_at hl 0 rfl) ?_
          refine lv_iload_n hx hb ze_A_findAttractors_52 rfl (lv_at hl 1 rfl) ?_
          obtain ⟨A_count_6, A_homes_6, A_leasts_6, A_lowLeasts_6, A_highLeasts_6, q6, h⟩ := z_b5_some h
          have hPc := hP.sub (ws' := (zd_A cC cI cJ h_A h_A_low h_A_high h_A_homes h_A_leasts A_genes A_count A_low A_high A_homes A_leasts A_states A_lowLeasts A_highLeasts)) [0, 1, 2, 3, 4] rfl
          have hDc := hD.sub (ws' := (zd_A cC cI cJ h_A h_A_low h_A_high h_A_homes h_A_leasts A_genes A_count A_low A_high A_homes A_leasts A_states A_lowLeasts A_highLeasts)) [0, 1, 2, 3, 4] (by decide) rfl
          have hFc := va_free (wc := (zd_A cC cI cJ h_A h_A_low h_A_high h_A_homes h_A_leasts A_genes A_count A_low A_high A_homes A_leasts A_states A_lowLeasts A_highLeasts)) hD hS hA [0, 1, 2, 3, 4] rfl
          -- CALL A_addAttractor
          refine va_callv (va_runV (As := [.int x1]) (rest := []) ⟨hx, hb, hml, hown, ht⟩ (zc_A_addAttractor l dC dI cC cI cJ tp h_A h_A_low h_A_high h_A_homes h_A_leasts H.size A_genes A_count A_low A_high A_homes A_leasts A_states A_lowLeasts A_highLeasts x1 A_count_6 A_homes_6 A_leasts_6 A_lowLeasts_6 A_highLeasts_6 q6) (cwV 1 ht (z_gV zw_434 zw_436 zw_19 zw_58 zw_437) rfl rfl rfl ⟨rfl, zh_A_addAttractor⟩ ⟨Nat.le_of_ble_eq_true rfl, Nat.le_of_ble_eq_true rfl⟩) ⟨fun a U g mk q => by obtain ⟨z0, z1, zP, zK, zD, zX⟩ := q; exact ⟨z0, z1, zP, va_K.moved (u := U) (U := U.calling g mk a) (Vm.Alike.refl U.vm) zK, zD, z_X.same rfl rfl zX⟩, va_recv hK hP (ci := 2) (q0 := 0) rfl rfl, fun U hU hW => ⟨rfl, by rw [hU], by rw [hU]; exact hPc, va_K.moved hW.alike hK, hDc.weaken (fun _ _ _ _ => trivial), hX.warm hS hFc hU hW⟩⟩ rfl rfl hl.1 rfl (lv_room (Nat.le_of_ble_eq_true rfl)) ze_A_findAttractors_53 ⟨Nat.zero_le _, Nat.zero_le _⟩) hS (fun q _ h => hFc q h) hFc (fun u t H1 locs ht9 hvm hw hB hz1 hk1 hS => ?_)
          obtain ⟨hP1, hD1⟩ := hB
          rw [ht9] at hP1
          obtain ⟨hP, hD⟩ := va_join (wr := []) (w1 := (zd_A cC cI cJ h_A h_A_low h_A_high h_A_homes h_A_leasts A_genes A_count_6 A_low A_high A_homes_6 A_leasts_6 A_states A_lowLeasts_6 A_highLeasts_6)) hP hD [0, 1, 2, 3, 4] [] rfl rfl (by decide) (by decide) hk1 hFc hP1 hD1
          generalize H1 = H at hP hS ⊢
          replace hP := hP.sub (ws' := (zd_A cC cI cJ h_A h_A_low h_A_high h_A_homes h_A_leasts A_genes A_count_6 A_low A_high A_homes_6 A_leasts_6 A_states A_lowLeasts_6 A_highLeasts_6)) [0, 1, 2, 3, 4] rfl
          replace hD := hD.sub (ws' := (zd_A cC cI cJ h_A h_A_low h_A_high h_A_homes h_A_leasts A_genes A_count_6 A_low A_high A_homes_6 A_leasts_6 A_states A_lowLeasts_6 A_highLeasts_6)) [0, 1, 2, 3, 4] (by decide) rfl
          refine lv_iinc (v := (x1 + (1 : Int32))) (lv' := [(1, .int (x1 + (1 : Int32))), (0, .ref h_A)]) hx hb ze_A_findAttractors_56 hl (k := 1) rfl rfl (by decide) rfl (fun ls hl => ?_)
          refine lv_goto (tgt := 25) hx hb ze_A_findAttractors_59 (by decide) ?_
          exact ih (x1 + (1 : Int32)) A_count_6 A_low A_high A_homes_6 A_leasts_6 A_states A_lowLeasts_6 A_highLeasts_6 _ _ _ hP hD hS (lv_sub hl [1, 0] rfl) h
set_option maxHeartbeats 4000000 in
set_option maxRecDepth 100000 in
theorem zc_A_findAttractors (l : Launch) (dC : Nat → ClassId) (dI : Nat → Nat → Nat) (cC : ClassId) (cI : ClassId) (cJ : ClassId) (tp : Nat) (h_A : Nat) (h_A_low : Nat) (h_A_high : Nat) (h_A_homes : Nat) (h_A_leasts : Nat) (sz : Nat) (A_genes : Int32) (A_count : Int32) (A_low : Nat → Int64) (A_high : Nat → Int64) (A_homes : Nat → Int32) (A_leasts : Nat → Int32) (A_states : Int32) (A_lowLeasts : Int64) (A_highLeasts : Int64) (o_A_count : Int32) (o_A_homes : Nat → Int32) (o_A_leasts : Nat → Int32) (o_A_lowLeasts : Int64) (o_A_highLeasts : Int64) (h : zf_A_findAttractors A_count A_low A_high A_homes A_leasts A_states A_lowLeasts A_highLeasts = some (o_A_count, o_A_homes, o_A_leasts, o_A_lowLeasts, o_A_highLeasts)) : Met l zy_A_findAttractors zs_A_findAttractors (rm_A_findAttractors) (va_Pc [.ref h_A] (fun U => U.heap.size = sz ∧ va_P (dC, dI) vwCl (zd_A cC cI cJ h_A h_A_low h_A_high h_A_homes h_A_leasts A_genes A_count A_low A_high A_homes A_leasts A_states A_lowLeasts A_highLeasts) U.heap ∧ va_K (dC, dI) vwCl (z_tys cC cI cJ) U ∧ va_D (fun _ => True) (zd_A cC cI cJ h_A h_A_low h_A_high h_A_homes h_A_leasts A_genes A_count A_low A_high A_homes A_leasts A_states A_lowLeasts A_highLeasts) ∧ z_X tp (va_A (zd_A cC cI cJ h_A h_A_low h_A_high h_A_homes h_A_leasts A_genes A_count A_low A_high A_homes A_leasts A_states A_lowLeasts A_highLeasts) sz) U)) (zq_A_findAttractors dC dI cC cI cJ h_A h_A_low h_A_high h_A_homes h_A_leasts A_genes A_low A_high A_states o_A_count o_A_homes o_A_leasts o_A_lowLeasts o_A_highLeasts (va_A (zd_A cC cI cJ h_A h_A_low h_A_high h_A_homes h_A_leasts A_genes A_count A_low A_high A_homes A_leasts A_states A_lowLeasts A_highLeasts) sz)) 0 0 (va_A (zd_A cC cI cJ h_A h_A_low h_A_high h_A_homes h_A_leasts A_genes A_count A_low A_high A_homes A_leasts A_states A_lowLeasts A_highLeasts) sz) := by
  refine Met.ofW (cc := zb_A_findAttractors) (maxL := 2) (ret := none) (by decide) rfl ?_
  intro p e s m args below meth c s₁ B hml hv
  obtain ⟨rfl, hsz, hP, hK, hD0, hX⟩ := hv
  have hx := B.exec
  have hb := B.bytes
  have hr := B.returns
  have hts := atoms_spec (ws := zs_A_findAttractors) B.pre
  have ht : ∀ w ∈ z_W, w.before _ s = true := fun w h => hts w (List.mem_cons_of_mem _ h)
  have hown : s.vm.findClass "RuleNetwork$Analysis" = some m.cls := findClass_of_methodNamed B.named
  have hlocks := B.notSynchronized
  have C0 : z_kx p s m _ meth c "RuleNetwork$Analysis" zb_A_findAttractors 2 none := ⟨hx, hb, hr, hml, hown, ht, hlocks⟩
  subst hsz
  have hD := hD0.self (sz := s.heap.size)
  generalize hAe : va_A (zd_A cC cI cJ h_A h_A_low h_A_high h_A_homes h_A_leasts A_genes A_count A_low A_high A_homes A_leasts A_states A_lowLeasts A_highLeasts) s.heap.size = A at hD hX ⊢
  have hA : ∀ q : Nat, s.heap.size ≤ q → A q := fun q h => by rw [← hAe]; exact Or.inr h
  have hS : va_S A s.heap s.heap [] := va_S.rf
  have hl := lv_entry ([.ref h_A]) (n := 2) (Nat.le_of_ble_eq_true rfl)
  rw [lg_entry_eq]
  generalize (lg_sl ([.ref h_A]) ++ List.replicate (2 - (lg_sl ([.ref h_A])).length) Slot.unset).toArray = ls at hl ⊢
  have hl : lv_has ls 2 [(0, .ref h_A)] := hl
  rw [zf_A_findAttractors] at h
  refine lv_aload_n hx hb ze_A_findAttractors_0 rfl (lv_at hl 0 rfl) ?_
  refine lv_iconst (v := (0 : Int32)) hx hb ze_A_findAttractors_1 (by decide) ?_
  refine va_put (D := (dC, dI)) (ci := 2) (v := .int (0 : Int32)) (ty := .int) (C := "RuleNetwork$Analysis") (T := zT_A) (N := 9) hx hb ht zin_A zty_A zty_A_ok znm_A hown hK hP hD hS 0 rfl rfl 1 (by decide) (ht _ zw_151) (fun _ h9 => h9) rfl (zty_A_ok 1 (by decide)) rfl rfl (Nat.le_of_ble_eq_true rfl) ze_A_findAttractors_2 (fun H locs hP hD hS => ?_)
  have hP : va_P (dC, dI) vwCl (zd_A cC cI cJ h_A h_A_low h_A_high h_A_homes h_A_leasts A_genes (0 : Int32) A_low A_high A_homes A_leasts A_states A_lowLeasts A_highLeasts) H := hP
  have hD : va_D A (zd_A cC cI cJ h_A h_A_low h_A_high h_A_homes h_A_leasts A_genes (0 : Int32) A_low A_high A_homes A_leasts A_states A_lowLeasts A_highLeasts) := hD
  refine lv_aload_n hx hb ze_A_findAttractors_5 rfl (lv_at hl 0 rfl) ?_
  refine lv_lconst (v := (0 : Int64)) hx hb ze_A_findAttractors_6 (by decide) ?_
  refine va_put (D := (dC, dI)) (ci := 2) (v := .long (0 : Int64)) (ty := .long) (C := "RuleNetwork$Analysis") (T := zT_A) (N := 9) hx hb ht zin_A zty_A zty_A_ok znm_A hown hK hP hD hS 0 rfl rfl 7 (by decide) (ht _ zw_162) (fun _ h9 => h9) rfl (zty_A_ok 7 (by decide)) rfl rfl (Nat.le_of_ble_eq_true rfl) ze_A_findAttractors_7 (fun H locs hP hD hS => ?_)
  have hP : va_P (dC, dI) vwCl (zd_A cC cI cJ h_A h_A_low h_A_high h_A_homes h_A_leasts A_genes (0 : Int32) A_low A_high A_homes A_leasts A_states (0 : Int64) A_highLeasts) H := hP
  have hD : va_D A (zd_A cC cI cJ h_A h_A_low h_A_high h_A_homes h_A_leasts A_genes (0 : Int32) A_low A_high A_homes A_leasts A_states (0 : Int64) A_highLeasts) := hD
  refine lv_aload_n hx hb ze_A_findAttractors_10 rfl (lv_at hl 0 rfl) ?_
  refine lv_lconst (v := (0 : Int64)) hx hb ze_A_findAttractors_11 (by decide) ?_
  refine va_put (D := (dC, dI)) (ci := 2) (v := .long (0 : Int64)) (ty := .long) (C := "RuleNetwork$Analysis") (T := zT_A) (N := 9) hx hb ht zin_A zty_A zty_A_ok znm_A hown hK hP hD hS 0 rfl rfl 8 (by decide) (ht _ zw_163) (fun _ h9 => h9) rfl (zty_A_ok 8 (by decide)) rfl rfl (Nat.le_of_ble_eq_true rfl) ze_A_findAttractors_12 (fun H locs hP hD hS => ?_)
  have hP : va_P (dC, dI) vwCl (zd_A cC cI cJ h_A h_A_low h_A_high h_A_homes h_A_leasts A_genes (0 : Int32) A_low A_high A_homes A_leasts A_states (0 : Int64) (0 : Int64)) H := hP
  have hD : va_D A (zd_A cC cI cJ h_A h_A_low h_A_high h_A_homes h_A_leasts A_genes (0 : Int32) A_low A_high A_homes A_leasts A_states (0 : Int64) (0 : Int64)) := hD
  refine lv_aload_n hx hb ze_A_findAttractors_15 rfl (lv_at hl 0 rfl) ?_
  refine va_get (D := (dC, dI)) (ci := 2) (v := .ref h_A_homes) (C := "RuleNetwork$Analysis") (T := zT_A) (N := 9) hx hb ht zin_A hown hK hP 0 rfl rfl 4 (by decide) (ht _ zw_157) (fun _ h9 => h9) rfl ze_A_findAttractors_16 ?_
  refine lv_iconst (v := (-1 : Int32)) hx hb ze_A_findAttractors_19 (by decide) ?_
  obtain ⟨A_homes_1, q1, h⟩ := z_b1_some h
  have hPc := hP.sub (ws' := (zd_pI cC cI cJ h_A_homes 128 A_homes)) [3] rfl
  have hDc := hD.sub (ws' := (zd_pI cC cI cJ h_A_homes 128 A_homes)) [3] (by decide) rfl
  have hFc := va_free (wc := (zd_pI cC cI cJ h_A_homes 128 A_homes)) hD hS hA [3] rfl
  -- CALL JA_fill
  refine va_callv (va_runS (As := [.ref h_A_homes, .int (-1 : Int32)]) (rest := []) ⟨hx, hb, hml, hown, ht⟩ (zc_JA_fill l dC dI cC cI cJ tp h_A_homes 128 H.size A_homes (-1 : Int32) A_homes_1 q1) (va_cwS 2 ht (z_gS zw_429 zw_274 zw_62 zw_275) rfl rfl rfl zh_JA_fill ⟨Nat.le_of_ble_eq_true rfl, Nat.le_of_ble_eq_true rfl⟩) ⟨fun a U g mk q => by obtain ⟨z0, z1, zP, zK, zD, zX⟩ := q; exact ⟨z0, z1, zP, va_K.moved (u := U) (U := U.calling g mk a) (Vm.Alike.refl U.vm) zK, zD, z_X.same rfl rfl zX⟩, fun U hU hW => ⟨rfl, by rw [hU], by rw [hU]; exact hPc, va_K.moved hW.alike hK, hDc.weaken (fun _ _ _ _ => trivial), hX.warm hS hFc hU hW⟩⟩ rfl rfl hl.1 rfl (lv_room (Nat.le_of_ble_eq_true rfl)) ze_A_findAttractors_20 ⟨Nat.zero_le _, Nat.zero_le _⟩) hS (fun q _ h => hFc q h) hFc (fun u t H1 locs ht9 hvm hw hB hz1 hk1 hS => ?_)
  obtain ⟨hP1, hD1⟩ := hB
  rw [ht9] at hP1
  obtain ⟨hP, hD⟩ := va_join (wr := [(h_A, .inr (2, [.int A_genes, .int (0 : Int32), .ref h_A_low, .ref h_A_high, .ref h_A_homes, .ref h_A_leasts, .int A_states, .long (0 : Int64), .long (0 : Int64)])), (h_A_low, .inl (cJ, 128, .inr (.inl A_low))), (h_A_high, .inl (cJ, 128, .inr (.inl A_high))), (h_A_leasts, .inl (cI, 128, .inl A_leasts))]) (w1 := (zd_pI cC cI cJ h_A_homes 128 A_homes_1)) hP hD [3] [0, 1, 2, 4] rfl rfl (by decide) (by decide) hk1 hFc hP1 hD1
  generalize H1 = H at hP hS ⊢
  replace hP := hP.sub (ws' := (zd_A cC cI cJ h_A h_A_low h_A_high h_A_homes h_A_leasts A_genes (0 : Int32) A_low A_high A_homes_1 A_leasts A_states (0 : Int64) (0 : Int64))) [0, 1, 2, 4, 3] rfl
  replace hD := hD.sub (ws' := (zd_A cC cI cJ h_A h_A_low h_A_high h_A_homes h_A_leasts A_genes (0 : Int32) A_low A_high A_homes_1 A_leasts A_states (0 : Int64) (0 : Int64))) [0, 1, 2, 4, 3] (by decide) rfl
  refine lv_iconst (v := (0 : Int32)) hx hb ze_A_findAttractors_23 (by decide) ?_
  refine lv_istore_n (lv' := [(1, .int (0 : Int32)), (0, .ref h_A)]) hx hb ze_A_findAttractors_24 rfl hl (by decide) rfl (fun ls hl => ?_)
  exact zk_A_findAttractors_25 C0 hK hA hX z_FU (0 : Int32) (0 : Int32) A_low A_high A_homes_1 A_leasts A_states (0 : Int64) (0 : Int64) _ _ _ hP hD hS (lv_sub hl [1, 0] rfl) h
set_option maxHeartbeats 4000000 in
set_option maxRecDepth 100000 in
theorem zc_A_markLeading (l : Launch) (dC : Nat → ClassId) (dI : Nat → Nat → Nat) (cC : ClassId) (cI : ClassId) (cJ : ClassId) (tp : Nat) (h_A : Nat) (h_A_low : Nat) (h_A_high : Nat) (h_A_homes : Nat) (h_A_leasts : Nat) (sz : Nat) (A_genes : Int32) (A_count : Int32) (A_low : Nat → Int64) (A_high : Nat → Int64) (A_homes : Nat → Int32) (A_leasts : Nat → Int32) (A_states : Int32) (A_lowLeasts : Int64) (A_highLeasts : Int64) (x1 : Int32) (x2 : Int32) (o_A_low : Nat → Int64) (o_A_high : Nat → Int64) (h : zf_A_markLeading x1 x2 A_low A_high = some (o_A_low, o_A_high)) : Met l zy_A_markLeading zs_A_markLeading (rm_A_markLeading) (va_Pc [.ref h_A, .int x1, .int x2] (fun U => U.heap.size = sz ∧ va_P (dC, dI) vwCl (zd_A cC cI cJ h_A h_A_low h_A_high h_A_homes h_A_leasts A_genes A_count A_low A_high A_homes A_leasts A_states A_lowLeasts A_highLeasts) U.heap ∧ va_K (dC, dI) vwCl (z_tys cC cI cJ) U ∧ va_D (fun _ => True) (zd_A cC cI cJ h_A h_A_low h_A_high h_A_homes h_A_leasts A_genes A_count A_low A_high A_homes A_leasts A_states A_lowLeasts A_highLeasts) ∧ z_X tp (va_A (zd_A cC cI cJ h_A h_A_low h_A_high h_A_homes h_A_leasts A_genes A_count A_low A_high A_homes A_leasts A_states A_lowLeasts A_highLeasts) sz) U)) (zq_A_markLeading dC dI cC cI cJ h_A h_A_low h_A_high h_A_homes h_A_leasts A_genes A_count A_homes A_leasts A_states A_lowLeasts A_highLeasts o_A_low o_A_high (va_A (zd_A cC cI cJ h_A h_A_low h_A_high h_A_homes h_A_leasts A_genes A_count A_low A_high A_homes A_leasts A_states A_lowLeasts A_highLeasts) sz)) 0 0 (va_A (zd_A cC cI cJ h_A h_A_low h_A_high h_A_homes h_A_leasts A_genes A_count A_low A_high A_homes A_leasts A_states A_lowLeasts A_highLeasts) sz) := by
  refine Met.ofW (cc := zb_A_markLeading) (maxL := 3) (ret := none) (by decide) rfl ?_
  intro p e s m args below meth c s₁ B hml hv
  obtain ⟨rfl, hsz, hP, hK, hD0, hX⟩ := hv
  have hx := B.exec
  have hb := B.bytes
  have hr := B.returns
  have hts := atoms_spec (ws := zs_A_markLeading) B.pre
  have ht : ∀ w ∈ z_W, w.before _ s = true := fun w h => hts w (List.mem_cons_of_mem _ h)
  have hown : s.vm.findClass "RuleNetwork$Analysis" = some m.cls := findClass_of_methodNamed B.named
  have hlocks := B.notSynchronized
  have C0 : z_kx p s m _ meth c "RuleNetwork$Analysis" zb_A_markLeading 3 none := ⟨hx, hb, hr, hml, hown, ht, hlocks⟩
  subst hsz
  have hD := hD0.self (sz := s.heap.size)
  generalize hAe : va_A (zd_A cC cI cJ h_A h_A_low h_A_high h_A_homes h_A_leasts A_genes A_count A_low A_high A_homes A_leasts A_states A_lowLeasts A_highLeasts) s.heap.size = A at hD hX ⊢
  have hA : ∀ q : Nat, s.heap.size ≤ q → A q := fun q h => by rw [← hAe]; exact Or.inr h
  have hS : va_S A s.heap s.heap [] := va_S.rf
  have hl := lv_entry ([.ref h_A, .int x1, .int x2]) (n := 3) (Nat.le_of_ble_eq_true rfl)
  rw [lg_entry_eq]
  generalize (lg_sl ([.ref h_A, .int x1, .int x2]) ++ List.replicate (3 - (lg_sl ([.ref h_A, .int x1, .int x2])).length) Slot.unset).toArray = ls at hl ⊢
  have hl : lv_has ls 3 [(0, .ref h_A), (1, .int x1), (2, .int x2)] := hl
  rw [zf_A_markLeading] at h
  refine lv_iload_n hx hb ze_A_markLeading_0 rfl (lv_at hl 2 rfl) ?_
  refine lv_bipush (v := (64 : Int32)) hx hb ze_A_markLeading_1 (by decide) ?_
  refine lv_icmp_ge (tgt := 21) hx hb ze_A_markLeading_3 (by decide) (fun c1 => ?_) (fun c1 => ?_)
  · replace h := z_it_t c1 h
    refine lv_aload_n hx hb ze_A_markLeading_21 rfl (lv_at hl 0 rfl) ?_
    refine va_get (D := (dC, dI)) (ci := 2) (v := .ref h_A_high) (C := "RuleNetwork$Analysis") (T := zT_A) (N := 9) hx hb ht zin_A hown hK hP 0 rfl rfl 3 (by decide) (ht _ zw_155) (fun _ h9 => h9) rfl ze_A_markLeading_22 ?_
    refine lv_iload_n hx hb ze_A_markLeading_25 rfl (lv_at hl 1 rfl) ?_
    refine lv_dup2_11 hx hb ze_A_markLeading_26 rfl rfl ?_
    obtain ⟨g2, h⟩ := z_gd_some h
    refine va_lald hx hb hK hP 2 2 rfl rfl g2 ze_A_markLeading_27 ?_
    refine lv_lconst (v := (1 : Int64)) hx hb ze_A_markLeading_28 (by decide) ?_
    refine lv_iload_n hx hb ze_A_markLeading_29 rfl (lv_at hl 2 rfl) ?_
    refine lv_bipush (v := (63 : Int32)) hx hb ze_A_markLeading_30 (by decide) ?_
    refine lv_iand hx hb ze_A_markLeading_32 ?_
    refine lv_lshl hx hb ze_A_markLeading_33 rfl ?_
    refine lv_lor hx hb ze_A_markLeading_34 ?_
    obtain ⟨g3, h⟩ := z_gd_some h
    refine va_last hx hb hK hP hD hS 2 2 rfl rfl g3 ze_A_markLeading_35 (fun H locs hP hD hS => ?_)
    have hP : va_P (dC, dI) vwCl (zd_A cC cI cJ h_A h_A_low h_A_high h_A_homes h_A_leasts A_genes A_count A_low (vp_updL A_high x1.toNatClampNeg ((A_high x1.toNatClampNeg) ||| ((1 : Int64) <<< ((x2 &&& (63 : Int32)).toInt64 &&& 63)))) A_homes A_leasts A_states A_lowLeasts A_highLeasts) H := hP
    have hD : va_D A (zd_A cC cI cJ h_A h_A_low h_A_high h_A_homes h_A_leasts A_genes A_count A_low (vp_updL A_high x1.toNatClampNeg ((A_high x1.toNatClampNeg) ||| ((1 : Int64) <<< ((x2 &&& (63 : Int32)).toInt64 &&& 63)))) A_homes A_leasts A_states A_lowLeasts A_highLeasts) := hD
    cases h
    exact W.vret hx hb hr (fun t ht9 hW => ⟨⟨(), rfl, trivial, by rw [ht9]; exact hP, hD⟩, hS.F ht9⟩) hS.2.2 ze_A_markLeading_36
  · replace h := z_it_f c1 h
    refine lv_aload_n hx hb ze_A_markLeading_6 rfl (lv_at hl 0 rfl) ?_
    refine va_get (D := (dC, dI)) (ci := 2) (v := .ref h_A_low) (C := "RuleNetwork$Analysis") (T := zT_A) (N := 9) hx hb ht zin_A hown hK hP 0 rfl rfl 2 (by decide) (ht _ zw_153) (fun _ h9 => h9) rfl ze_A_markLeading_7 ?_
    refine lv_iload_n hx hb ze_A_markLeading_10 rfl (lv_at hl 1 rfl) ?_
    refine lv_dup2_11 hx hb ze_A_markLeading_11 rfl rfl ?_
    obtain ⟨g4, h⟩ := z_gd_some h
    refine va_lald hx hb hK hP 1 2 rfl rfl g4 ze_A_markLeading_12 ?_
    refine lv_lconst (v := (1 : Int64)) hx hb ze_A_markLeading_13 (by decide) ?_
    refine lv_iload_n hx hb ze_A_markLeading_14 rfl (lv_at hl 2 rfl) ?_
    refine lv_lshl hx hb ze_A_markLeading_15 rfl ?_
    refine lv_lor hx hb ze_A_markLeading_16 ?_
    obtain ⟨g5, h⟩ := z_gd_some h
    refine va_last hx hb hK hP hD hS 1 2 rfl rfl g5 ze_A_markLeading_17 (fun H locs hP hD hS => ?_)
    have hP : va_P (dC, dI) vwCl (zd_A cC cI cJ h_A h_A_low h_A_high h_A_homes h_A_leasts A_genes A_count (vp_updL A_low x1.toNatClampNeg ((A_low x1.toNatClampNeg) ||| ((1 : Int64) <<< (x2.toInt64 &&& 63)))) A_high A_homes A_leasts A_states A_lowLeasts A_highLeasts) H := hP
    have hD : va_D A (zd_A cC cI cJ h_A h_A_low h_A_high h_A_homes h_A_leasts A_genes A_count (vp_updL A_low x1.toNatClampNeg ((A_low x1.toNatClampNeg) ||| ((1 : Int64) <<< (x2.toInt64 &&& 63)))) A_high A_homes A_leasts A_states A_lowLeasts A_highLeasts) := hD
    refine lv_goto (tgt := 36) hx hb ze_A_markLeading_18 (by decide) ?_
    cases h
    exact W.vret hx hb hr (fun t ht9 hW => ⟨⟨(), rfl, trivial, by rw [ht9]; exact hP, hD⟩, hS.F ht9⟩) hS.2.2 ze_A_markLeading_36
set_option maxHeartbeats 4000000 in
set_option maxRecDepth 100000 in
theorem zk_A_markSteps_34 {p : Program} {l : Launch} {e : Env} {s : State} {m : MethodId} {args : Array Value} {below : List Frame} {meth : Method} {c : Code} {dC : Nat → ClassId} {dI : Nat → Nat → Nat} {cC cI cJ : ClassId} {A : Nat → Prop} {tp : Nat} {h_A h_A_low h_A_high h_A_homes h_A_leasts : Nat} {A_count : Int32} {A_homes : Nat → Int32} {A_leasts : Nat → Int32} {A_states : Int32} {A_lowLeasts : Int64} {A_highLeasts : Int64} {o_A_low : Nat → Int64} {o_A_high : Nat → Int64} (C0 : z_kx p s m args meth c "RuleNetwork$Analysis" zb_A_markSteps 6 none) (hK : va_K (dC, dI) vwCl (z_tys cC cI cJ) s) (hA : ∀ q : Nat, s.heap.size ≤ q → A q) (hX : z_X tp A s) :
    ∀ n : Nat, ∀ (x1 : Int32) (x2 : Int32) (x4 : Int32) (A_genes : Int32) (A_low : Nat → Int64) (A_high : Nat → Int64) (H : Heap) (locs : List Loc) (ls : Array Slot), va_P (dC, dI) vwCl (zd_A cC cI cJ h_A h_A_low h_A_high h_A_homes h_A_leasts A_genes A_count A_low A_high A_homes A_leasts A_states A_lowLeasts A_highLeasts) H → va_D A (zd_A cC cI cJ h_A h_A_low h_A_high h_A_homes h_A_leasts A_genes A_count A_low A_high A_homes A_leasts A_states A_lowLeasts A_highLeasts) → va_S A s.heap H locs → lv_has ls 6 [(0, .ref h_A), (1, .int x1), (2, .int x2), (4, .int x4)] → zf_A_markSteps_34 n x1 x2 x4 A_genes A_low A_high = some (o_A_low, o_A_high) → W p l e (headSpec zs_A_markSteps rm_A_markSteps).room s m args below meth c H locs 0 0 (MQ below (zq_A_markSteps dC dI cC cI cJ h_A h_A_low h_A_high h_A_homes h_A_leasts A_genes A_count A_homes A_leasts A_states A_lowLeasts A_highLeasts o_A_low o_A_high A) args s 0 0 A) (F0 m 34 ls []) := by
  obtain ⟨hx, hb, hr, hml, hown, ht, hlocks⟩ := id C0
  intro n
  induction n with
  | zero =>
    intro x1 x2 x4 A_genes A_low A_high H locs ls hP hD hS hl h
    cases (show none = some _ from h)
  | succ n ih =>
    intro x1 x2 x4 A_genes A_low A_high H locs ls hP hD hS hl h
    rw [zf_A_markSteps_34] at h
    refine lv_iload hx hb ze_A_markSteps_34 (lv_at hl 3 rfl) ?_
    refine lv_aload_n hx hb ze_A_markSteps_36 rfl (lv_at hl 0 rfl) ?_
    refine va_get (D := (dC, dI)) (ci := 2) (v := .int A_genes) (C := "RuleNetwork$Analysis") (T := zT_A) (N := 9) hx hb ht zin_A hown hK hP 0 rfl rfl 0 (by decide) (ht _ zw_149) (fun _ h9 => h9) rfl ze_A_markSteps_37 ?_
    refine lv_icmp_ge (tgt := 71) hx hb ze_A_markSteps_40 (by decide) (fun c1 => ?_) (fun c1 => ?_)
    · replace h := z_it_t c1 h
      cases h
      exact W.vret hx hb hr (fun t ht9 hW => ⟨⟨(), rfl, trivial, by rw [ht9]; exact hP, hD⟩, hS.F ht9⟩) hS.2.2 ze_A_markSteps_71
    · replace h := z_it_f c1 h
      refine lv_iconst (v := (1 : Int32)) hx hb ze_A_markSteps_43 (by decide) ?_
      refine lv_iload hx hb ze_A_markSteps_44 (lv_at hl 3 rfl) ?_
      refine lv_ishl hx hb ze_A_markSteps_46 ?_
      refine lv_istore (lv' := [(5, .int ((1 : Int32) <<< (x4 &&& 31))), (0, .ref h_A), (1, .int x1), (2, .int x2), (4, .int x4)]) hx hb ze_A_markSteps_47 hl (by decide) rfl (fun ls hl => ?_)
      refine lv_aload_n hx hb ze_A_markSteps_49 rfl (lv_at hl 1 rfl) ?_
      refine lv_iload_n hx hb ze_A_markSteps_50 rfl (lv_at hl 2 rfl) ?_
      refine lv_iload_n hx hb ze_A_markSteps_51 rfl (lv_at hl 2 rfl) ?_
      refine lv_iload hx hb ze_A_markSteps_52 (lv_at hl 0 rfl) ?_
      refine lv_iconst (v := (-1 : Int32)) hx hb ze_A_markSteps_54 (by decide) ?_
      refine lv_ixor hx hb ze_A_markSteps_55 ?_
      refine lv_iand hx hb ze_A_markSteps_56 ?_
      refine lv_iload_n hx hb ze_A_markSteps_57 rfl (lv_at hl 3 rfl) ?_
      refine lv_iload hx hb ze_A_markSteps_58 (lv_at hl 0 rfl) ?_
      refine lv_iand hx hb ze_A_markSteps_60 ?_
      refine lv_ior hx hb ze_A_markSteps_61 ?_
      obtain ⟨A_low_2, A_high_2, q2, h⟩ := z_b2_some h
      have hPc := hP.sub (ws' := (zd_A cC cI cJ h_A h_A_low h_A_high h_A_homes h_A_leasts A_genes A_count A_low A_high A_homes A_leasts A_states A_lowLeasts A_highLeasts)) [0, 1, 2, 3, 4] rfl
      have hDc := hD.sub (ws' := (zd_A cC cI cJ h_A h_A_low h_A_high h_A_homes h_A_leasts A_genes A_count A_low A_high A_homes A_leasts A_states A_lowLeasts A_highLeasts)) [0, 1, 2, 3, 4] (by decide) rfl
      have hFc := va_free (wc := (zd_A cC cI cJ h_A h_A_low h_A_high h_A_homes h_A_leasts A_genes A_count A_low A_high A_homes A_leasts A_states A_lowLeasts A_highLeasts)) hD hS hA [0, 1, 2, 3, 4] rfl
      -- CALL A_markLeading
      refine va_callv (va_runV (As := [.int x1, .int ((x1 &&& (((1 : Int32) <<< (x4 &&& 31)) ^^^ (-1 : Int32))) ||| (x2 &&& ((1 : Int32) <<< (x4 &&& 31))))]) (rest := []) ⟨hx, hb, hml, hown, ht⟩ (zc_A_markLeading l dC dI cC cI cJ tp h_A h_A_low h_A_high h_A_homes h_A_leasts H.size A_genes A_count A_low A_high A_homes A_leasts A_states A_lowLeasts A_highLeasts x1 ((x1 &&& (((1 : Int32) <<< (x4 &&& 31)) ^^^ (-1 : Int32))) ||| (x2 &&& ((1 : Int32) <<< (x4 &&& 31)))) A_low_2 A_high_2 q2) (cwV 2 ht (z_gV zw_412 zw_414 zw_14 zw_58 zw_415) rfl rfl rfl ⟨rfl, zh_A_markLeading⟩ ⟨Nat.le_of_ble_eq_true rfl, Nat.le_of_ble_eq_true rfl⟩) ⟨fun a U g mk q => by obtain ⟨z0, z1, zP, zK, zD, zX⟩ := q; exact ⟨z0, z1, zP, va_K.moved (u := U) (U := U.calling g mk a) (Vm.Alike.refl U.vm) zK, zD, z_X.same rfl rfl zX⟩, va_recv hK hP (ci := 2) (q0 := 0) rfl rfl, fun U hU hW => ⟨rfl, by rw [hU], by rw [hU]; exact hPc, va_K.moved hW.alike hK, hDc.weaken (fun _ _ _ _ => trivial), hX.warm hS hFc hU hW⟩⟩ rfl rfl hl.1 rfl (lv_room (Nat.le_of_ble_eq_true rfl)) ze_A_markSteps_62 ⟨Nat.zero_le _, Nat.zero_le _⟩) hS (fun q _ h => hFc q h) hFc (fun u t H1 locs ht9 hvm hw hB hz1 hk1 hS => ?_)
      obtain ⟨hP1, hD1⟩ := hB
      rw [ht9] at hP1
      obtain ⟨hP, hD⟩ := va_join (wr := []) (w1 := (zd_A cC cI cJ h_A h_A_low h_A_high h_A_homes h_A_leasts A_genes A_count A_low_2 A_high_2 A_homes A_leasts A_states A_lowLeasts A_highLeasts)) hP hD [0, 1, 2, 3, 4] [] rfl rfl (by decide) (by decide) hk1 hFc hP1 hD1
      generalize H1 = H at hP hS ⊢
      replace hP := hP.sub (ws' := (zd_A cC cI cJ h_A h_A_low h_A_high h_A_homes h_A_leasts A_genes A_count A_low_2 A_high_2 A_homes A_leasts A_states A_lowLeasts A_highLeasts)) [0, 1, 2, 3, 4] rfl
      replace hD := hD.sub (ws' := (zd_A cC cI cJ h_A h_A_low h_A_high h_A_homes h_A_leasts A_genes A_count A_low_2 A_high_2 A_homes A_leasts A_states A_lowLeasts A_highLeasts)) [0, 1, 2, 3, 4] (by decide) rfl
      refine lv_iinc (v := (x4 + (1 : Int32))) (lv' := [(4, .int (x4 + (1 : Int32))), (5, .int ((1 : Int32) <<< (x4 &&& 31))), (0, .ref h_A), (1, .int x1), (2, .int x2)]) hx hb ze_A_markSteps_65 hl (k := 4) rfl rfl (by decide) rfl (fun ls hl => ?_)
      refine lv_goto (tgt := 34) hx hb ze_A_markSteps_68 (by decide) ?_
      exact ih x1 x2 (x4 + (1 : Int32)) A_genes A_low_2 A_high_2 _ _ _ hP hD hS (lv_sub hl [2, 3, 4, 0] rfl) h
set_option maxHeartbeats 4000000 in
set_option maxRecDepth 100000 in
theorem zc_A_markSteps (l : Launch) (dC : Nat → ClassId) (dI : Nat → Nat → Nat) (cC : ClassId) (cI : ClassId) (cJ : ClassId) (tp : Nat) (h_A : Nat) (h_A_low : Nat) (h_A_high : Nat) (h_A_homes : Nat) (h_A_leasts : Nat) (sz : Nat) (A_genes : Int32) (A_count : Int32) (A_low : Nat → Int64) (A_high : Nat → Int64) (A_homes : Nat → Int32) (A_leasts : Nat → Int32) (A_states : Int32) (A_lowLeasts : Int64) (A_highLeasts : Int64) (x1 : Int32) (x2 : Int32) (x3 : Int32) (o_A_low : Nat → Int64) (o_A_high : Nat → Int64) (h : zf_A_markSteps x1 x2 x3 A_genes A_low A_high = some (o_A_low, o_A_high)) : Met l zy_A_markSteps zs_A_markSteps (rm_A_markSteps) (va_Pc [.ref h_A, .int x1, .int x2, .int x3] (fun U => U.heap.size = sz ∧ va_P (dC, dI) vwCl (zd_A cC cI cJ h_A h_A_low h_A_high h_A_homes h_A_leasts A_genes A_count A_low A_high A_homes A_leasts A_states A_lowLeasts A_highLeasts) U.heap ∧ va_K (dC, dI) vwCl (z_tys cC cI cJ) U ∧ va_D (fun _ => True) (zd_A cC cI cJ h_A h_A_low h_A_high h_A_homes h_A_leasts A_genes A_count A_low A_high A_homes A_leasts A_states A_lowLeasts A_highLeasts) ∧ z_X tp (va_A (zd_A cC cI cJ h_A h_A_low h_A_high h_A_homes h_A_leasts A_genes A_count A_low A_high A_homes A_leasts A_states A_lowLeasts A_highLeasts) sz) U)) (zq_A_markSteps dC dI cC cI cJ h_A h_A_low h_A_high h_A_homes h_A_leasts A_genes A_count A_homes A_leasts A_states A_lowLeasts A_highLeasts o_A_low o_A_high (va_A (zd_A cC cI cJ h_A h_A_low h_A_high h_A_homes h_A_leasts A_genes A_count A_low A_high A_homes A_leasts A_states A_lowLeasts A_highLeasts) sz)) 0 0 (va_A (zd_A cC cI cJ h_A h_A_low h_A_high h_A_homes h_A_leasts A_genes A_count A_low A_high A_homes A_leasts A_states A_lowLeasts A_highLeasts) sz) := by
  refine Met.ofW (cc := zb_A_markSteps) (maxL := 6) (ret := none) (by decide) rfl ?_
  intro p e s m args below meth c s₁ B hml hv
  obtain ⟨rfl, hsz, hP, hK, hD0, hX⟩ := hv
  have hx := B.exec
  have hb := B.bytes
  have hr := B.returns
  have hts := atoms_spec (ws := zs_A_markSteps) B.pre
  have ht : ∀ w ∈ z_W, w.before _ s = true := fun w h => hts w (List.mem_cons_of_mem _ h)
  have hown : s.vm.findClass "RuleNetwork$Analysis" = some m.cls := findClass_of_methodNamed B.named
  have hlocks := B.notSynchronized
  have C0 : z_kx p s m _ meth c "RuleNetwork$Analysis" zb_A_markSteps 6 none := ⟨hx, hb, hr, hml, hown, ht, hlocks⟩
  subst hsz
  have hD := hD0.self (sz := s.heap.size)
  generalize hAe : va_A (zd_A cC cI cJ h_A h_A_low h_A_high h_A_homes h_A_leasts A_genes A_count A_low A_high A_homes A_leasts A_states A_lowLeasts A_highLeasts) s.heap.size = A at hD hX ⊢
  have hA : ∀ q : Nat, s.heap.size ≤ q → A q := fun q h => by rw [← hAe]; exact Or.inr h
  have hS : va_S A s.heap s.heap [] := va_S.rf
  have hl := lv_entry ([.ref h_A, .int x1, .int x2, .int x3]) (n := 6) (Nat.le_of_ble_eq_true rfl)
  rw [lg_entry_eq]
  generalize (lg_sl ([.ref h_A, .int x1, .int x2, .int x3]) ++ List.replicate (6 - (lg_sl ([.ref h_A, .int x1, .int x2, .int x3])).length) Slot.unset).toArray = ls at hl ⊢
  have hl : lv_has ls 6 [(0, .ref h_A), (1, .int x1), (2, .int x2), (3, .int x3)] := hl
  rw [zf_A_markSteps] at h
  refine lv_aload_n hx hb ze_A_markSteps_0 rfl (lv_at hl 0 rfl) ?_
  refine va_get (D := (dC, dI)) (ci := 2) (v := .ref h_A_low) (C := "RuleNetwork$Analysis") (T := zT_A) (N := 9) hx hb ht zin_A hown hK hP 0 rfl rfl 2 (by decide) (ht _ zw_153) (fun _ h9 => h9) rfl ze_A_markSteps_1 ?_
  refine lv_iload_n hx hb ze_A_markSteps_4 rfl (lv_at hl 1 rfl) ?_
  refine lv_lconst (v := (0 : Int64)) hx hb ze_A_markSteps_5 (by decide) ?_
  obtain ⟨g1, h⟩ := z_gd_some h
  refine va_last hx hb hK hP hD hS 1 2 rfl rfl g1 ze_A_markSteps_6 (fun H locs hP hD hS => ?_)
  have hP : va_P (dC, dI) vwCl (zd_A cC cI cJ h_A h_A_low h_A_high h_A_homes h_A_leasts A_genes A_count (vp_updL A_low x1.toNatClampNeg (0 : Int64)) A_high A_homes A_leasts A_states A_lowLeasts A_highLeasts) H := hP
  have hD : va_D A (zd_A cC cI cJ h_A h_A_low h_A_high h_A_homes h_A_leasts A_genes A_count (vp_updL A_low x1.toNatClampNeg (0 : Int64)) A_high A_homes A_leasts A_states A_lowLeasts A_highLeasts) := hD
  refine lv_aload_n hx hb ze_A_markSteps_7 rfl (lv_at hl 0 rfl) ?_
  refine va_get (D := (dC, dI)) (ci := 2) (v := .ref h_A_high) (C := "RuleNetwork$Analysis") (T := zT_A) (N := 9) hx hb ht zin_A hown hK hP 0 rfl rfl 3 (by decide) (ht _ zw_155) (fun _ h9 => h9) rfl ze_A_markSteps_8 ?_
  refine lv_iload_n hx hb ze_A_markSteps_11 rfl (lv_at hl 1 rfl) ?_
  refine lv_lconst (v := (0 : Int64)) hx hb ze_A_markSteps_12 (by decide) ?_
  obtain ⟨g2, h⟩ := z_gd_some h
  refine va_last hx hb hK hP hD hS 2 2 rfl rfl g2 ze_A_markSteps_13 (fun H locs hP hD hS => ?_)
  have hP : va_P (dC, dI) vwCl (zd_A cC cI cJ h_A h_A_low h_A_high h_A_homes h_A_leasts A_genes A_count (vp_updL A_low x1.toNatClampNeg (0 : Int64)) (vp_updL A_high x1.toNatClampNeg (0 : Int64)) A_homes A_leasts A_states A_lowLeasts A_highLeasts) H := hP
  have hD : va_D A (zd_A cC cI cJ h_A h_A_low h_A_high h_A_homes h_A_leasts A_genes A_count (vp_updL A_low x1.toNatClampNeg (0 : Int64)) (vp_updL A_high x1.toNatClampNeg (0 : Int64)) A_homes A_leasts A_states A_lowLeasts A_highLeasts) := hD
  refine lv_aload_n hx hb ze_A_markSteps_14 rfl (lv_at hl 0 rfl) ?_
  refine lv_iload_n hx hb ze_A_markSteps_15 rfl (lv_at hl 1 rfl) ?_
  refine lv_iload_n hx hb ze_A_markSteps_16 rfl (lv_at hl 1 rfl) ?_
  obtain ⟨A_low_3, A_high_3, q3, h⟩ := z_b2_some h
  have hPc := hP.sub (ws' := (zd_A cC cI cJ h_A h_A_low h_A_high h_A_homes h_A_leasts A_genes A_count (vp_updL A_low x1.toNatClampNeg (0 : Int64)) (vp_updL A_high x1.toNatClampNeg (0 : Int64)) A_homes A_leasts A_states A_lowLeasts A_highLeasts)) [0, 1, 2, 3, 4] rfl
  have hDc := hD.sub (ws' := (zd_A cC cI cJ h_A h_A_low h_A_high h_A_homes h_A_leasts A_genes A_count (vp_updL A_low x1.toNatClampNeg (0 : Int64)) (vp_updL A_high x1.toNatClampNeg (0 : Int64)) A_homes A_leasts A_states A_lowLeasts A_highLeasts)) [0, 1, 2, 3, 4] (by decide) rfl
  have hFc := va_free (wc := (zd_A cC cI cJ h_A h_A_low h_A_high h_A_homes h_A_leasts A_genes A_count (vp_updL A_low x1.toNatClampNeg (0 : Int64)) (vp_updL A_high x1.toNatClampNeg (0 : Int64)) A_homes A_leasts A_states A_lowLeasts A_highLeasts)) hD hS hA [0, 1, 2, 3, 4] rfl
  -- CALL A_markLeading
  refine va_callv (va_runV (As := [.int x1, .int x1]) (rest := []) ⟨hx, hb, hml, hown, ht⟩ (zc_A_markLeading l dC dI cC cI cJ tp h_A h_A_low h_A_high h_A_homes h_A_leasts H.size A_genes A_count (vp_updL A_low x1.toNatClampNeg (0 : Int64)) (vp_updL A_high x1.toNatClampNeg (0 : Int64)) A_homes A_leasts A_states A_lowLeasts A_highLeasts x1 x1 A_low_3 A_high_3 q3) (cwV 2 ht (z_gV zw_412 zw_414 zw_14 zw_58 zw_415) rfl rfl rfl ⟨rfl, zh_A_markLeading⟩ ⟨Nat.le_of_ble_eq_true rfl, Nat.le_of_ble_eq_true rfl⟩) ⟨fun a U g mk q => by obtain ⟨z0, z1, zP, zK, zD, zX⟩ := q; exact ⟨z0, z1, zP, va_K.moved (u := U) (U := U.calling g mk a) (Vm.Alike.refl U.vm) zK, zD, z_X.same rfl rfl zX⟩, va_recv hK hP (ci := 2) (q0 := 0) rfl rfl, fun U hU hW => ⟨rfl, by rw [hU], by rw [hU]; exact hPc, va_K.moved hW.alike hK, hDc.weaken (fun _ _ _ _ => trivial), hX.warm hS hFc hU hW⟩⟩ rfl rfl hl.1 rfl (lv_room (Nat.le_of_ble_eq_true rfl)) ze_A_markSteps_17 ⟨Nat.zero_le _, Nat.zero_le _⟩) hS (fun q _ h => hFc q h) hFc (fun u t H1 locs ht9 hvm hw hB hz1 hk1 hS => ?_)
  obtain ⟨hP1, hD1⟩ := hB
  rw [ht9] at hP1
  obtain ⟨hP, hD⟩ := va_join (wr := []) (w1 := (zd_A cC cI cJ h_A h_A_low h_A_high h_A_homes h_A_leasts A_genes A_count A_low_3 A_high_3 A_homes A_leasts A_states A_lowLeasts A_highLeasts)) hP hD [0, 1, 2, 3, 4] [] rfl rfl (by decide) (by decide) hk1 hFc hP1 hD1
  generalize H1 = H at hP hS ⊢
  replace hP := hP.sub (ws' := (zd_A cC cI cJ h_A h_A_low h_A_high h_A_homes h_A_leasts A_genes A_count A_low_3 A_high_3 A_homes A_leasts A_states A_lowLeasts A_highLeasts)) [0, 1, 2, 3, 4] rfl
  replace hD := hD.sub (ws' := (zd_A cC cI cJ h_A h_A_low h_A_high h_A_homes h_A_leasts A_genes A_count A_low_3 A_high_3 A_homes A_leasts A_states A_lowLeasts A_highLeasts)) [0, 1, 2, 3, 4] (by decide) rfl
  refine lv_iload_n hx hb ze_A_markSteps_20 rfl (lv_at hl 3 rfl) ?_
  refine lv_if_ne (tgt := 31) hx hb ze_A_markSteps_21 (by decide) (fun c4 => ?_) (fun c4 => ?_)
  · replace h := z_it_f c4 h
    refine lv_iconst (v := (0 : Int32)) hx hb ze_A_markSteps_31 (by decide) ?_
    refine lv_istore (lv' := [(4, .int (0 : Int32)), (0, .ref h_A), (1, .int x1), (2, .int x2), (3, .int x3)]) hx hb ze_A_markSteps_32 hl (by decide) rfl (fun ls hl => ?_)
    exact zk_A_markSteps_34 C0 hK hA hX z_FU x1 x2 (0 : Int32) A_genes A_low_3 A_high_3 _ _ _ hP hD hS (lv_sub hl [1, 2, 3, 0] rfl) h
  · replace h := z_it_t c4 h
    refine lv_aload_n hx hb ze_A_markSteps_24 rfl (lv_at hl 0 rfl) ?_
    refine lv_iload_n hx hb ze_A_markSteps_25 rfl (lv_at hl 1 rfl) ?_
    refine lv_iload_n hx hb ze_A_markSteps_26 rfl (lv_at hl 2 rfl) ?_
    obtain ⟨A_low_5, A_high_5, q5, h⟩ := z_b2_some h
    have hPc := hP.sub (ws' := (zd_A cC cI cJ h_A h_A_low h_A_high h_A_homes h_A_leasts A_genes A_count A_low_3 A_high_3 A_homes A_leasts A_states A_lowLeasts A_highLeasts)) [0, 1, 2, 3, 4] rfl
    have hDc := hD.sub (ws' := (zd_A cC cI cJ h_A h_A_low h_A_high h_A_homes h_A_leasts A_genes A_count A_low_3 A_high_3 A_homes A_leasts A_states A_lowLeasts A_highLeasts)) [0, 1, 2, 3, 4] (by decide) rfl
    have hFc := va_free (wc := (zd_A cC cI cJ h_A h_A_low h_A_high h_A_homes h_A_leasts A_genes A_count A_low_3 A_high_3 A_homes A_leasts A_states A_lowLeasts A_highLeasts)) hD hS hA [0, 1, 2, 3, 4] rfl
    -- CALL A_markLeading
    refine va_callv (va_runV (As := [.int x1, .int x2]) (rest := []) ⟨hx, hb, hml, hown, ht⟩ (zc_A_markLeading l dC dI cC cI cJ tp h_A h_A_low h_A_high h_A_homes h_A_leasts H.size A_genes A_count A_low_3 A_high_3 A_homes A_leasts A_states A_lowLeasts A_highLeasts x1 x2 A_low_5 A_high_5 q5) (cwV 2 ht (z_gV zw_412 zw_414 zw_14 zw_58 zw_415) rfl rfl rfl ⟨rfl, zh_A_markLeading⟩ ⟨Nat.le_of_ble_eq_true rfl, Nat.le_of_ble_eq_true rfl⟩) ⟨fun a U g mk q => by obtain ⟨z0, z1, zP, zK, zD, zX⟩ := q; exact ⟨z0, z1, zP, va_K.moved (u := U) (U := U.calling g mk a) (Vm.Alike.refl U.vm) zK, zD, z_X.same rfl rfl zX⟩, va_recv hK hP (ci := 2) (q0 := 0) rfl rfl, fun U hU hW => ⟨rfl, by rw [hU], by rw [hU]; exact hPc, va_K.moved hW.alike hK, hDc.weaken (fun _ _ _ _ => trivial), hX.warm hS hFc hU hW⟩⟩ rfl rfl hl.1 rfl (lv_room (Nat.le_of_ble_eq_true rfl)) ze_A_markSteps_27 ⟨Nat.zero_le _, Nat.zero_le _⟩) hS (fun q _ h => hFc q h) hFc (fun u t H1 locs ht9 hvm hw hB hz1 hk1 hS => ?_)
    obtain ⟨hP1, hD1⟩ := hB
    rw [ht9] at hP1
    obtain ⟨hP, hD⟩ := va_join (wr := []) (w1 := (zd_A cC cI cJ h_A h_A_low h_A_high h_A_homes h_A_leasts A_genes A_count A_low_5 A_high_5 A_homes A_leasts A_states A_lowLeasts A_highLeasts)) hP hD [0, 1, 2, 3, 4] [] rfl rfl (by decide) (by decide) hk1 hFc hP1 hD1
    generalize H1 = H at hP hS ⊢
    replace hP := hP.sub (ws' := (zd_A cC cI cJ h_A h_A_low h_A_high h_A_homes h_A_leasts A_genes A_count A_low_5 A_high_5 A_homes A_leasts A_states A_lowLeasts A_highLeasts)) [0, 1, 2, 3, 4] rfl
    replace hD := hD.sub (ws' := (zd_A cC cI cJ h_A h_A_low h_A_high h_A_homes h_A_leasts A_genes A_count A_low_5 A_high_5 A_homes A_leasts A_states A_lowLeasts A_highLeasts)) [0, 1, 2, 3, 4] (by decide) rfl
    cases h
    exact W.vret hx hb hr (fun t ht9 hW => ⟨⟨(), rfl, trivial, by rw [ht9]; exact hP, hD⟩, hS.F ht9⟩) hS.2.2 ze_A_markSteps_30
set_option maxHeartbeats 4000000 in
set_option maxRecDepth 100000 in
theorem zk_A_run_20 {p : Program} {l : Launch} {e : Env} {s : State} {m : MethodId} {args : Array Value} {below : List Frame} {meth : Method} {c : Code} {dC : Nat → ClassId} {dI : Nat → Nat → Nat} {cC cI cJ : ClassId} {A : Nat → Prop} {tp : Nat} {h_A h_A_low h_A_high h_A_homes h_A_leasts h_R h_R_names h_R_fixed h_R_low h_R_high h_R_stack : Nat} {R_names : Nat → Int32} {R_stack : Nat → Int64} {o_A_genes : Int32} {o_A_count : Int32} {o_A_low : Nat → Int64} {o_A_high : Nat → Int64} {o_A_homes : Nat → Int32} {o_A_leasts : Nat → Int32} {o_A_states : Int32} {o_A_lowLeasts : Int64} {o_A_highLeasts : Int64} (C0 : z_kx p s m args meth c "RuleNetwork$Analysis" zb_A_run 4 none) (hK : va_K (dC, dI) vwCl (z_tys cC cI cJ) s) (hA : ∀ q : Nat, s.heap.size ≤ q → A q) (hX : z_X tp A s) :
    ∀ n : Nat, ∀ (x2 : Int32) (x3 : Int32) (R_count : Int32) (R_fixed : Nat → Int32) (R_low : Nat → Int64) (R_high : Nat → Int64) (A_genes : Int32) (A_count : Int32) (A_low : Nat → Int64) (A_high : Nat → Int64) (A_homes : Nat → Int32) (A_leasts : Nat → Int32) (A_states : Int32) (A_lowLeasts : Int64) (A_highLeasts : Int64) (H : Heap) (locs : List Loc) (ls : Array Slot), va_P (dC, dI) vwCl (zd_AR cC cI cJ h_A h_A_low h_A_high h_A_homes h_A_leasts h_R h_R_names h_R_fixed h_R_low h_R_high h_R_stack A_genes A_count A_low A_high A_homes A_leasts A_states A_lowLeasts A_highLeasts R_count R_names R_fixed R_low R_high R_stack) H → va_D A (zd_AR cC cI cJ h_A h_A_low h_A_high h_A_homes h_A_leasts h_R h_R_names h_R_fixed h_R_low h_R_high h_R_stack A_genes A_count A_low A_high A_homes A_leasts A_states A_lowLeasts A_highLeasts R_count R_names R_fixed R_low R_high R_stack) → va_S A s.heap H locs → lv_has ls 4 [(0, .ref h_A), (1, .ref h_R), (2, .int x2), (3, .int x3)] → zf_A_run_20 n x2 x3 R_count R_fixed R_low R_high A_genes A_count A_low A_high A_homes A_leasts A_states A_lowLeasts A_highLeasts = some (o_A_genes, o_A_count, o_A_low, o_A_high, o_A_homes, o_A_leasts, o_A_states, o_A_lowLeasts, o_A_highLeasts) → W p l e (headSpec zs_A_run rm_A_run).room s m args below meth c H locs 0 0 (MQ below (zq_A_run dC dI cC cI cJ h_A h_A_low h_A_high h_A_homes h_A_leasts h_R h_R_names h_R_fixed h_R_low h_R_high h_R_stack R_count R_names R_fixed R_low R_high R_stack o_A_genes o_A_count o_A_low o_A_high o_A_homes o_A_leasts o_A_states o_A_lowLeasts o_A_highLeasts A) args s 0 0 A) (F0 m 20 ls []) := by
  obtain ⟨hx, hb, hr, hml, hown, ht, hlocks⟩ := id C0
  intro n
  induction n with
  | zero =>
    intro x2 x3 R_count R_fixed R_low R_high A_genes A_count A_low A_high A_homes A_leasts A_states A_lowLeasts A_highLeasts H locs ls hP hD hS hl h
    cases (show none = some _ from h)
  | succ n ih =>
    intro x2 x3 R_count R_fixed R_low R_high A_genes A_count A_low A_high A_homes A_leasts A_states A_lowLeasts A_highLeasts H locs ls hP hD hS hl h
    rw [zf_A_run_20] at h
    refine lv_iload_n hx hb ze_A_run_20 rfl (lv_at hl 3 rfl) ?_
    refine lv_aload_n hx hb ze_A_run_21 rfl (lv_at hl 0 rfl) ?_
    refine va_get (D := (dC, dI)) (ci := 2) (v := .int A_states) (C := "RuleNetwork$Analysis") (T := zT_A) (N := 9) hx hb ht zin_A hown hK hP 0 rfl rfl 6 (by decide) (ht _ zw_161) (fun _ h9 => h9) rfl ze_A_run_22 ?_
    refine lv_icmp_ge (tgt := 45) hx hb ze_A_run_25 (by decide) (fun c1 => ?_) (fun c1 => ?_)
    · replace h := z_it_t c1 h
      refine lv_aload_n hx hb ze_A_run_45 rfl (lv_at hl 0 rfl) ?_
      obtain ⟨A_low_2, A_high_2, q2, h⟩ := z_b2_some h
      have hPc := hP.sub (ws' := (zd_A cC cI cJ h_A h_A_low h_A_high h_A_homes h_A_leasts A_genes A_count A_low A_high A_homes A_leasts A_states A_lowLeasts A_highLeasts)) [0, 1, 2, 3, 4] rfl
      have hDc := hD.sub (ws' := (zd_A cC cI cJ h_A h_A_low h_A_high h_A_homes h_A_leasts A_genes A_count A_low A_high A_homes A_leasts A_states A_lowLeasts A_highLeasts)) [0, 1, 2, 3, 4] (by decide) rfl
      have hFc := va_free (wc := (zd_A cC cI cJ h_A h_A_low h_A_high h_A_homes h_A_leasts A_genes A_count A_low A_high A_homes A_leasts A_states A_lowLeasts A_highLeasts)) hD hS hA [0, 1, 2, 3, 4] rfl
      -- CALL A_joinSteps
      refine va_callv (va_runV (As := []) (rest := []) ⟨hx, hb, hml, hown, ht⟩ (zc_A_joinSteps l dC dI cC cI cJ tp h_A h_A_low h_A_high h_A_homes h_A_leasts H.size A_genes A_count A_low A_high A_homes A_leasts A_states A_lowLeasts A_highLeasts A_low_2 A_high_2 q2) (cwV 0 ht (z_gV zw_416 zw_418 zw_15 zw_58 zw_419) rfl rfl rfl ⟨rfl, zh_A_joinSteps⟩ ⟨Nat.le_of_ble_eq_true rfl, Nat.le_of_ble_eq_true rfl⟩) ⟨fun a U g mk q => by obtain ⟨z0, z1, zP, zK, zD, zX⟩ := q; exact ⟨z0, z1, zP, va_K.moved (u := U) (U := U.calling g mk a) (Vm.Alike.refl U.vm) zK, zD, z_X.same rfl rfl zX⟩, va_recv hK hP (ci := 2) (q0 := 0) rfl rfl, fun U hU hW => ⟨rfl, by rw [hU], by rw [hU]; exact hPc, va_K.moved hW.alike hK, hDc.weaken (fun _ _ _ _ => trivial), hX.warm hS hFc hU hW⟩⟩ rfl rfl hl.1 rfl (lv_room (Nat.le_of_ble_eq_true rfl)) ze_A_run_46 ⟨Nat.zero_le _, Nat.zero_le _⟩) hS (fun q _ h => hFc q h) hFc (fun u t H1 locs ht9 hvm hw hB hz1 hk1 hS => ?_)
      obtain ⟨hP1, hD1⟩ := hB
      rw [ht9] at hP1
      obtain ⟨hP, hD⟩ := va_join (wr := [(h_R, .inr (1, [.int R_count, .ref h_R_names, .ref h_R_fixed, .ref h_R_low, .ref h_R_high, .ref h_R_stack])), (h_R_names, .inl (cC, 7, .inl R_names)), (h_R_fixed, .inl (cI, 7, .inl R_fixed)), (h_R_low, .inl (cJ, 7, .inr (.inl R_low))), (h_R_high, .inl (cJ, 7, .inr (.inl R_high))), (h_R_stack, .inl (cJ, 240, .inr (.inl R_stack)))]) (w1 := (zd_A cC cI cJ h_A h_A_low h_A_high h_A_homes h_A_leasts A_genes A_count A_low_2 A_high_2 A_homes A_leasts A_states A_lowLeasts A_highLeasts)) hP hD [0, 1, 2, 3, 4] [5, 6, 7, 8, 9, 10] rfl rfl (by decide) (by decide) hk1 hFc hP1 hD1
      generalize H1 = H at hP hS ⊢
      replace hP := hP.sub (ws' := (zd_AR cC cI cJ h_A h_A_low h_A_high h_A_homes h_A_leasts h_R h_R_names h_R_fixed h_R_low h_R_high h_R_stack A_genes A_count A_low_2 A_high_2 A_homes A_leasts A_states A_lowLeasts A_highLeasts R_count R_names R_fixed R_low R_high R_stack)) [6, 7, 8, 9, 10, 0, 1, 2, 3, 4, 5] rfl
      replace hD := hD.sub (ws' := (zd_AR cC cI cJ h_A h_A_low h_A_high h_A_homes h_A_leasts h_R h_R_names h_R_fixed h_R_low h_R_high h_R_stack A_genes A_count A_low_2 A_high_2 A_homes A_leasts A_states A_lowLeasts A_highLeasts R_count R_names R_fixed R_low R_high R_stack)) [6, 7, 8, 9, 10, 0, 1, 2, 3, 4, 5] (by decide) rfl
      refine lv_aload_n hx hb ze_A_run_49 rfl (lv_at hl 0 rfl) ?_
      obtain ⟨A_count_3, A_homes_3, A_leasts_3, A_lowLeasts_3, A_highLeasts_3, q3, h⟩ := z_b5_some h
      have hPc := hP.sub (ws' := (zd_A cC cI cJ h_A h_A_low h_A_high h_A_homes h_A_leasts A_genes A_count A_low_2 A_high_2 A_homes A_leasts A_states A_lowLeasts A_highLeasts)) [0, 1, 2, 3, 4] rfl
      have hDc := hD.sub (ws' := (zd_A cC cI cJ h_A h_A_low h_A_high h_A_homes h_A_leasts A_genes A_count A_low_2 A_high_2 A_homes A_leasts A_states A_lowLeasts A_highLeasts)) [0, 1, 2, 3, 4] (by decide) rfl
      have hFc := va_free (wc := (zd_A cC cI cJ h_A h_A_low h_A_high h_A_homes h_A_leasts A_genes A_count A_low_2 A_high_2 A_homes A_leasts A_states A_lowLeasts A_highLeasts)) hD hS hA [0, 1, 2, 3, 4] rfl
      -- CALL A_findAttractors
      refine va_callv (va_runV (As := []) (rest := []) ⟨hx, hb, hml, hown, ht⟩ (zc_A_findAttractors l dC dI cC cI cJ tp h_A h_A_low h_A_high h_A_homes h_A_leasts H.size A_genes A_count A_low_2 A_high_2 A_homes A_leasts A_states A_lowLeasts A_highLeasts A_count_3 A_homes_3 A_leasts_3 A_lowLeasts_3 A_highLeasts_3 q3) (cwV 0 ht (z_gV zw_425 zw_427 zw_17 zw_58 zw_428) rfl rfl rfl ⟨rfl, zh_A_findAttractors⟩ ⟨Nat.le_of_ble_eq_true rfl, Nat.le_of_ble_eq_true rfl⟩) ⟨fun a U g mk q => by obtain ⟨z0, z1, zP, zK, zD, zX⟩ := q; exact ⟨z0, z1, zP, va_K.moved (u := U) (U := U.calling g mk a) (Vm.Alike.refl U.vm) zK, zD, z_X.same rfl rfl zX⟩, va_recv hK hP (ci := 2) (q0 := 0) rfl rfl, fun U hU hW => ⟨rfl, by rw [hU], by rw [hU]; exact hPc, va_K.moved hW.alike hK, hDc.weaken (fun _ _ _ _ => trivial), hX.warm hS hFc hU hW⟩⟩ rfl rfl hl.1 rfl (lv_room (Nat.le_of_ble_eq_true rfl)) ze_A_run_50 ⟨Nat.zero_le _, Nat.zero_le _⟩) hS (fun q _ h => hFc q h) hFc (fun u t H1 locs ht9 hvm hw hB hz1 hk1 hS => ?_)
      obtain ⟨hP1, hD1⟩ := hB
      rw [ht9] at hP1
      obtain ⟨hP, hD⟩ := va_join (wr := [(h_R, .inr (1, [.int R_count, .ref h_R_names, .ref h_R_fixed, .ref h_R_low, .ref h_R_high, .ref h_R_stack])), (h_R_names, .inl (cC, 7, .inl R_names)), (h_R_fixed, .inl (cI, 7, .inl R_fixed)), (h_R_low, .inl (cJ, 7, .inr (.inl R_low))), (h_R_high, .inl (cJ, 7, .inr (.inl R_high))), (h_R_stack, .inl (cJ, 240, .inr (.inl R_stack)))]) (w1 := (zd_A cC cI cJ h_A h_A_low h_A_high h_A_homes h_A_leasts A_genes A_count_3 A_low_2 A_high_2 A_homes_3 A_leasts_3 A_states A_lowLeasts_3 A_highLeasts_3)) hP hD [0, 1, 2, 3, 4] [5, 6, 7, 8, 9, 10] rfl rfl (by decide) (by decide) hk1 hFc hP1 hD1
      generalize H1 = H at hP hS ⊢
      replace hP := hP.sub (ws' := (zd_AR cC cI cJ h_A h_A_low h_A_high h_A_homes h_A_leasts h_R h_R_names h_R_fixed h_R_low h_R_high h_R_stack A_genes A_count_3 A_low_2 A_high_2 A_homes_3 A_leasts_3 A_states A_lowLeasts_3 A_highLeasts_3 R_count R_names R_fixed R_low R_high R_stack)) [6, 7, 8, 9, 10, 0, 1, 2, 3, 4, 5] rfl
      replace hD := hD.sub (ws' := (zd_AR cC cI cJ h_A h_A_low h_A_high h_A_homes h_A_leasts h_R h_R_names h_R_fixed h_R_low h_R_high h_R_stack A_genes A_count_3 A_low_2 A_high_2 A_homes_3 A_leasts_3 A_states A_lowLeasts_3 A_highLeasts_3 R_count R_names R_fixed R_low R_high R_stack)) [6, 7, 8, 9, 10, 0, 1, 2, 3, 4, 5] (by decide) rfl
      cases h
      exact W.vret hx hb hr (fun t ht9 hW => ⟨⟨(), rfl, trivial, by rw [ht9]; exact hP, hD⟩, hS.F ht9⟩) hS.2.2 ze_A_run_53
    · replace h := z_it_f c1 h
      refine lv_aload_n hx hb ze_A_run_28 rfl (lv_at hl 0 rfl) ?_
      refine lv_iload_n hx hb ze_A_run_29 rfl (lv_at hl 3 rfl) ?_
      refine lv_aload_n hx hb ze_A_run_30 rfl (lv_at hl 1 rfl) ?_
      refine lv_iload_n hx hb ze_A_run_31 rfl (lv_at hl 3 rfl) ?_
      obtain ⟨r4, q4, h⟩ := z_b1_some h
      have hPc := hP.sub (ws' := (zd_R cC cI cJ h_R h_R_names h_R_fixed h_R_low h_R_high h_R_stack R_count R_names R_fixed R_low R_high R_stack)) [5, 6, 7, 8, 9, 10] rfl
      have hDc := hD.sub (ws' := (zd_R cC cI cJ h_R h_R_names h_R_fixed h_R_low h_R_high h_R_stack R_count R_names R_fixed R_low R_high R_stack)) [5, 6, 7, 8, 9, 10] (by decide) rfl
      have hFc := va_free (wc := (zd_R cC cI cJ h_R h_R_names h_R_fixed h_R_low h_R_high h_R_stack R_count R_names R_fixed R_low R_high R_stack)) hD hS hA [5, 6, 7, 8, 9, 10] rfl
      -- CALL R_stepTogether
      refine va_calli (va_runV (As := [.int x3]) (rest := [.int x3, .ref h_A]) ⟨hx, hb, hml, hown, ht⟩ (zc_R_stepTogether l dC dI cC cI cJ tp h_R h_R_names h_R_fixed h_R_low h_R_high h_R_stack H.size R_count R_names R_fixed R_low R_high R_stack x3 r4 q4) (cwV 1 ht (z_gV zw_407 zw_378 zw_379 zw_57 zw_380) rfl rfl rfl ⟨rfl, zh_R_stepTogether⟩ ⟨Nat.le_of_ble_eq_true rfl, Nat.le_of_ble_eq_true rfl⟩) ⟨fun a U g mk q => by obtain ⟨z0, z1, zP, zK, zD, zX⟩ := q; exact ⟨z0, z1, zP, va_K.moved (u := U) (U := U.calling g mk a) (Vm.Alike.refl U.vm) zK, zD, z_X.same rfl rfl zX⟩, va_recv hK hP (ci := 1) (q0 := 5) rfl rfl, fun U hU hW => ⟨rfl, by rw [hU], by rw [hU]; exact hPc, va_K.moved hW.alike hK, hDc.weaken (fun _ _ _ _ => trivial), hX.warm hS hFc hU hW⟩⟩ rfl rfl hl.1 rfl (lv_room (Nat.le_of_ble_eq_true rfl)) ze_A_run_32 ⟨Nat.zero_le _, Nat.zero_le _⟩) hS (fun q _ h => hFc q h) hFc (fun rv u t H1 locs ht9 hvm hw hB hz1 hk1 hS => ?_)
      obtain ⟨hP1, hD1⟩ := hB
      rw [ht9] at hP1
      have hw' : r4 = rv := Eq.symm hw
      subst hw'
      obtain ⟨hP, hD⟩ := va_join (wr := [(h_A, .inr (2, [.int A_genes, .int A_count, .ref h_A_low, .ref h_A_high, .ref h_A_homes, .ref h_A_leasts, .int A_states, .long A_lowLeasts, .long A_highLeasts])), (h_A_low, .inl (cJ, 128, .inr (.inl A_low))), (h_A_high, .inl (cJ, 128, .inr (.inl A_high))), (h_A_homes, .inl (cI, 128, .inl A_homes)), (h_A_leasts, .inl (cI, 128, .inl A_leasts))]) (w1 := (zd_R cC cI cJ h_R h_R_names h_R_fixed h_R_low h_R_high h_R_stack R_count R_names R_fixed R_low R_high R_stack)) hP hD [5, 6, 7, 8, 9, 10] [0, 1, 2, 3, 4] rfl rfl (by decide) (by decide) hk1 hFc hP1 hD1
      generalize H1 = H at hP hS ⊢
      replace hP := hP.sub (ws' := (zd_AR cC cI cJ h_A h_A_low h_A_high h_A_homes h_A_leasts h_R h_R_names h_R_fixed h_R_low h_R_high h_R_stack A_genes A_count A_low A_high A_homes A_leasts A_states A_lowLeasts A_highLeasts R_count R_names R_fixed R_low R_high R_stack)) [0, 1, 2, 3, 4, 5, 6, 7, 8, 9, 10] rfl
      replace hD := hD.sub (ws' := (zd_AR cC cI cJ h_A h_A_low h_A_high h_A_homes h_A_leasts h_R h_R_names h_R_fixed h_R_low h_R_high h_R_stack A_genes A_count A_low A_high A_homes A_leasts A_states A_lowLeasts A_highLeasts R_count R_names R_fixed R_low R_high R_stack)) [0, 1, 2, 3, 4, 5, 6, 7, 8, 9, 10] (by decide) rfl
      refine lv_iload_n hx hb ze_A_run_35 rfl (lv_at hl 2 rfl) ?_
      obtain ⟨A_low_5, A_high_5, q5, h⟩ := z_b2_some h
      have hPc := hP.sub (ws' := (zd_A cC cI cJ h_A h_A_low h_A_high h_A_homes h_A_leasts A_genes A_count A_low A_high A_homes A_leasts A_states A_lowLeasts A_highLeasts)) [0, 1, 2, 3, 4] rfl
      have hDc := hD.sub (ws' := (zd_A cC cI cJ h_A h_A_low h_A_high h_A_homes h_A_leasts A_genes A_count A_low A_high A_homes A_leasts A_states A_lowLeasts A_highLeasts)) [0, 1, 2, 3, 4] (by decide) rfl
      have hFc := va_free (wc := (zd_A cC cI cJ h_A h_A_low h_A_high h_A_homes h_A_leasts A_genes A_count A_low A_high A_homes A_leasts A_states A_lowLeasts A_highLeasts)) hD hS hA [0, 1, 2, 3, 4] rfl
      -- CALL A_markSteps
      refine va_callv (va_runV (As := [.int x3, .int r4, .int x2]) (rest := []) ⟨hx, hb, hml, hown, ht⟩ (zc_A_markSteps l dC dI cC cI cJ tp h_A h_A_low h_A_high h_A_homes h_A_leasts H.size A_genes A_count A_low A_high A_homes A_leasts A_states A_lowLeasts A_highLeasts x3 r4 x2 A_low_5 A_high_5 q5) (cwV 3 ht (z_gV zw_408 zw_410 zw_13 zw_58 zw_411) rfl rfl rfl ⟨rfl, zh_A_markSteps⟩ ⟨Nat.le_of_ble_eq_true rfl, Nat.le_of_ble_eq_true rfl⟩) ⟨fun a U g mk q => by obtain ⟨z0, z1, zP, zK, zD, zX⟩ := q; exact ⟨z0, z1, zP, va_K.moved (u := U) (U := U.calling g mk a) (Vm.Alike.refl U.vm) zK, zD, z_X.same rfl rfl zX⟩, va_recv hK hP (ci := 2) (q0 := 0) rfl rfl, fun U hU hW => ⟨rfl, by rw [hU], by rw [hU]; exact hPc, va_K.moved hW.alike hK, hDc.weaken (fun _ _ _ _ => trivial), hX.warm hS hFc hU hW⟩⟩ rfl rfl hl.1 rfl (lv_room (Nat.le_of_ble_eq_true rfl)) ze_A_run_36 ⟨Nat.zero_le _, Nat.zero_le _⟩) hS (fun q _ h => hFc q h) hFc (fun u t H1 locs ht9 hvm hw hB hz1 hk1 hS => ?_)
      obtain ⟨hP1, hD1⟩ := hB
      rw [ht9] at hP1
      obtain ⟨hP, hD⟩ := va_join (wr := [(h_R, .inr (1, [.int R_count, .ref h_R_names, .ref h_R_fixed, .ref h_R_low, .ref h_R_high, .ref h_R_stack])), (h_R_names, .inl (cC, 7, .inl R_names)), (h_R_fixed, .inl (cI, 7, .inl R_fixed)), (h_R_low, .inl (cJ, 7, .inr (.inl R_low))), (h_R_high, .inl (cJ, 7, .inr (.inl R_high))), (h_R_stack, .inl (cJ, 240, .inr (.inl R_stack)))]) (w1 := (zd_A cC cI cJ h_A h_A_low h_A_high h_A_homes h_A_leasts A_genes A_count A_low_5 A_high_5 A_homes A_leasts A_states A_lowLeasts A_highLeasts)) hP hD [0, 1, 2, 3, 4] [5, 6, 7, 8, 9, 10] rfl rfl (by decide) (by decide) hk1 hFc hP1 hD1
      generalize H1 = H at hP hS ⊢
      replace hP := hP.sub (ws' := (zd_AR cC cI cJ h_A h_A_low h_A_high h_A_homes h_A_leasts h_R h_R_names h_R_fixed h_R_low h_R_high h_R_stack A_genes A_count A_low_5 A_high_5 A_homes A_leasts A_states A_lowLeasts A_highLeasts R_count R_names R_fixed R_low R_high R_stack)) [6, 7, 8, 9, 10, 0, 1, 2, 3, 4, 5] rfl
      replace hD := hD.sub (ws' := (zd_AR cC cI cJ h_A h_A_low h_A_high h_A_homes h_A_leasts h_R h_R_names h_R_fixed h_R_low h_R_high h_R_stack A_genes A_count A_low_5 A_high_5 A_homes A_leasts A_states A_lowLeasts A_highLeasts R_count R_names R_fixed R_low R_high R_stack)) [6, 7, 8, 9, 10, 0, 1, 2, 3, 4, 5] (by decide) rfl
      refine lv_iinc (v := (x3 + (1 : Int32))) (lv' := [(3, .int (x3 + (1 : Int32))), (0, .ref h_A), (1, .ref h_R), (2, .int x2)]) hx hb ze_A_run_39 hl (k := 3) rfl rfl (by decide) rfl (fun ls hl => ?_)
      refine lv_goto (tgt := 20) hx hb ze_A_run_42 (by decide) ?_
      exact ih x2 (x3 + (1 : Int32)) R_count R_fixed R_low R_high A_genes A_count A_low_5 A_high_5 A_homes A_leasts A_states A_lowLeasts A_highLeasts _ _ _ hP hD hS (lv_sub hl [1, 2, 3, 0] rfl) h
set_option maxHeartbeats 4000000 in
set_option maxRecDepth 100000 in
theorem zc_A_run (l : Launch) (dC : Nat → ClassId) (dI : Nat → Nat → Nat) (cC : ClassId) (cI : ClassId) (cJ : ClassId) (tp : Nat) (h_A : Nat) (h_A_low : Nat) (h_A_high : Nat) (h_A_homes : Nat) (h_A_leasts : Nat) (h_R : Nat) (h_R_names : Nat) (h_R_fixed : Nat) (h_R_low : Nat) (h_R_high : Nat) (h_R_stack : Nat) (sz : Nat) (A_genes : Int32) (A_count : Int32) (A_low : Nat → Int64) (A_high : Nat → Int64) (A_homes : Nat → Int32) (A_leasts : Nat → Int32) (A_states : Int32) (A_lowLeasts : Int64) (A_highLeasts : Int64) (R_count : Int32) (R_names : Nat → Int32) (R_fixed : Nat → Int32) (R_low : Nat → Int64) (R_high : Nat → Int64) (R_stack : Nat → Int64) (x2 : Int32) (o_A_genes : Int32) (o_A_count : Int32) (o_A_low : Nat → Int64) (o_A_high : Nat → Int64) (o_A_homes : Nat → Int32) (o_A_leasts : Nat → Int32) (o_A_states : Int32) (o_A_lowLeasts : Int64) (o_A_highLeasts : Int64) (h : zf_A_run x2 R_count R_fixed R_low R_high A_genes A_count A_low A_high A_homes A_leasts A_states A_lowLeasts A_highLeasts = some (o_A_genes, o_A_count, o_A_low, o_A_high, o_A_homes, o_A_leasts, o_A_states, o_A_lowLeasts, o_A_highLeasts)) : Met l zy_A_run zs_A_run (rm_A_run) (va_Pc [.ref h_A, .ref h_R, .int x2] (fun U => U.heap.size = sz ∧ va_P (dC, dI) vwCl (zd_AR cC cI cJ h_A h_A_low h_A_high h_A_homes h_A_leasts h_R h_R_names h_R_fixed h_R_low h_R_high h_R_stack A_genes A_count A_low A_high A_homes A_leasts A_states A_lowLeasts A_highLeasts R_count R_names R_fixed R_low R_high R_stack) U.heap ∧ va_K (dC, dI) vwCl (z_tys cC cI cJ) U ∧ va_D (fun _ => True) (zd_AR cC cI cJ h_A h_A_low h_A_high h_A_homes h_A_leasts h_R h_R_names h_R_fixed h_R_low h_R_high h_R_stack A_genes A_count A_low A_high A_homes A_leasts A_states A_lowLeasts A_highLeasts R_count R_names R_fixed R_low R_high R_stack) ∧ z_X tp (va_A (zd_AR cC cI cJ h_A h_A_low h_A_high h_A_homes h_A_leasts h_R h_R_names h_R_fixed h_R_low h_R_high h_R_stack A_genes A_count A_low A_high A_homes A_leasts A_states A_lowLeasts A_highLeasts R_count R_names R_fixed R_low R_high R_stack) sz) U)) (zq_A_run dC dI cC cI cJ h_A h_A_low h_A_high h_A_homes h_A_leasts h_R h_R_names h_R_fixed h_R_low h_R_high h_R_stack R_count R_names R_fixed R_low R_high R_stack o_A_genes o_A_count o_A_low o_A_high o_A_homes o_A_leasts o_A_states o_A_lowLeasts o_A_highLeasts (va_A (zd_AR cC cI cJ h_A h_A_low h_A_high h_A_homes h_A_leasts h_R h_R_names h_R_fixed h_R_low h_R_high h_R_stack A_genes A_count A_low A_high A_homes A_leasts A_states A_lowLeasts A_highLeasts R_count R_names R_fixed R_low R_high R_stack) sz)) 0 0 (va_A (zd_AR cC cI cJ h_A h_A_low h_A_high h_A_homes h_A_leasts h_R h_R_names h_R_fixed h_R_low h_R_high h_R_stack A_genes A_count A_low A_high A_homes A_leasts A_states A_lowLeasts A_highLeasts R_count R_names R_fixed R_low R_high R_stack) sz) := by
  refine Met.ofW (cc := zb_A_run) (maxL := 4) (ret := none) (by decide) rfl ?_
  intro p e s m args below meth c s₁ B hml hv
  obtain ⟨rfl, hsz, hP, hK, hD0, hX⟩ := hv
  have hx := B.exec
  have hb := B.bytes
  have hr := B.returns
  have hts := atoms_spec (ws := zs_A_run) B.pre
  have ht : ∀ w ∈ z_W, w.before _ s = true := fun w h => hts w (List.mem_cons_of_mem _ h)
  have hown : s.vm.findClass "RuleNetwork$Analysis" = some m.cls := findClass_of_methodNamed B.named
  have hlocks := B.notSynchronized
  have C0 : z_kx p s m _ meth c "RuleNetwork$Analysis" zb_A_run 4 none := ⟨hx, hb, hr, hml, hown, ht, hlocks⟩
  subst hsz
  have hD := hD0.self (sz := s.heap.size)
  generalize hAe : va_A (zd_AR cC cI cJ h_A h_A_low h_A_high h_A_homes h_A_leasts h_R h_R_names h_R_fixed h_R_low h_R_high h_R_stack A_genes A_count A_low A_high A_homes A_leasts A_states A_lowLeasts A_highLeasts R_count R_names R_fixed R_low R_high R_stack) s.heap.size = A at hD hX ⊢
  have hA : ∀ q : Nat, s.heap.size ≤ q → A q := fun q h => by rw [← hAe]; exact Or.inr h
  have hS : va_S A s.heap s.heap [] := va_S.rf
  have hl := lv_entry ([.ref h_A, .ref h_R, .int x2]) (n := 4) (Nat.le_of_ble_eq_true rfl)
  rw [lg_entry_eq]
  generalize (lg_sl ([.ref h_A, .ref h_R, .int x2]) ++ List.replicate (4 - (lg_sl ([.ref h_A, .ref h_R, .int x2])).length) Slot.unset).toArray = ls at hl ⊢
  have hl : lv_has ls 4 [(0, .ref h_A), (1, .ref h_R), (2, .int x2)] := hl
  rw [zf_A_run] at h
  refine lv_aload_n hx hb ze_A_run_0 rfl (lv_at hl 0 rfl) ?_
  refine lv_aload_n hx hb ze_A_run_1 rfl (lv_at hl 1 rfl) ?_
  refine va_get (D := (dC, dI)) (ci := 1) (v := .int R_count) (C := "RuleNetwork$Rules") (T := zT_R) (N := 6) hx hb ht zin_R hown hK hP 5 rfl rfl 0 (by decide) (ht _ zw_120) (fun _ h9 => h9) rfl ze_A_run_2 ?_
  refine va_put (D := (dC, dI)) (ci := 2) (v := .int R_count) (ty := .int) (C := "RuleNetwork$Analysis") (T := zT_A) (N := 9) hx hb ht zin_A zty_A zty_A_ok znm_A hown hK hP hD hS 0 rfl rfl 0 (by decide) (ht _ zw_149) (fun _ h9 => h9) rfl (zty_A_ok 0 (by decide)) rfl rfl (Nat.le_of_ble_eq_true rfl) ze_A_run_5 (fun H locs hP hD hS => ?_)
  have hP : va_P (dC, dI) vwCl (zd_AR cC cI cJ h_A h_A_low h_A_high h_A_homes h_A_leasts h_R h_R_names h_R_fixed h_R_low h_R_high h_R_stack R_count A_count A_low A_high A_homes A_leasts A_states A_lowLeasts A_highLeasts R_count R_names R_fixed R_low R_high R_stack) H := hP
  have hD : va_D A (zd_AR cC cI cJ h_A h_A_low h_A_high h_A_homes h_A_leasts h_R h_R_names h_R_fixed h_R_low h_R_high h_R_stack R_count A_count A_low A_high A_homes A_leasts A_states A_lowLeasts A_highLeasts R_count R_names R_fixed R_low R_high R_stack) := hD
  refine lv_aload_n hx hb ze_A_run_8 rfl (lv_at hl 0 rfl) ?_
  refine lv_iconst (v := (1 : Int32)) hx hb ze_A_run_9 (by decide) ?_
  refine lv_aload_n hx hb ze_A_run_10 rfl (lv_at hl 0 rfl) ?_
  refine va_get (D := (dC, dI)) (ci := 2) (v := .int R_count) (C := "RuleNetwork$Analysis") (T := zT_A) (N := 9) hx hb ht zin_A hown hK hP 0 rfl rfl 0 (by decide) (ht _ zw_149) (fun _ h9 => h9) rfl ze_A_run_11 ?_
  refine lv_ishl hx hb ze_A_run_14 ?_
  refine va_put (D := (dC, dI)) (ci := 2) (v := .int ((1 : Int32) <<< (R_count &&& 31))) (ty := .int) (C := "RuleNetwork$Analysis") (T := zT_A) (N := 9) hx hb ht zin_A zty_A zty_A_ok znm_A hown hK hP hD hS 0 rfl rfl 6 (by decide) (ht _ zw_161) (fun _ h9 => h9) rfl (zty_A_ok 6 (by decide)) rfl rfl (Nat.le_of_ble_eq_true rfl) ze_A_run_15 (fun H locs hP hD hS => ?_)
  have hP : va_P (dC, dI) vwCl (zd_AR cC cI cJ h_A h_A_low h_A_high h_A_homes h_A_leasts h_R h_R_names h_R_fixed h_R_low h_R_high h_R_stack R_count A_count A_low A_high A_homes A_leasts ((1 : Int32) <<< (R_count &&& 31)) A_lowLeasts A_highLeasts R_count R_names R_fixed R_low R_high R_stack) H := hP
  have hD : va_D A (zd_AR cC cI cJ h_A h_A_low h_A_high h_A_homes h_A_leasts h_R h_R_names h_R_fixed h_R_low h_R_high h_R_stack R_count A_count A_low A_high A_homes A_leasts ((1 : Int32) <<< (R_count &&& 31)) A_lowLeasts A_highLeasts R_count R_names R_fixed R_low R_high R_stack) := hD
  refine lv_iconst (v := (0 : Int32)) hx hb ze_A_run_18 (by decide) ?_
  refine lv_istore_n (lv' := [(3, .int (0 : Int32)), (0, .ref h_A), (1, .ref h_R), (2, .int x2)]) hx hb ze_A_run_19 rfl hl (by decide) rfl (fun ls hl => ?_)
  exact zk_A_run_20 C0 hK hA hX z_FU x2 (0 : Int32) R_count R_fixed R_low R_high R_count A_count A_low A_high A_homes A_leasts ((1 : Int32) <<< (R_count &&& 31)) A_lowLeasts A_highLeasts _ _ _ hP hD hS (lv_sub hl [1, 2, 3, 0] rfl) h
set_option maxHeartbeats 4000000 in
set_option maxRecDepth 100000 in
theorem zc_A_hasAttractor (l : Launch) (dC : Nat → ClassId) (dI : Nat → Nat → Nat) (cC : ClassId) (cI : ClassId) (cJ : ClassId) (tp : Nat) (h_A : Nat) (h_A_low : Nat) (h_A_high : Nat) (h_A_homes : Nat) (h_A_leasts : Nat) (sz : Nat) (A_genes : Int32) (A_count : Int32) (A_low : Nat → Int64) (A_high : Nat → Int64) (A_homes : Nat → Int32) (A_leasts : Nat → Int32) (A_states : Int32) (A_lowLeasts : Int64) (A_highLeasts : Int64) (x1 : Int32) (o_r : Int32) (h : zf_A_hasAttractor x1 A_count = some (o_r)) : Met l zy_A_hasAttractor zs_A_hasAttractor (rm_A_hasAttractor) (va_Pc [.ref h_A, .int x1] (fun U => U.heap.size = sz ∧ va_P (dC, dI) vwCl (zd_A cC cI cJ h_A h_A_low h_A_high h_A_homes h_A_leasts A_genes A_count A_low A_high A_homes A_leasts A_states A_lowLeasts A_highLeasts) U.heap ∧ va_K (dC, dI) vwCl (z_tys cC cI cJ) U ∧ va_D (fun _ => True) (zd_A cC cI cJ h_A h_A_low h_A_high h_A_homes h_A_leasts A_genes A_count A_low A_high A_homes A_leasts A_states A_lowLeasts A_highLeasts) ∧ z_X tp (va_A (zd_A cC cI cJ h_A h_A_low h_A_high h_A_homes h_A_leasts A_genes A_count A_low A_high A_homes A_leasts A_states A_lowLeasts A_highLeasts) sz) U)) (zq_A_hasAttractor dC dI cC cI cJ h_A h_A_low h_A_high h_A_homes h_A_leasts A_genes A_count A_low A_high A_homes A_leasts A_states A_lowLeasts A_highLeasts o_r (va_A (zd_A cC cI cJ h_A h_A_low h_A_high h_A_homes h_A_leasts A_genes A_count A_low A_high A_homes A_leasts A_states A_lowLeasts A_highLeasts) sz)) 0 0 (va_A (zd_A cC cI cJ h_A h_A_low h_A_high h_A_homes h_A_leasts A_genes A_count A_low A_high A_homes A_leasts A_states A_lowLeasts A_highLeasts) sz) := by
  refine Met.ofW (cc := zb_A_hasAttractor) (maxL := 2) (ret := (some .boolean)) (by decide) rfl ?_
  intro p e s m args below meth c s₁ B hml hv
  obtain ⟨rfl, hsz, hP, hK, hD0, hX⟩ := hv
  have hx := B.exec
  have hb := B.bytes
  have hr := B.returns
  have hts := atoms_spec (ws := zs_A_hasAttractor) B.pre
  have ht : ∀ w ∈ z_W, w.before _ s = true := fun w h => hts w (List.mem_cons_of_mem _ h)
  have hown : s.vm.findClass "RuleNetwork$Analysis" = some m.cls := findClass_of_methodNamed B.named
  have hlocks := B.notSynchronized
  have C0 : z_kx p s m _ meth c "RuleNetwork$Analysis" zb_A_hasAttractor 2 (some .boolean) := ⟨hx, hb, hr, hml, hown, ht, hlocks⟩
  subst hsz
  have hD := hD0.self (sz := s.heap.size)
  generalize hAe : va_A (zd_A cC cI cJ h_A h_A_low h_A_high h_A_homes h_A_leasts A_genes A_count A_low A_high A_homes A_leasts A_states A_lowLeasts A_highLeasts) s.heap.size = A at hD hX ⊢
  have hA : ∀ q : Nat, s.heap.size ≤ q → A q := fun q h => by rw [← hAe]; exact Or.inr h
  have hS : va_S A s.heap s.heap [] := va_S.rf
  have hl := lv_entry ([.ref h_A, .int x1]) (n := 2) (Nat.le_of_ble_eq_true rfl)
  rw [lg_entry_eq]
  generalize (lg_sl ([.ref h_A, .int x1]) ++ List.replicate (2 - (lg_sl ([.ref h_A, .int x1])).length) Slot.unset).toArray = ls at hl ⊢
  have hl : lv_has ls 2 [(0, .ref h_A), (1, .int x1)] := hl
  rw [zf_A_hasAttractor] at h
  refine lv_iload_n hx hb ze_A_hasAttractor_0 rfl (lv_at hl 1 rfl) ?_
  refine lv_if_lt (tgt := 16) hx hb ze_A_hasAttractor_1 (by decide) (fun c1 => ?_) (fun c1 => ?_)
  · replace h := z_it_t c1 h
    refine lv_iconst (v := (0 : Int32)) hx hb ze_A_hasAttractor_16 (by decide) ?_
    obtain ⟨hn, h⟩ := z_gb_some h
    cases h
    exact W.zret hx hb hr hn (fun t ht9 hW => ⟨⟨_, (), rfl, rfl, by rw [ht9]; exact hP, hD⟩, hS.F ht9⟩) hS.2.2 ze_A_hasAttractor_17
  · replace h := z_it_f c1 h
    refine lv_iload_n hx hb ze_A_hasAttractor_4 rfl (lv_at hl 1 rfl) ?_
    refine lv_aload_n hx hb ze_A_hasAttractor_5 rfl (lv_at hl 0 rfl) ?_
    refine va_get (D := (dC, dI)) (ci := 2) (v := .int A_count) (C := "RuleNetwork$Analysis") (T := zT_A) (N := 9) hx hb ht zin_A hown hK hP 0 rfl rfl 1 (by decide) (ht _ zw_151) (fun _ h9 => h9) rfl ze_A_hasAttractor_6 ?_
    refine lv_icmp_ge (tgt := 16) hx hb ze_A_hasAttractor_9 (by decide) (fun c2 => ?_) (fun c2 => ?_)
    · replace h := z_it_t c2 h
      refine lv_iconst (v := (0 : Int32)) hx hb ze_A_hasAttractor_16 (by decide) ?_
      obtain ⟨hn, h⟩ := z_gb_some h
      cases h
      exact W.zret hx hb hr hn (fun t ht9 hW => ⟨⟨_, (), rfl, rfl, by rw [ht9]; exact hP, hD⟩, hS.F ht9⟩) hS.2.2 ze_A_hasAttractor_17
    · replace h := z_it_f c2 h
      refine lv_iconst (v := (1 : Int32)) hx hb ze_A_hasAttractor_12 (by decide) ?_
      refine lv_goto (tgt := 17) hx hb ze_A_hasAttractor_13 (by decide) ?_
      obtain ⟨hn, h⟩ := z_gb_some h
      cases h
      exact W.zret hx hb hr hn (fun t ht9 hW => ⟨⟨_, (), rfl, rfl, by rw [ht9]; exact hP, hD⟩, hS.F ht9⟩) hS.2.2 ze_A_hasAttractor_17
set_option maxHeartbeats 4000000 in
set_option maxRecDepth 100000 in
theorem zc_A_countStates (l : Launch) (dC : Nat → ClassId) (dI : Nat → Nat → Nat) (cC : ClassId) (cI : ClassId) (cJ : ClassId) (tp : Nat) (h_A : Nat) (h_A_low : Nat) (h_A_high : Nat) (h_A_homes : Nat) (h_A_leasts : Nat) (sz : Nat) (A_genes : Int32) (A_count : Int32) (A_low : Nat → Int64) (A_high : Nat → Int64) (A_homes : Nat → Int32) (A_leasts : Nat → Int32) (A_states : Int32) (A_lowLeasts : Int64) (A_highLeasts : Int64) (x1 : Int32) (o_r : Int32) (h : zf_A_countStates x1 A_low A_high A_leasts = some (o_r)) : Met l zy_A_countStates zs_A_countStates (rm_A_countStates) (va_Pc [.ref h_A, .int x1] (fun U => U.heap.size = sz ∧ va_P (dC, dI) vwCl (zd_A cC cI cJ h_A h_A_low h_A_high h_A_homes h_A_leasts A_genes A_count A_low A_high A_homes A_leasts A_states A_lowLeasts A_highLeasts) U.heap ∧ va_K (dC, dI) vwCl (z_tys cC cI cJ) U ∧ va_D (fun _ => True) (zd_A cC cI cJ h_A h_A_low h_A_high h_A_homes h_A_leasts A_genes A_count A_low A_high A_homes A_leasts A_states A_lowLeasts A_highLeasts) ∧ z_X tp (va_A (zd_A cC cI cJ h_A h_A_low h_A_high h_A_homes h_A_leasts A_genes A_count A_low A_high A_homes A_leasts A_states A_lowLeasts A_highLeasts) sz) U)) (zq_A_countStates dC dI cC cI cJ h_A h_A_low h_A_high h_A_homes h_A_leasts A_genes A_count A_low A_high A_homes A_leasts A_states A_lowLeasts A_highLeasts o_r (va_A (zd_A cC cI cJ h_A h_A_low h_A_high h_A_homes h_A_leasts A_genes A_count A_low A_high A_homes A_leasts A_states A_lowLeasts A_highLeasts) sz)) 0 0 (va_A (zd_A cC cI cJ h_A h_A_low h_A_high h_A_homes h_A_leasts A_genes A_count A_low A_high A_homes A_leasts A_states A_lowLeasts A_highLeasts) sz) := by
  refine Met.ofW (cc := zb_A_countStates) (maxL := 3) (ret := (some .int)) (by decide) rfl ?_
  intro p e s m args below meth c s₁ B hml hv
  obtain ⟨rfl, hsz, hP, hK, hD0, hX⟩ := hv
  have hx := B.exec
  have hb := B.bytes
  have hr := B.returns
  have hts := atoms_spec (ws := zs_A_countStates) B.pre
  have ht : ∀ w ∈ z_W, w.before _ s = true := fun w h => hts w (List.mem_cons_of_mem _ h)
  have hown : s.vm.findClass "RuleNetwork$Analysis" = some m.cls := findClass_of_methodNamed B.named
  have hlocks := B.notSynchronized
  have C0 : z_kx p s m _ meth c "RuleNetwork$Analysis" zb_A_countStates 3 (some .int) := ⟨hx, hb, hr, hml, hown, ht, hlocks⟩
  subst hsz
  have hD := hD0.self (sz := s.heap.size)
  generalize hAe : va_A (zd_A cC cI cJ h_A h_A_low h_A_high h_A_homes h_A_leasts A_genes A_count A_low A_high A_homes A_leasts A_states A_lowLeasts A_highLeasts) s.heap.size = A at hD hX ⊢
  have hA : ∀ q : Nat, s.heap.size ≤ q → A q := fun q h => by rw [← hAe]; exact Or.inr h
  have hS : va_S A s.heap s.heap [] := va_S.rf
  have hl := lv_entry ([.ref h_A, .int x1]) (n := 3) (Nat.le_of_ble_eq_true rfl)
  rw [lg_entry_eq]
  generalize (lg_sl ([.ref h_A, .int x1]) ++ List.replicate (3 - (lg_sl ([.ref h_A, .int x1])).length) Slot.unset).toArray = ls at hl ⊢
  have hl : lv_has ls 3 [(0, .ref h_A), (1, .int x1)] := hl
  rw [zf_A_countStates] at h
  refine lv_aload_n hx hb ze_A_countStates_0 rfl (lv_at hl 0 rfl) ?_
  refine va_get (D := (dC, dI)) (ci := 2) (v := .ref h_A_leasts) (C := "RuleNetwork$Analysis") (T := zT_A) (N := 9) hx hb ht zin_A hown hK hP 0 rfl rfl 5 (by decide) (ht _ zw_159) (fun _ h9 => h9) rfl ze_A_countStates_1 ?_
  refine lv_iload_n hx hb ze_A_countStates_4 rfl (lv_at hl 1 rfl) ?_
  obtain ⟨g1, h⟩ := z_gd_some h
  refine va_iald hx hb hK hP 4 1 rfl rfl g1 ze_A_countStates_5 ?_
  refine lv_istore_n (lv' := [(2, .int (A_leasts x1.toNatClampNeg)), (0, .ref h_A), (1, .int x1)]) hx hb ze_A_countStates_6 rfl hl (by decide) rfl (fun ls hl => ?_)
  refine lv_aload_n hx hb ze_A_countStates_7 rfl (lv_at hl 1 rfl) ?_
  refine va_get (D := (dC, dI)) (ci := 2) (v := .ref h_A_low) (C := "RuleNetwork$Analysis") (T := zT_A) (N := 9) hx hb ht zin_A hown hK hP 0 rfl rfl 2 (by decide) (ht _ zw_153) (fun _ h9 => h9) rfl ze_A_countStates_8 ?_
  refine lv_iload_n hx hb ze_A_countStates_11 rfl (lv_at hl 0 rfl) ?_
  obtain ⟨g2, h⟩ := z_gd_some h
  refine va_lald hx hb hK hP 1 2 rfl rfl g2 ze_A_countStates_12 ?_
  obtain ⟨r3, q3, h⟩ := z_b1_some h
  have hPc := hP.sub (ws' := (zd_ cC cI cJ)) [] rfl
  have hDc := hD.sub (ws' := (zd_ cC cI cJ)) [] (by decide) rfl
  have hFc := va_free (wc := (zd_ cC cI cJ)) hD hS hA [] rfl
  -- CALL JL_bitCount
  refine va_calli (va_runS (As := [.long (A_low (A_leasts x1.toNatClampNeg).toNatClampNeg)]) (rest := []) ⟨hx, hb, hml, hown, ht⟩ (zc_JL_bitCount l dC dI cC cI cJ tp s.heap.size (A_low (A_leasts x1.toNatClampNeg).toNatClampNeg) r3 q3) (va_cwS 1 ht (z_gS zw_450 zw_451 zw_63 zw_452) rfl rfl rfl zh_JL_bitCount ⟨Nat.le_of_ble_eq_true rfl, Nat.le_of_ble_eq_true rfl⟩) ⟨fun a U g mk q => by obtain ⟨z0, z1, zP, zK, zD, zX⟩ := q; exact ⟨z0, z1, zP, va_K.moved (u := U) (U := U.calling g mk a) (Vm.Alike.refl U.vm) zK, zD, z_X.same rfl rfl zX⟩, fun U hU hW => ⟨rfl, by rw [hU], by rw [hU]; exact hPc, va_K.moved hW.alike hK, hDc.weaken (fun _ _ _ _ => trivial), hX.warm hS hFc hU hW⟩⟩ rfl rfl hl.1 rfl (lv_room (Nat.le_of_ble_eq_true rfl)) ze_A_countStates_13 ⟨Nat.zero_le _, Nat.zero_le _⟩) hS (fun q _ h => hFc q h) hFc (fun rv u t H1 locs ht9 hvm hw hB hz1 hk1 hS => ?_)
  obtain ⟨hP1, hD1⟩ := hB
  rw [ht9] at hP1
  have hw' : r3 = rv := Eq.symm hw
  subst hw'
  obtain ⟨hP, hD⟩ := va_join (wr := [(h_A, .inr (2, [.int A_genes, .int A_count, .ref h_A_low, .ref h_A_high, .ref h_A_homes, .ref h_A_leasts, .int A_states, .long A_lowLeasts, .long A_highLeasts])), (h_A_low, .inl (cJ, 128, .inr (.inl A_low))), (h_A_high, .inl (cJ, 128, .inr (.inl A_high))), (h_A_homes, .inl (cI, 128, .inl A_homes)), (h_A_leasts, .inl (cI, 128, .inl A_leasts))]) (w1 := (zd_ cC cI cJ)) hP hD [] [0, 1, 2, 3, 4] rfl rfl (by decide) (by decide) hk1 hFc hP1 hD1
  generalize H1 = H at hP hS ⊢
  replace hP := hP.sub (ws' := (zd_A cC cI cJ h_A h_A_low h_A_high h_A_homes h_A_leasts A_genes A_count A_low A_high A_homes A_leasts A_states A_lowLeasts A_highLeasts)) [0, 1, 2, 3, 4] rfl
  replace hD := hD.sub (ws' := (zd_A cC cI cJ h_A h_A_low h_A_high h_A_homes h_A_leasts A_genes A_count A_low A_high A_homes A_leasts A_states A_lowLeasts A_highLeasts)) [0, 1, 2, 3, 4] (by decide) rfl
  refine lv_aload_n hx hb ze_A_countStates_16 rfl (lv_at hl 1 rfl) ?_
  refine va_get (D := (dC, dI)) (ci := 2) (v := .ref h_A_high) (C := "RuleNetwork$Analysis") (T := zT_A) (N := 9) hx hb ht zin_A hown hK hP 0 rfl rfl 3 (by decide) (ht _ zw_155) (fun _ h9 => h9) rfl ze_A_countStates_17 ?_
  refine lv_iload_n hx hb ze_A_countStates_20 rfl (lv_at hl 0 rfl) ?_
  obtain ⟨g4, h⟩ := z_gd_some h
  refine va_lald hx hb hK hP 2 2 rfl rfl g4 ze_A_countStates_21 ?_
  obtain ⟨r5, q5, h⟩ := z_b1_some h
  have hPc := hP.sub (ws' := (zd_ cC cI cJ)) [] rfl
  have hDc := hD.sub (ws' := (zd_ cC cI cJ)) [] (by decide) rfl
  have hFc := va_free (wc := (zd_ cC cI cJ)) hD hS hA [] rfl
  -- CALL JL_bitCount
  refine va_calli (va_runS (As := [.long (A_high (A_leasts x1.toNatClampNeg).toNatClampNeg)]) (rest := [.int r3]) ⟨hx, hb, hml, hown, ht⟩ (zc_JL_bitCount l dC dI cC cI cJ tp H.size (A_high (A_leasts x1.toNatClampNeg).toNatClampNeg) r5 q5) (va_cwS 1 ht (z_gS zw_450 zw_451 zw_63 zw_452) rfl rfl rfl zh_JL_bitCount ⟨Nat.le_of_ble_eq_true rfl, Nat.le_of_ble_eq_true rfl⟩) ⟨fun a U g mk q => by obtain ⟨z0, z1, zP, zK, zD, zX⟩ := q; exact ⟨z0, z1, zP, va_K.moved (u := U) (U := U.calling g mk a) (Vm.Alike.refl U.vm) zK, zD, z_X.same rfl rfl zX⟩, fun U hU hW => ⟨rfl, by rw [hU], by rw [hU]; exact hPc, va_K.moved hW.alike hK, hDc.weaken (fun _ _ _ _ => trivial), hX.warm hS hFc hU hW⟩⟩ rfl rfl hl.1 rfl (lv_room (Nat.le_of_ble_eq_true rfl)) ze_A_countStates_22 ⟨Nat.zero_le _, Nat.zero_le _⟩) hS (fun q _ h => hFc q h) hFc (fun rv u t H1 locs ht9 hvm hw hB hz1 hk1 hS => ?_)
  obtain ⟨hP1, hD1⟩ := hB
  rw [ht9] at hP1
  have hw' : r5 = rv := Eq.symm hw
  subst hw'
  obtain ⟨hP, hD⟩ := va_join (wr := [(h_A, .inr (2, [.int A_genes, .int A_count, .ref h_A_low, .ref h_A_high, .ref h_A_homes, .ref h_A_leasts, .int A_states, .long A_lowLeasts, .long A_highLeasts])), (h_A_low, .inl (cJ, 128, .inr (.inl A_low))), (h_A_high, .inl (cJ, 128, .inr (.inl A_high))), (h_A_homes, .inl (cI, 128, .inl A_homes)), (h_A_leasts, .inl (cI, 128, .inl A_leasts))]) (w1 := (zd_ cC cI cJ)) hP hD [] [0, 1, 2, 3, 4] rfl rfl (by decide) (by decide) hk1 hFc hP1 hD1
  generalize H1 = H at hP hS ⊢
  replace hP := hP.sub (ws' := (zd_A cC cI cJ h_A h_A_low h_A_high h_A_homes h_A_leasts A_genes A_count A_low A_high A_homes A_leasts A_states A_lowLeasts A_highLeasts)) [0, 1, 2, 3, 4] rfl
  replace hD := hD.sub (ws' := (zd_A cC cI cJ h_A h_A_low h_A_high h_A_homes h_A_leasts A_genes A_count A_low A_high A_homes A_leasts A_states A_lowLeasts A_highLeasts)) [0, 1, 2, 3, 4] (by decide) rfl
  refine lv_iadd hx hb ze_A_countStates_25 ?_
  cases h
  exact W.iret hx hb hr (fun t ht9 hW => ⟨⟨_, (), rfl, rfl, by rw [ht9]; exact hP, hD⟩, hS.F ht9⟩) hS.2.2 ze_A_countStates_26
set_option maxHeartbeats 4000000 in
set_option maxRecDepth 100000 in
theorem zc_A_hasState (l : Launch) (dC : Nat → ClassId) (dI : Nat → Nat → Nat) (cC : ClassId) (cI : ClassId) (cJ : ClassId) (tp : Nat) (h_A : Nat) (h_A_low : Nat) (h_A_high : Nat) (h_A_homes : Nat) (h_A_leasts : Nat) (sz : Nat) (A_genes : Int32) (A_count : Int32) (A_low : Nat → Int64) (A_high : Nat → Int64) (A_homes : Nat → Int32) (A_leasts : Nat → Int32) (A_states : Int32) (A_lowLeasts : Int64) (A_highLeasts : Int64) (x1 : Int32) (o_r : Int32) (h : zf_A_hasState x1 A_states = some (o_r)) : Met l zy_A_hasState zs_A_hasState (rm_A_hasState) (va_Pc [.ref h_A, .int x1] (fun U => U.heap.size = sz ∧ va_P (dC, dI) vwCl (zd_A cC cI cJ h_A h_A_low h_A_high h_A_homes h_A_leasts A_genes A_count A_low A_high A_homes A_leasts A_states A_lowLeasts A_highLeasts) U.heap ∧ va_K (dC, dI) vwCl (z_tys cC cI cJ) U ∧ va_D (fun _ => True) (zd_A cC cI cJ h_A h_A_low h_A_high h_A_homes h_A_leasts A_genes A_count A_low A_high A_homes A_leasts A_states A_lowLeasts A_highLeasts) ∧ z_X tp (va_A (zd_A cC cI cJ h_A h_A_low h_A_high h_A_homes h_A_leasts A_genes A_count A_low A_high A_homes A_leasts A_states A_lowLeasts A_highLeasts) sz) U)) (zq_A_hasState dC dI cC cI cJ h_A h_A_low h_A_high h_A_homes h_A_leasts A_genes A_count A_low A_high A_homes A_leasts A_states A_lowLeasts A_highLeasts o_r (va_A (zd_A cC cI cJ h_A h_A_low h_A_high h_A_homes h_A_leasts A_genes A_count A_low A_high A_homes A_leasts A_states A_lowLeasts A_highLeasts) sz)) 0 0 (va_A (zd_A cC cI cJ h_A h_A_low h_A_high h_A_homes h_A_leasts A_genes A_count A_low A_high A_homes A_leasts A_states A_lowLeasts A_highLeasts) sz) := by
  refine Met.ofW (cc := zb_A_hasState) (maxL := 2) (ret := (some .boolean)) (by decide) rfl ?_
  intro p e s m args below meth c s₁ B hml hv
  obtain ⟨rfl, hsz, hP, hK, hD0, hX⟩ := hv
  have hx := B.exec
  have hb := B.bytes
  have hr := B.returns
  have hts := atoms_spec (ws := zs_A_hasState) B.pre
  have ht : ∀ w ∈ z_W, w.before _ s = true := fun w h => hts w (List.mem_cons_of_mem _ h)
  have hown : s.vm.findClass "RuleNetwork$Analysis" = some m.cls := findClass_of_methodNamed B.named
  have hlocks := B.notSynchronized
  have C0 : z_kx p s m _ meth c "RuleNetwork$Analysis" zb_A_hasState 2 (some .boolean) := ⟨hx, hb, hr, hml, hown, ht, hlocks⟩
  subst hsz
  have hD := hD0.self (sz := s.heap.size)
  generalize hAe : va_A (zd_A cC cI cJ h_A h_A_low h_A_high h_A_homes h_A_leasts A_genes A_count A_low A_high A_homes A_leasts A_states A_lowLeasts A_highLeasts) s.heap.size = A at hD hX ⊢
  have hA : ∀ q : Nat, s.heap.size ≤ q → A q := fun q h => by rw [← hAe]; exact Or.inr h
  have hS : va_S A s.heap s.heap [] := va_S.rf
  have hl := lv_entry ([.ref h_A, .int x1]) (n := 2) (Nat.le_of_ble_eq_true rfl)
  rw [lg_entry_eq]
  generalize (lg_sl ([.ref h_A, .int x1]) ++ List.replicate (2 - (lg_sl ([.ref h_A, .int x1])).length) Slot.unset).toArray = ls at hl ⊢
  have hl : lv_has ls 2 [(0, .ref h_A), (1, .int x1)] := hl
  rw [zf_A_hasState] at h
  refine lv_iload_n hx hb ze_A_hasState_0 rfl (lv_at hl 1 rfl) ?_
  refine lv_if_lt (tgt := 16) hx hb ze_A_hasState_1 (by decide) (fun c1 => ?_) (fun c1 => ?_)
  · replace h := z_it_t c1 h
    refine lv_iconst (v := (0 : Int32)) hx hb ze_A_hasState_16 (by decide) ?_
    obtain ⟨hn, h⟩ := z_gb_some h
    cases h
    exact W.zret hx hb hr hn (fun t ht9 hW => ⟨⟨_, (), rfl, rfl, by rw [ht9]; exact hP, hD⟩, hS.F ht9⟩) hS.2.2 ze_A_hasState_17
  · replace h := z_it_f c1 h
    refine lv_iload_n hx hb ze_A_hasState_4 rfl (lv_at hl 1 rfl) ?_
    refine lv_aload_n hx hb ze_A_hasState_5 rfl (lv_at hl 0 rfl) ?_
    refine va_get (D := (dC, dI)) (ci := 2) (v := .int A_states) (C := "RuleNetwork$Analysis") (T := zT_A) (N := 9) hx hb ht zin_A hown hK hP 0 rfl rfl 6 (by decide) (ht _ zw_161) (fun _ h9 => h9) rfl ze_A_hasState_6 ?_
    refine lv_icmp_ge (tgt := 16) hx hb ze_A_hasState_9 (by decide) (fun c2 => ?_) (fun c2 => ?_)
    · replace h := z_it_t c2 h
      refine lv_iconst (v := (0 : Int32)) hx hb ze_A_hasState_16 (by decide) ?_
      obtain ⟨hn, h⟩ := z_gb_some h
      cases h
      exact W.zret hx hb hr hn (fun t ht9 hW => ⟨⟨_, (), rfl, rfl, by rw [ht9]; exact hP, hD⟩, hS.F ht9⟩) hS.2.2 ze_A_hasState_17
    · replace h := z_it_f c2 h
      refine lv_iconst (v := (1 : Int32)) hx hb ze_A_hasState_12 (by decide) ?_
      refine lv_goto (tgt := 17) hx hb ze_A_hasState_13 (by decide) ?_
      obtain ⟨hn, h⟩ := z_gb_some h
      cases h
      exact W.zret hx hb hr hn (fun t ht9 hW => ⟨⟨_, (), rfl, rfl, by rw [ht9]; exact hP, hD⟩, hS.F ht9⟩) hS.2.2 ze_A_hasState_17
set_option maxHeartbeats 4000000 in
set_option maxRecDepth 100000 in
theorem zk_A_countLeading_4 {p : Program} {l : Launch} {e : Env} {s : State} {m : MethodId} {args : Array Value} {below : List Frame} {meth : Method} {c : Code} {dC : Nat → ClassId} {dI : Nat → Nat → Nat} {cC cI cJ : ClassId} {A : Nat → Prop} {tp : Nat} {h_A h_A_low h_A_high h_A_homes h_A_leasts : Nat} {A_genes : Int32} {A_count : Int32} {A_homes : Nat → Int32} {A_lowLeasts : Int64} {A_highLeasts : Int64} {o_r : Int32} (C0 : z_kx p s m args meth c "RuleNetwork$Analysis" zb_A_countLeading 4 (some .int)) (hK : va_K (dC, dI) vwCl (z_tys cC cI cJ) s) (hA : ∀ q : Nat, s.heap.size ≤ q → A q) (hX : z_X tp A s) :
    ∀ n : Nat, ∀ (x1 : Int32) (x2 : Int32) (x3 : Int32) (A_low : Nat → Int64) (A_high : Nat → Int64) (A_leasts : Nat → Int32) (A_states : Int32) (H : Heap) (locs : List Loc) (ls : Array Slot), va_P (dC, dI) vwCl (zd_A cC cI cJ h_A h_A_low h_A_high h_A_homes h_A_leasts A_genes A_count A_low A_high A_homes A_leasts A_states A_lowLeasts A_highLeasts) H → va_D A (zd_A cC cI cJ h_A h_A_low h_A_high h_A_homes h_A_leasts A_genes A_count A_low A_high A_homes A_leasts A_states A_lowLeasts A_highLeasts) → va_S A s.heap H locs → lv_has ls 4 [(0, .ref h_A), (1, .int x1), (2, .int x2), (3, .int x3)] → zf_A_countLeading_4 n x1 x2 x3 A_low A_high A_leasts A_states = some (o_r) → W p l e (headSpec zs_A_countLeading rm_A_countLeading).room s m args below meth c H locs 0 0 (MQ below (zq_A_countLeading dC dI cC cI cJ h_A h_A_low h_A_high h_A_homes h_A_leasts A_genes A_count A_low A_high A_homes A_leasts A_states A_lowLeasts A_highLeasts o_r A) args s 0 0 A) (F0 m 4 ls []) := by
  obtain ⟨hx, hb, hr, hml, hown, ht, hlocks⟩ := id C0
  intro n
  induction n with
  | zero =>
    intro x1 x2 x3 A_low A_high A_leasts A_states H locs ls hP hD hS hl h
    cases (show none = some _ from h)
  | succ n ih =>
    intro x1 x2 x3 A_low A_high A_leasts A_states H locs ls hP hD hS hl h
    rw [zf_A_countLeading_4] at h
    refine lv_iload_n hx hb ze_A_countLeading_4 rfl (lv_at hl 3 rfl) ?_
    refine lv_aload_n hx hb ze_A_countLeading_5 rfl (lv_at hl 0 rfl) ?_
    refine va_get (D := (dC, dI)) (ci := 2) (v := .int A_states) (C := "RuleNetwork$Analysis") (T := zT_A) (N := 9) hx hb ht zin_A hown hK hP 0 rfl rfl 6 (by decide) (ht _ zw_161) (fun _ h9 => h9) rfl ze_A_countLeading_6 ?_
    refine lv_icmp_ge (tgt := 35) hx hb ze_A_countLeading_9 (by decide) (fun c1 => ?_) (fun c1 => ?_)
    · replace h := z_it_t c1 h
      refine lv_iload_n hx hb ze_A_countLeading_35 rfl (lv_at hl 2 rfl) ?_
      cases h
      exact W.iret hx hb hr (fun t ht9 hW => ⟨⟨_, (), rfl, rfl, by rw [ht9]; exact hP, hD⟩, hS.F ht9⟩) hS.2.2 ze_A_countLeading_36
    · replace h := z_it_f c1 h
      refine lv_aload_n hx hb ze_A_countLeading_12 rfl (lv_at hl 0 rfl) ?_
      refine lv_iload_n hx hb ze_A_countLeading_13 rfl (lv_at hl 3 rfl) ?_
      refine lv_aload_n hx hb ze_A_countLeading_14 rfl (lv_at hl 0 rfl) ?_
      refine va_get (D := (dC, dI)) (ci := 2) (v := .ref h_A_leasts) (C := "RuleNetwork$Analysis") (T := zT_A) (N := 9) hx hb ht zin_A hown hK hP 0 rfl rfl 5 (by decide) (ht _ zw_159) (fun _ h9 => h9) rfl ze_A_countLeading_15 ?_
      refine lv_iload_n hx hb ze_A_countLeading_18 rfl (lv_at hl 1 rfl) ?_
      obtain ⟨g2, h⟩ := z_gd_some h
      refine va_iald hx hb hK hP 4 1 rfl rfl g2 ze_A_countLeading_19 ?_
      obtain ⟨r3, q3, h⟩ := z_b1_some h
      have hPc := hP.sub (ws' := (zd_A cC cI cJ h_A h_A_low h_A_high h_A_homes h_A_leasts A_genes A_count A_low A_high A_homes A_leasts A_states A_lowLeasts A_highLeasts)) [0, 1, 2, 3, 4] rfl
      have hDc := hD.sub (ws' := (zd_A cC cI cJ h_A h_A_low h_A_high h_A_homes h_A_leasts A_genes A_count A_low A_high A_homes A_leasts A_states A_lowLeasts A_highLeasts)) [0, 1, 2, 3, 4] (by decide) rfl
      have hFc := va_free (wc := (zd_A cC cI cJ h_A h_A_low h_A_high h_A_homes h_A_leasts A_genes A_count A_low A_high A_homes A_leasts A_states A_lowLeasts A_highLeasts)) hD hS hA [0, 1, 2, 3, 4] rfl
      -- CALL A_leads
      refine va_calli (va_runV (As := [.int x3, .int (A_leasts x1.toNatClampNeg)]) (rest := []) ⟨hx, hb, hml, hown, ht⟩ (zc_A_leads l dC dI cC cI cJ tp h_A h_A_low h_A_high h_A_homes h_A_leasts H.size A_genes A_count A_low A_high A_homes A_leasts A_states A_lowLeasts A_highLeasts x3 (A_leasts x1.toNatClampNeg) r3 q3) (cwV 2 ht (z_gV zw_420 zw_422 zw_16 zw_58 zw_423) rfl rfl rfl ⟨rfl, zh_A_leads⟩ ⟨Nat.le_of_ble_eq_true rfl, Nat.le_of_ble_eq_true rfl⟩) ⟨fun a U g mk q => by obtain ⟨z0, z1, zP, zK, zD, zX⟩ := q; exact ⟨z0, z1, zP, va_K.moved (u := U) (U := U.calling g mk a) (Vm.Alike.refl U.vm) zK, zD, z_X.same rfl rfl zX⟩, va_recv hK hP (ci := 2) (q0 := 0) rfl rfl, fun U hU hW => ⟨rfl, by rw [hU], by rw [hU]; exact hPc, va_K.moved hW.alike hK, hDc.weaken (fun _ _ _ _ => trivial), hX.warm hS hFc hU hW⟩⟩ rfl rfl hl.1 rfl (lv_room (Nat.le_of_ble_eq_true rfl)) ze_A_countLeading_20 ⟨Nat.zero_le _, Nat.zero_le _⟩) hS (fun q _ h => hFc q h) hFc (fun rv u t H1 locs ht9 hvm hw hB hz1 hk1 hS => ?_)
      obtain ⟨hP1, hD1⟩ := hB
      rw [ht9] at hP1
      have hw' : r3 = rv := Eq.symm hw
      subst hw'
      obtain ⟨hP, hD⟩ := va_join (wr := []) (w1 := (zd_A cC cI cJ h_A h_A_low h_A_high h_A_homes h_A_leasts A_genes A_count A_low A_high A_homes A_leasts A_states A_lowLeasts A_highLeasts)) hP hD [0, 1, 2, 3, 4] [] rfl rfl (by decide) (by decide) hk1 hFc hP1 hD1
      generalize H1 = H at hP hS ⊢
      replace hP := hP.sub (ws' := (zd_A cC cI cJ h_A h_A_low h_A_high h_A_homes h_A_leasts A_genes A_count A_low A_high A_homes A_leasts A_states A_lowLeasts A_highLeasts)) [0, 1, 2, 3, 4] rfl
      replace hD := hD.sub (ws' := (zd_A cC cI cJ h_A h_A_low h_A_high h_A_homes h_A_leasts A_genes A_count A_low A_high A_homes A_leasts A_states A_lowLeasts A_highLeasts)) [0, 1, 2, 3, 4] (by decide) rfl
      refine lv_if_eq (tgt := 29) hx hb ze_A_countLeading_23 (by decide) (fun c4 => ?_) (fun c4 => ?_)
      · replace h := z_it_t c4 h
        refine lv_iinc (v := (x3 + (1 : Int32))) (lv' := [(3, .int (x3 + (1 : Int32))), (0, .ref h_A), (1, .int x1), (2, .int x2)]) hx hb ze_A_countLeading_29 hl (k := 3) rfl rfl (by decide) rfl (fun ls hl => ?_)
        refine lv_goto (tgt := 4) hx hb ze_A_countLeading_32 (by decide) ?_
        exact ih x1 x2 (x3 + (1 : Int32)) A_low A_high A_leasts A_states _ _ _ hP hD hS (lv_sub hl [1, 2, 3, 0] rfl) h
      · replace h := z_it_f c4 h
        refine lv_iinc (v := (x2 + (1 : Int32))) (lv' := [(2, .int (x2 + (1 : Int32))), (0, .ref h_A), (1, .int x1), (3, .int x3)]) hx hb ze_A_countLeading_26 hl (k := 2) rfl rfl (by decide) rfl (fun ls hl => ?_)
        refine lv_iinc (v := (x3 + (1 : Int32))) (lv' := [(3, .int (x3 + (1 : Int32))), (2, .int (x2 + (1 : Int32))), (0, .ref h_A), (1, .int x1)]) hx hb ze_A_countLeading_29 hl (k := 3) rfl rfl (by decide) rfl (fun ls hl => ?_)
        refine lv_goto (tgt := 4) hx hb ze_A_countLeading_32 (by decide) ?_
        exact ih x1 (x2 + (1 : Int32)) (x3 + (1 : Int32)) A_low A_high A_leasts A_states _ _ _ hP hD hS (lv_sub hl [2, 3, 1, 0] rfl) h
set_option maxHeartbeats 4000000 in
set_option maxRecDepth 100000 in
theorem zc_A_countLeading (l : Launch) (dC : Nat → ClassId) (dI : Nat → Nat → Nat) (cC : ClassId) (cI : ClassId) (cJ : ClassId) (tp : Nat) (h_A : Nat) (h_A_low : Nat) (h_A_high : Nat) (h_A_homes : Nat) (h_A_leasts : Nat) (sz : Nat) (A_genes : Int32) (A_count : Int32) (A_low : Nat → Int64) (A_high : Nat → Int64) (A_homes : Nat → Int32) (A_leasts : Nat → Int32) (A_states : Int32) (A_lowLeasts : Int64) (A_highLeasts : Int64) (x1 : Int32) (o_r : Int32) (h : zf_A_countLeading x1 A_low A_high A_leasts A_states = some (o_r)) : Met l zy_A_countLeading zs_A_countLeading (rm_A_countLeading) (va_Pc [.ref h_A, .int x1] (fun U => U.heap.size = sz ∧ va_P (dC, dI) vwCl (zd_A cC cI cJ h_A h_A_low h_A_high h_A_homes h_A_leasts A_genes A_count A_low A_high A_homes A_leasts A_states A_lowLeasts A_highLeasts) U.heap ∧ va_K (dC, dI) vwCl (z_tys cC cI cJ) U ∧ va_D (fun _ => True) (zd_A cC cI cJ h_A h_A_low h_A_high h_A_homes h_A_leasts A_genes A_count A_low A_high A_homes A_leasts A_states A_lowLeasts A_highLeasts) ∧ z_X tp (va_A (zd_A cC cI cJ h_A h_A_low h_A_high h_A_homes h_A_leasts A_genes A_count A_low A_high A_homes A_leasts A_states A_lowLeasts A_highLeasts) sz) U)) (zq_A_countLeading dC dI cC cI cJ h_A h_A_low h_A_high h_A_homes h_A_leasts A_genes A_count A_low A_high A_homes A_leasts A_states A_lowLeasts A_highLeasts o_r (va_A (zd_A cC cI cJ h_A h_A_low h_A_high h_A_homes h_A_leasts A_genes A_count A_low A_high A_homes A_leasts A_states A_lowLeasts A_highLeasts) sz)) 0 0 (va_A (zd_A cC cI cJ h_A h_A_low h_A_high h_A_homes h_A_leasts A_genes A_count A_low A_high A_homes A_leasts A_states A_lowLeasts A_highLeasts) sz) := by
  refine Met.ofW (cc := zb_A_countLeading) (maxL := 4) (ret := (some .int)) (by decide) rfl ?_
  intro p e s m args below meth c s₁ B hml hv
  obtain ⟨rfl, hsz, hP, hK, hD0, hX⟩ := hv
  have hx := B.exec
  have hb := B.bytes
  have hr := B.returns
  have hts := atoms_spec (ws := zs_A_countLeading) B.pre
  have ht : ∀ w ∈ z_W, w.before _ s = true := fun w h => hts w (List.mem_cons_of_mem _ h)
  have hown : s.vm.findClass "RuleNetwork$Analysis" = some m.cls := findClass_of_methodNamed B.named
  have hlocks := B.notSynchronized
  have C0 : z_kx p s m _ meth c "RuleNetwork$Analysis" zb_A_countLeading 4 (some .int) := ⟨hx, hb, hr, hml, hown, ht, hlocks⟩
  subst hsz
  have hD := hD0.self (sz := s.heap.size)
  generalize hAe : va_A (zd_A cC cI cJ h_A h_A_low h_A_high h_A_homes h_A_leasts A_genes A_count A_low A_high A_homes A_leasts A_states A_lowLeasts A_highLeasts) s.heap.size = A at hD hX ⊢
  have hA : ∀ q : Nat, s.heap.size ≤ q → A q := fun q h => by rw [← hAe]; exact Or.inr h
  have hS : va_S A s.heap s.heap [] := va_S.rf
  have hl := lv_entry ([.ref h_A, .int x1]) (n := 4) (Nat.le_of_ble_eq_true rfl)
  rw [lg_entry_eq]
  generalize (lg_sl ([.ref h_A, .int x1]) ++ List.replicate (4 - (lg_sl ([.ref h_A, .int x1])).length) Slot.unset).toArray = ls at hl ⊢
  have hl : lv_has ls 4 [(0, .ref h_A), (1, .int x1)] := hl
  rw [zf_A_countLeading] at h
  refine lv_iconst (v := (0 : Int32)) hx hb ze_A_countLeading_0 (by decide) ?_
  refine lv_istore_n (lv' := [(2, .int (0 : Int32)), (0, .ref h_A), (1, .int x1)]) hx hb ze_A_countLeading_1 rfl hl (by decide) rfl (fun ls hl => ?_)
  refine lv_iconst (v := (0 : Int32)) hx hb ze_A_countLeading_2 (by decide) ?_
  refine lv_istore_n (lv' := [(3, .int (0 : Int32)), (2, .int (0 : Int32)), (0, .ref h_A), (1, .int x1)]) hx hb ze_A_countLeading_3 rfl hl (by decide) rfl (fun ls hl => ?_)
  exact zk_A_countLeading_4 C0 hK hA hX z_FU x1 (0 : Int32) (0 : Int32) A_low A_high A_leasts A_states _ _ _ hP hD hS (lv_sub hl [2, 3, 1, 0] rfl) h
set_option maxHeartbeats 4000000 in
set_option maxRecDepth 100000 in
theorem zc_A_countAttractorsFrom (l : Launch) (dC : Nat → ClassId) (dI : Nat → Nat → Nat) (cC : ClassId) (cI : ClassId) (cJ : ClassId) (tp : Nat) (h_A : Nat) (h_A_low : Nat) (h_A_high : Nat) (h_A_homes : Nat) (h_A_leasts : Nat) (sz : Nat) (A_genes : Int32) (A_count : Int32) (A_low : Nat → Int64) (A_high : Nat → Int64) (A_homes : Nat → Int32) (A_leasts : Nat → Int32) (A_states : Int32) (A_lowLeasts : Int64) (A_highLeasts : Int64) (x1 : Int32) (o_r : Int32) (h : zf_A_countAttractorsFrom x1 A_low A_high A_lowLeasts A_highLeasts = some (o_r)) : Met l zy_A_countAttractorsFrom zs_A_countAttractorsFrom (rm_A_countAttractorsFrom) (va_Pc [.ref h_A, .int x1] (fun U => U.heap.size = sz ∧ va_P (dC, dI) vwCl (zd_A cC cI cJ h_A h_A_low h_A_high h_A_homes h_A_leasts A_genes A_count A_low A_high A_homes A_leasts A_states A_lowLeasts A_highLeasts) U.heap ∧ va_K (dC, dI) vwCl (z_tys cC cI cJ) U ∧ va_D (fun _ => True) (zd_A cC cI cJ h_A h_A_low h_A_high h_A_homes h_A_leasts A_genes A_count A_low A_high A_homes A_leasts A_states A_lowLeasts A_highLeasts) ∧ z_X tp (va_A (zd_A cC cI cJ h_A h_A_low h_A_high h_A_homes h_A_leasts A_genes A_count A_low A_high A_homes A_leasts A_states A_lowLeasts A_highLeasts) sz) U)) (zq_A_countAttractorsFrom dC dI cC cI cJ h_A h_A_low h_A_high h_A_homes h_A_leasts A_genes A_count A_low A_high A_homes A_leasts A_states A_lowLeasts A_highLeasts o_r (va_A (zd_A cC cI cJ h_A h_A_low h_A_high h_A_homes h_A_leasts A_genes A_count A_low A_high A_homes A_leasts A_states A_lowLeasts A_highLeasts) sz)) 0 0 (va_A (zd_A cC cI cJ h_A h_A_low h_A_high h_A_homes h_A_leasts A_genes A_count A_low A_high A_homes A_leasts A_states A_lowLeasts A_highLeasts) sz) := by
  refine Met.ofW (cc := zb_A_countAttractorsFrom) (maxL := 2) (ret := (some .int)) (by decide) rfl ?_
  intro p e s m args below meth c s₁ B hml hv
  obtain ⟨rfl, hsz, hP, hK, hD0, hX⟩ := hv
  have hx := B.exec
  have hb := B.bytes
  have hr := B.returns
  have hts := atoms_spec (ws := zs_A_countAttractorsFrom) B.pre
  have ht : ∀ w ∈ z_W, w.before _ s = true := fun w h => hts w (List.mem_cons_of_mem _ h)
  have hown : s.vm.findClass "RuleNetwork$Analysis" = some m.cls := findClass_of_methodNamed B.named
  have hlocks := B.notSynchronized
  have C0 : z_kx p s m _ meth c "RuleNetwork$Analysis" zb_A_countAttractorsFrom 2 (some .int) := ⟨hx, hb, hr, hml, hown, ht, hlocks⟩
  subst hsz
  have hD := hD0.self (sz := s.heap.size)
  generalize hAe : va_A (zd_A cC cI cJ h_A h_A_low h_A_high h_A_homes h_A_leasts A_genes A_count A_low A_high A_homes A_leasts A_states A_lowLeasts A_highLeasts) s.heap.size = A at hD hX ⊢
  have hA : ∀ q : Nat, s.heap.size ≤ q → A q := fun q h => by rw [← hAe]; exact Or.inr h
  have hS : va_S A s.heap s.heap [] := va_S.rf
  have hl := lv_entry ([.ref h_A, .int x1]) (n := 2) (Nat.le_of_ble_eq_true rfl)
  rw [lg_entry_eq]
  generalize (lg_sl ([.ref h_A, .int x1]) ++ List.replicate (2 - (lg_sl ([.ref h_A, .int x1])).length) Slot.unset).toArray = ls at hl ⊢
  have hl : lv_has ls 2 [(0, .ref h_A), (1, .int x1)] := hl
  rw [zf_A_countAttractorsFrom] at h
  refine lv_aload_n hx hb ze_A_countAttractorsFrom_0 rfl (lv_at hl 0 rfl) ?_
  refine va_get (D := (dC, dI)) (ci := 2) (v := .ref h_A_low) (C := "RuleNetwork$Analysis") (T := zT_A) (N := 9) hx hb ht zin_A hown hK hP 0 rfl rfl 2 (by decide) (ht _ zw_153) (fun _ h9 => h9) rfl ze_A_countAttractorsFrom_1 ?_
  refine lv_iload_n hx hb ze_A_countAttractorsFrom_4 rfl (lv_at hl 1 rfl) ?_
  obtain ⟨g1, h⟩ := z_gd_some h
  refine va_lald hx hb hK hP 1 2 rfl rfl g1 ze_A_countAttractorsFrom_5 ?_
  refine lv_aload_n hx hb ze_A_countAttractorsFrom_6 rfl (lv_at hl 0 rfl) ?_
  refine va_get (D := (dC, dI)) (ci := 2) (v := .long A_lowLeasts) (C := "RuleNetwork$Analysis") (T := zT_A) (N := 9) hx hb ht zin_A hown hK hP 0 rfl rfl 7 (by decide) (ht _ zw_162) (fun _ h9 => h9) rfl ze_A_countAttractorsFrom_7 ?_
  refine lv_land hx hb ze_A_countAttractorsFrom_10 ?_
  obtain ⟨r2, q2, h⟩ := z_b1_some h
  have hPc := hP.sub (ws' := (zd_ cC cI cJ)) [] rfl
  have hDc := hD.sub (ws' := (zd_ cC cI cJ)) [] (by decide) rfl
  have hFc := va_free (wc := (zd_ cC cI cJ)) hD hS hA [] rfl
  -- CALL JL_bitCount
  refine va_calli (va_runS (As := [.long ((A_low x1.toNatClampNeg) &&& A_lowLeasts)]) (rest := []) ⟨hx, hb, hml, hown, ht⟩ (zc_JL_bitCount l dC dI cC cI cJ tp s.heap.size ((A_low x1.toNatClampNeg) &&& A_lowLeasts) r2 q2) (va_cwS 1 ht (z_gS zw_450 zw_451 zw_63 zw_452) rfl rfl rfl zh_JL_bitCount ⟨Nat.le_of_ble_eq_true rfl, Nat.le_of_ble_eq_true rfl⟩) ⟨fun a U g mk q => by obtain ⟨z0, z1, zP, zK, zD, zX⟩ := q; exact ⟨z0, z1, zP, va_K.moved (u := U) (U := U.calling g mk a) (Vm.Alike.refl U.vm) zK, zD, z_X.same rfl rfl zX⟩, fun U hU hW => ⟨rfl, by rw [hU], by rw [hU]; exact hPc, va_K.moved hW.alike hK, hDc.weaken (fun _ _ _ _ => trivial), hX.warm hS hFc hU hW⟩⟩ rfl rfl hl.1 rfl (lv_room (Nat.le_of_ble_eq_true rfl)) ze_A_countAttractorsFrom_11 ⟨Nat.zero_le _, Nat.zero_le _⟩) hS (fun q _ h => hFc q h) hFc (fun rv u t H1 locs ht9 hvm hw hB hz1 hk1 hS => ?_)
  obtain ⟨hP1, hD1⟩ := hB
  rw [ht9] at hP1
  have hw' : r2 = rv := Eq.symm hw
  subst hw'
  obtain ⟨hP, hD⟩ := va_join (wr := [(h_A, .inr (2, [.int A_genes, .int A_count, .ref h_A_low, .ref h_A_high, .ref h_A_homes, .ref h_A_leasts, .int A_states, .long A_lowLeasts, .long A_highLeasts])), (h_A_low, .inl (cJ, 128, .inr (.inl A_low))), (h_A_high, .inl (cJ, 128, .inr (.inl A_high))), (h_A_homes, .inl (cI, 128, .inl A_homes)), (h_A_leasts, .inl (cI, 128, .inl A_leasts))]) (w1 := (zd_ cC cI cJ)) hP hD [] [0, 1, 2, 3, 4] rfl rfl (by decide) (by decide) hk1 hFc hP1 hD1
  generalize H1 = H at hP hS ⊢
  replace hP := hP.sub (ws' := (zd_A cC cI cJ h_A h_A_low h_A_high h_A_homes h_A_leasts A_genes A_count A_low A_high A_homes A_leasts A_states A_lowLeasts A_highLeasts)) [0, 1, 2, 3, 4] rfl
  replace hD := hD.sub (ws' := (zd_A cC cI cJ h_A h_A_low h_A_high h_A_homes h_A_leasts A_genes A_count A_low A_high A_homes A_leasts A_states A_lowLeasts A_highLeasts)) [0, 1, 2, 3, 4] (by decide) rfl
  refine lv_aload_n hx hb ze_A_countAttractorsFrom_14 rfl (lv_at hl 0 rfl) ?_
  refine va_get (D := (dC, dI)) (ci := 2) (v := .ref h_A_high) (C := "RuleNetwork$Analysis") (T := zT_A) (N := 9) hx hb ht zin_A hown hK hP 0 rfl rfl 3 (by decide) (ht _ zw_155) (fun _ h9 => h9) rfl ze_A_countAttractorsFrom_15 ?_
  refine lv_iload_n hx hb ze_A_countAttractorsFrom_18 rfl (lv_at hl 1 rfl) ?_
  obtain ⟨g3, h⟩ := z_gd_some h
  refine va_lald hx hb hK hP 2 2 rfl rfl g3 ze_A_countAttractorsFrom_19 ?_
  refine lv_aload_n hx hb ze_A_countAttractorsFrom_20 rfl (lv_at hl 0 rfl) ?_
  refine va_get (D := (dC, dI)) (ci := 2) (v := .long A_highLeasts) (C := "RuleNetwork$Analysis") (T := zT_A) (N := 9) hx hb ht zin_A hown hK hP 0 rfl rfl 8 (by decide) (ht _ zw_163) (fun _ h9 => h9) rfl ze_A_countAttractorsFrom_21 ?_
  refine lv_land hx hb ze_A_countAttractorsFrom_24 ?_
  obtain ⟨r4, q4, h⟩ := z_b1_some h
  have hPc := hP.sub (ws' := (zd_ cC cI cJ)) [] rfl
  have hDc := hD.sub (ws' := (zd_ cC cI cJ)) [] (by decide) rfl
  have hFc := va_free (wc := (zd_ cC cI cJ)) hD hS hA [] rfl
  -- CALL JL_bitCount
  refine va_calli (va_runS (As := [.long ((A_high x1.toNatClampNeg) &&& A_highLeasts)]) (rest := [.int r2]) ⟨hx, hb, hml, hown, ht⟩ (zc_JL_bitCount l dC dI cC cI cJ tp H.size ((A_high x1.toNatClampNeg) &&& A_highLeasts) r4 q4) (va_cwS 1 ht (z_gS zw_450 zw_451 zw_63 zw_452) rfl rfl rfl zh_JL_bitCount ⟨Nat.le_of_ble_eq_true rfl, Nat.le_of_ble_eq_true rfl⟩) ⟨fun a U g mk q => by obtain ⟨z0, z1, zP, zK, zD, zX⟩ := q; exact ⟨z0, z1, zP, va_K.moved (u := U) (U := U.calling g mk a) (Vm.Alike.refl U.vm) zK, zD, z_X.same rfl rfl zX⟩, fun U hU hW => ⟨rfl, by rw [hU], by rw [hU]; exact hPc, va_K.moved hW.alike hK, hDc.weaken (fun _ _ _ _ => trivial), hX.warm hS hFc hU hW⟩⟩ rfl rfl hl.1 rfl (lv_room (Nat.le_of_ble_eq_true rfl)) ze_A_countAttractorsFrom_25 ⟨Nat.zero_le _, Nat.zero_le _⟩) hS (fun q _ h => hFc q h) hFc (fun rv u t H1 locs ht9 hvm hw hB hz1 hk1 hS => ?_)
  obtain ⟨hP1, hD1⟩ := hB
  rw [ht9] at hP1
  have hw' : r4 = rv := Eq.symm hw
  subst hw'
  obtain ⟨hP, hD⟩ := va_join (wr := [(h_A, .inr (2, [.int A_genes, .int A_count, .ref h_A_low, .ref h_A_high, .ref h_A_homes, .ref h_A_leasts, .int A_states, .long A_lowLeasts, .long A_highLeasts])), (h_A_low, .inl (cJ, 128, .inr (.inl A_low))), (h_A_high, .inl (cJ, 128, .inr (.inl A_high))), (h_A_homes, .inl (cI, 128, .inl A_homes)), (h_A_leasts, .inl (cI, 128, .inl A_leasts))]) (w1 := (zd_ cC cI cJ)) hP hD [] [0, 1, 2, 3, 4] rfl rfl (by decide) (by decide) hk1 hFc hP1 hD1
  generalize H1 = H at hP hS ⊢
  replace hP := hP.sub (ws' := (zd_A cC cI cJ h_A h_A_low h_A_high h_A_homes h_A_leasts A_genes A_count A_low A_high A_homes A_leasts A_states A_lowLeasts A_highLeasts)) [0, 1, 2, 3, 4] rfl
  replace hD := hD.sub (ws' := (zd_A cC cI cJ h_A h_A_low h_A_high h_A_homes h_A_leasts A_genes A_count A_low A_high A_homes A_leasts A_states A_lowLeasts A_highLeasts)) [0, 1, 2, 3, 4] (by decide) rfl
  refine lv_iadd hx hb ze_A_countAttractorsFrom_28 ?_
  cases h
  exact W.iret hx hb hr (fun t ht9 hW => ⟨⟨_, (), rfl, rfl, by rw [ht9]; exact hP, hD⟩, hS.F ht9⟩) hS.2.2 ze_A_countAttractorsFrom_29
set_option maxHeartbeats 4000000 in
set_option maxRecDepth 100000 in
theorem zk_A_countLeadingOnly_4 {p : Program} {l : Launch} {e : Env} {s : State} {m : MethodId} {args : Array Value} {below : List Frame} {meth : Method} {c : Code} {dC : Nat → ClassId} {dI : Nat → Nat → Nat} {cC cI cJ : ClassId} {A : Nat → Prop} {tp : Nat} {h_A h_A_low h_A_high h_A_homes h_A_leasts : Nat} {A_genes : Int32} {A_count : Int32} {A_homes : Nat → Int32} {o_r : Int32} (C0 : z_kx p s m args meth c "RuleNetwork$Analysis" zb_A_countLeadingOnly 4 (some .int)) (hK : va_K (dC, dI) vwCl (z_tys cC cI cJ) s) (hA : ∀ q : Nat, s.heap.size ≤ q → A q) (hX : z_X tp A s) :
    ∀ n : Nat, ∀ (x1 : Int32) (x2 : Int32) (x3 : Int32) (A_low : Nat → Int64) (A_high : Nat → Int64) (A_leasts : Nat → Int32) (A_states : Int32) (A_lowLeasts : Int64) (A_highLeasts : Int64) (H : Heap) (locs : List Loc) (ls : Array Slot), va_P (dC, dI) vwCl (zd_A cC cI cJ h_A h_A_low h_A_high h_A_homes h_A_leasts A_genes A_count A_low A_high A_homes A_leasts A_states A_lowLeasts A_highLeasts) H → va_D A (zd_A cC cI cJ h_A h_A_low h_A_high h_A_homes h_A_leasts A_genes A_count A_low A_high A_homes A_leasts A_states A_lowLeasts A_highLeasts) → va_S A s.heap H locs → lv_has ls 4 [(0, .ref h_A), (1, .int x1), (2, .int x2), (3, .int x3)] → zf_A_countLeadingOnly_4 n x1 x2 x3 A_low A_high A_leasts A_states A_lowLeasts A_highLeasts = some (o_r) → W p l e (headSpec zs_A_countLeadingOnly rm_A_countLeadingOnly).room s m args below meth c H locs 0 0 (MQ below (zq_A_countLeadingOnly dC dI cC cI cJ h_A h_A_low h_A_high h_A_homes h_A_leasts A_genes A_count A_low A_high A_homes A_leasts A_states A_lowLeasts A_highLeasts o_r A) args s 0 0 A) (F0 m 4 ls []) := by
  obtain ⟨hx, hb, hr, hml, hown, ht, hlocks⟩ := id C0
  intro n
  induction n with
  | zero =>
    intro x1 x2 x3 A_low A_high A_leasts A_states A_lowLeasts A_highLeasts H locs ls hP hD hS hl h
    cases (show none = some _ from h)
  | succ n ih =>
    intro x1 x2 x3 A_low A_high A_leasts A_states A_lowLeasts A_highLeasts H locs ls hP hD hS hl h
    rw [zf_A_countLeadingOnly_4] at h
    refine lv_iload_n hx hb ze_A_countLeadingOnly_4 rfl (lv_at hl 3 rfl) ?_
    refine lv_aload_n hx hb ze_A_countLeadingOnly_5 rfl (lv_at hl 0 rfl) ?_
    refine va_get (D := (dC, dI)) (ci := 2) (v := .int A_states) (C := "RuleNetwork$Analysis") (T := zT_A) (N := 9) hx hb ht zin_A hown hK hP 0 rfl rfl 6 (by decide) (ht _ zw_161) (fun _ h9 => h9) rfl ze_A_countLeadingOnly_6 ?_
    refine lv_icmp_ge (tgt := 44) hx hb ze_A_countLeadingOnly_9 (by decide) (fun c1 => ?_) (fun c1 => ?_)
    · replace h := z_it_t c1 h
      refine lv_iload_n hx hb ze_A_countLeadingOnly_44 rfl (lv_at hl 2 rfl) ?_
      cases h
      exact W.iret hx hb hr (fun t ht9 hW => ⟨⟨_, (), rfl, rfl, by rw [ht9]; exact hP, hD⟩, hS.F ht9⟩) hS.2.2 ze_A_countLeadingOnly_45
    · replace h := z_it_f c1 h
      refine lv_aload_n hx hb ze_A_countLeadingOnly_12 rfl (lv_at hl 0 rfl) ?_
      refine lv_iload_n hx hb ze_A_countLeadingOnly_13 rfl (lv_at hl 3 rfl) ?_
      refine lv_aload_n hx hb ze_A_countLeadingOnly_14 rfl (lv_at hl 0 rfl) ?_
      refine va_get (D := (dC, dI)) (ci := 2) (v := .ref h_A_leasts) (C := "RuleNetwork$Analysis") (T := zT_A) (N := 9) hx hb ht zin_A hown hK hP 0 rfl rfl 5 (by decide) (ht _ zw_159) (fun _ h9 => h9) rfl ze_A_countLeadingOnly_15 ?_
      refine lv_iload_n hx hb ze_A_countLeadingOnly_18 rfl (lv_at hl 1 rfl) ?_
      obtain ⟨g2, h⟩ := z_gd_some h
      refine va_iald hx hb hK hP 4 1 rfl rfl g2 ze_A_countLeadingOnly_19 ?_
      obtain ⟨r3, q3, h⟩ := z_b1_some h
      have hPc := hP.sub (ws' := (zd_A cC cI cJ h_A h_A_low h_A_high h_A_homes h_A_leasts A_genes A_count A_low A_high A_homes A_leasts A_states A_lowLeasts A_highLeasts)) [0, 1, 2, 3, 4] rfl
      have hDc := hD.sub (ws' := (zd_A cC cI cJ h_A h_A_low h_A_high h_A_homes h_A_leasts A_genes A_count A_low A_high A_homes A_leasts A_states A_lowLeasts A_highLeasts)) [0, 1, 2, 3, 4] (by decide) rfl
      have hFc := va_free (wc := (zd_A cC cI cJ h_A h_A_low h_A_high h_A_homes h_A_leasts A_genes A_count A_low A_high A_homes A_leasts A_states A_lowLeasts A_highLeasts)) hD hS hA [0, 1, 2, 3, 4] rfl
      -- CALL A_leads
      refine va_calli (va_runV (As := [.int x3, .int (A_leasts x1.toNatClampNeg)]) (rest := []) ⟨hx, hb, hml, hown, ht⟩ (zc_A_leads l dC dI cC cI cJ tp h_A h_A_low h_A_high h_A_homes h_A_leasts H.size A_genes A_count A_low A_high A_homes A_leasts A_states A_lowLeasts A_highLeasts x3 (A_leasts x1.toNatClampNeg) r3 q3) (cwV 2 ht (z_gV zw_420 zw_422 zw_16 zw_58 zw_423) rfl rfl rfl ⟨rfl, zh_A_leads⟩ ⟨Nat.le_of_ble_eq_true rfl, Nat.le_of_ble_eq_true rfl⟩) ⟨fun a U g mk q => by obtain ⟨z0, z1, zP, zK, zD, zX⟩ := q; exact ⟨z0, z1, zP, va_K.moved (u := U) (U := U.calling g mk a) (Vm.Alike.refl U.vm) zK, zD, z_X.same rfl rfl zX⟩, va_recv hK hP (ci := 2) (q0 := 0) rfl rfl, fun U hU hW => ⟨rfl, by rw [hU], by rw [hU]; exact hPc, va_K.moved hW.alike hK, hDc.weaken (fun _ _ _ _ => trivial), hX.warm hS hFc hU hW⟩⟩ rfl rfl hl.1 rfl (lv_room (Nat.le_of_ble_eq_true rfl)) ze_A_countLeadingOnly_20 ⟨Nat.zero_le _, Nat.zero_le _⟩) hS (fun q _ h => hFc q h) hFc (fun rv u t H1 locs ht9 hvm hw hB hz1 hk1 hS => ?_)
      obtain ⟨hP1, hD1⟩ := hB
      rw [ht9] at hP1
      have hw' : r3 = rv := Eq.symm hw
      subst hw'
      obtain ⟨hP, hD⟩ := va_join (wr := []) (w1 := (zd_A cC cI cJ h_A h_A_low h_A_high h_A_homes h_A_leasts A_genes A_count A_low A_high A_homes A_leasts A_states A_lowLeasts A_highLeasts)) hP hD [0, 1, 2, 3, 4] [] rfl rfl (by decide) (by decide) hk1 hFc hP1 hD1
      generalize H1 = H at hP hS ⊢
      replace hP := hP.sub (ws' := (zd_A cC cI cJ h_A h_A_low h_A_high h_A_homes h_A_leasts A_genes A_count A_low A_high A_homes A_leasts A_states A_lowLeasts A_highLeasts)) [0, 1, 2, 3, 4] rfl
      replace hD := hD.sub (ws' := (zd_A cC cI cJ h_A h_A_low h_A_high h_A_homes h_A_leasts A_genes A_count A_low A_high A_homes A_leasts A_states A_lowLeasts A_highLeasts)) [0, 1, 2, 3, 4] (by decide) rfl
      refine lv_if_eq (tgt := 38) hx hb ze_A_countLeadingOnly_23 (by decide) (fun c4 => ?_) (fun c4 => ?_)
      · replace h := z_it_t c4 h
        refine lv_iinc (v := (x3 + (1 : Int32))) (lv' := [(3, .int (x3 + (1 : Int32))), (0, .ref h_A), (1, .int x1), (2, .int x2)]) hx hb ze_A_countLeadingOnly_38 hl (k := 3) rfl rfl (by decide) rfl (fun ls hl => ?_)
        refine lv_goto (tgt := 4) hx hb ze_A_countLeadingOnly_41 (by decide) ?_
        exact ih x1 x2 (x3 + (1 : Int32)) A_low A_high A_leasts A_states A_lowLeasts A_highLeasts _ _ _ hP hD hS (lv_sub hl [1, 2, 3, 0] rfl) h
      · replace h := z_it_f c4 h
        refine lv_aload_n hx hb ze_A_countLeadingOnly_26 rfl (lv_at hl 0 rfl) ?_
        refine lv_iload_n hx hb ze_A_countLeadingOnly_27 rfl (lv_at hl 3 rfl) ?_
        obtain ⟨r5, q5, h⟩ := z_b1_some h
        have hPc := hP.sub (ws' := (zd_A cC cI cJ h_A h_A_low h_A_high h_A_homes h_A_leasts A_genes A_count A_low A_high A_homes A_leasts A_states A_lowLeasts A_highLeasts)) [0, 1, 2, 3, 4] rfl
        have hDc := hD.sub (ws' := (zd_A cC cI cJ h_A h_A_low h_A_high h_A_homes h_A_leasts A_genes A_count A_low A_high A_homes A_leasts A_states A_lowLeasts A_highLeasts)) [0, 1, 2, 3, 4] (by decide) rfl
        have hFc := va_free (wc := (zd_A cC cI cJ h_A h_A_low h_A_high h_A_homes h_A_leasts A_genes A_count A_low A_high A_homes A_leasts A_states A_lowLeasts A_highLeasts)) hD hS hA [0, 1, 2, 3, 4] rfl
        -- CALL A_countAttractorsFrom
        refine va_calli (va_runV (As := [.int x3]) (rest := []) ⟨hx, hb, hml, hown, ht⟩ (zc_A_countAttractorsFrom l dC dI cC cI cJ tp h_A h_A_low h_A_high h_A_homes h_A_leasts H.size A_genes A_count A_low A_high A_homes A_leasts A_states A_lowLeasts A_highLeasts x3 r5 q5) (cwV 1 ht (z_gV zw_484 zw_486 zw_20 zw_58 zw_487) rfl rfl rfl ⟨rfl, zh_A_countAttractorsFrom⟩ ⟨Nat.le_of_ble_eq_true rfl, Nat.le_of_ble_eq_true rfl⟩) ⟨fun a U g mk q => by obtain ⟨z0, z1, zP, zK, zD, zX⟩ := q; exact ⟨z0, z1, zP, va_K.moved (u := U) (U := U.calling g mk a) (Vm.Alike.refl U.vm) zK, zD, z_X.same rfl rfl zX⟩, va_recv hK hP (ci := 2) (q0 := 0) rfl rfl, fun U hU hW => ⟨rfl, by rw [hU], by rw [hU]; exact hPc, va_K.moved hW.alike hK, hDc.weaken (fun _ _ _ _ => trivial), hX.warm hS hFc hU hW⟩⟩ rfl rfl hl.1 rfl (lv_room (Nat.le_of_ble_eq_true rfl)) ze_A_countLeadingOnly_28 ⟨Nat.zero_le _, Nat.zero_le _⟩) hS (fun q _ h => hFc q h) hFc (fun rv u t H1 locs ht9 hvm hw hB hz1 hk1 hS => ?_)
        obtain ⟨hP1, hD1⟩ := hB
        rw [ht9] at hP1
        have hw' : r5 = rv := Eq.symm hw
        subst hw'
        obtain ⟨hP, hD⟩ := va_join (wr := []) (w1 := (zd_A cC cI cJ h_A h_A_low h_A_high h_A_homes h_A_leasts A_genes A_count A_low A_high A_homes A_leasts A_states A_lowLeasts A_highLeasts)) hP hD [0, 1, 2, 3, 4] [] rfl rfl (by decide) (by decide) hk1 hFc hP1 hD1
        generalize H1 = H at hP hS ⊢
        replace hP := hP.sub (ws' := (zd_A cC cI cJ h_A h_A_low h_A_high h_A_homes h_A_leasts A_genes A_count A_low A_high A_homes A_leasts A_states A_lowLeasts A_highLeasts)) [0, 1, 2, 3, 4] rfl
        replace hD := hD.sub (ws' := (zd_A cC cI cJ h_A h_A_low h_A_high h_A_homes h_A_leasts A_genes A_count A_low A_high A_homes A_leasts A_states A_lowLeasts A_highLeasts)) [0, 1, 2, 3, 4] (by decide) rfl
        refine lv_iconst (v := (1 : Int32)) hx hb ze_A_countLeadingOnly_31 (by decide) ?_
        refine lv_icmp_ne (tgt := 38) hx hb ze_A_countLeadingOnly_32 (by decide) (fun c6 => ?_) (fun c6 => ?_)
        · replace h := z_it_f c6 h
          refine lv_iinc (v := (x3 + (1 : Int32))) (lv' := [(3, .int (x3 + (1 : Int32))), (0, .ref h_A), (1, .int x1), (2, .int x2)]) hx hb ze_A_countLeadingOnly_38 hl (k := 3) rfl rfl (by decide) rfl (fun ls hl => ?_)
          refine lv_goto (tgt := 4) hx hb ze_A_countLeadingOnly_41 (by decide) ?_
          exact ih x1 x2 (x3 + (1 : Int32)) A_low A_high A_leasts A_states A_lowLeasts A_highLeasts _ _ _ hP hD hS (lv_sub hl [1, 2, 3, 0] rfl) h
        · replace h := z_it_t c6 h
          refine lv_iinc (v := (x2 + (1 : Int32))) (lv' := [(2, .int (x2 + (1 : Int32))), (0, .ref h_A), (1, .int x1), (3, .int x3)]) hx hb ze_A_countLeadingOnly_35 hl (k := 2) rfl rfl (by decide) rfl (fun ls hl => ?_)
          refine lv_iinc (v := (x3 + (1 : Int32))) (lv' := [(3, .int (x3 + (1 : Int32))), (2, .int (x2 + (1 : Int32))), (0, .ref h_A), (1, .int x1)]) hx hb ze_A_countLeadingOnly_38 hl (k := 3) rfl rfl (by decide) rfl (fun ls hl => ?_)
          refine lv_goto (tgt := 4) hx hb ze_A_countLeadingOnly_41 (by decide) ?_
          exact ih x1 (x2 + (1 : Int32)) (x3 + (1 : Int32)) A_low A_high A_leasts A_states A_lowLeasts A_highLeasts _ _ _ hP hD hS (lv_sub hl [2, 3, 1, 0] rfl) h
set_option maxHeartbeats 4000000 in
set_option maxRecDepth 100000 in
theorem zc_A_countLeadingOnly (l : Launch) (dC : Nat → ClassId) (dI : Nat → Nat → Nat) (cC : ClassId) (cI : ClassId) (cJ : ClassId) (tp : Nat) (h_A : Nat) (h_A_low : Nat) (h_A_high : Nat) (h_A_homes : Nat) (h_A_leasts : Nat) (sz : Nat) (A_genes : Int32) (A_count : Int32) (A_low : Nat → Int64) (A_high : Nat → Int64) (A_homes : Nat → Int32) (A_leasts : Nat → Int32) (A_states : Int32) (A_lowLeasts : Int64) (A_highLeasts : Int64) (x1 : Int32) (o_r : Int32) (h : zf_A_countLeadingOnly x1 A_low A_high A_leasts A_states A_lowLeasts A_highLeasts = some (o_r)) : Met l zy_A_countLeadingOnly zs_A_countLeadingOnly (rm_A_countLeadingOnly) (va_Pc [.ref h_A, .int x1] (fun U => U.heap.size = sz ∧ va_P (dC, dI) vwCl (zd_A cC cI cJ h_A h_A_low h_A_high h_A_homes h_A_leasts A_genes A_count A_low A_high A_homes A_leasts A_states A_lowLeasts A_highLeasts) U.heap ∧ va_K (dC, dI) vwCl (z_tys cC cI cJ) U ∧ va_D (fun _ => True) (zd_A cC cI cJ h_A h_A_low h_A_high h_A_homes h_A_leasts A_genes A_count A_low A_high A_homes A_leasts A_states A_lowLeasts A_highLeasts) ∧ z_X tp (va_A (zd_A cC cI cJ h_A h_A_low h_A_high h_A_homes h_A_leasts A_genes A_count A_low A_high A_homes A_leasts A_states A_lowLeasts A_highLeasts) sz) U)) (zq_A_countLeadingOnly dC dI cC cI cJ h_A h_A_low h_A_high h_A_homes h_A_leasts A_genes A_count A_low A_high A_homes A_leasts A_states A_lowLeasts A_highLeasts o_r (va_A (zd_A cC cI cJ h_A h_A_low h_A_high h_A_homes h_A_leasts A_genes A_count A_low A_high A_homes A_leasts A_states A_lowLeasts A_highLeasts) sz)) 0 0 (va_A (zd_A cC cI cJ h_A h_A_low h_A_high h_A_homes h_A_leasts A_genes A_count A_low A_high A_homes A_leasts A_states A_lowLeasts A_highLeasts) sz) := by
  refine Met.ofW (cc := zb_A_countLeadingOnly) (maxL := 4) (ret := (some .int)) (by decide) rfl ?_
  intro p e s m args below meth c s₁ B hml hv
  obtain ⟨rfl, hsz, hP, hK, hD0, hX⟩ := hv
  have hx := B.exec
  have hb := B.bytes
  have hr := B.returns
  have hts := atoms_spec (ws := zs_A_countLeadingOnly) B.pre
  have ht : ∀ w ∈ z_W, w.before _ s = true := fun w h => hts w (List.mem_cons_of_mem _ h)
  have hown : s.vm.findClass "RuleNetwork$Analysis" = some m.cls := findClass_of_methodNamed B.named
  have hlocks := B.notSynchronized
  have C0 : z_kx p s m _ meth c "RuleNetwork$Analysis" zb_A_countLeadingOnly 4 (some .int) := ⟨hx, hb, hr, hml, hown, ht, hlocks⟩
  subst hsz
  have hD := hD0.self (sz := s.heap.size)
  generalize hAe : va_A (zd_A cC cI cJ h_A h_A_low h_A_high h_A_homes h_A_leasts A_genes A_count A_low A_high A_homes A_leasts A_states A_lowLeasts A_highLeasts) s.heap.size = A at hD hX ⊢
  have hA : ∀ q : Nat, s.heap.size ≤ q → A q := fun q h => by rw [← hAe]; exact Or.inr h
  have hS : va_S A s.heap s.heap [] := va_S.rf
  have hl := lv_entry ([.ref h_A, .int x1]) (n := 4) (Nat.le_of_ble_eq_true rfl)
  rw [lg_entry_eq]
  generalize (lg_sl ([.ref h_A, .int x1]) ++ List.replicate (4 - (lg_sl ([.ref h_A, .int x1])).length) Slot.unset).toArray = ls at hl ⊢
  have hl : lv_has ls 4 [(0, .ref h_A), (1, .int x1)] := hl
  rw [zf_A_countLeadingOnly] at h
  refine lv_iconst (v := (0 : Int32)) hx hb ze_A_countLeadingOnly_0 (by decide) ?_
  refine lv_istore_n (lv' := [(2, .int (0 : Int32)), (0, .ref h_A), (1, .int x1)]) hx hb ze_A_countLeadingOnly_1 rfl hl (by decide) rfl (fun ls hl => ?_)
  refine lv_iconst (v := (0 : Int32)) hx hb ze_A_countLeadingOnly_2 (by decide) ?_
  refine lv_istore_n (lv' := [(3, .int (0 : Int32)), (2, .int (0 : Int32)), (0, .ref h_A), (1, .int x1)]) hx hb ze_A_countLeadingOnly_3 rfl hl (by decide) rfl (fun ls hl => ?_)
  exact zk_A_countLeadingOnly_4 C0 hK hA hX z_FU x1 (0 : Int32) (0 : Int32) A_low A_high A_leasts A_states A_lowLeasts A_highLeasts _ _ _ hP hD hS (lv_sub hl [2, 3, 1, 0] rfl) h
