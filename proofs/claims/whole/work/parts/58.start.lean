/-! THE LAW FROM ITS ENTRY -/
theorem ar_c {ty : FieldType} {args : Array Value} {s : State} (h : (Cond.arrayClass ty).before args s = true) : ∃ cA, ArrOfT s cA ty ∧ s.vm.findClass ("[" ++ ty.toString) = some cA := by
  obtain ⟨c, k, comp, h1, h2, h3⟩ := Cond.arrayClass_spec h
  exact ⟨c, fun n z => ⟨(fun q hq => by cases hq), k, h2, comp, h3⟩, h1⟩
theorem ar_o {ty : FieldType} {args : Array Value} {s : State} (h : (Cond.arrayOver (.array ty)).before args s = true) : ∃ cA, ArrOfT s cA (.array ty) ∧ s.vm.findClass ("[" ++ (FieldType.array ty).toString) = some cA := by
  obtain ⟨comp, c, k, h1, h2, h3, h4, h5⟩ := x_ao_spec h
  exact ⟨c, fun n z => ⟨(fun q hq => by cases hq), k, h3, comp, h4⟩, h5⟩
theorem st_0 : ∀ i, i < 6 → M_X5_strain 0 (nI i) = 0 := by decide +kernel
theorem st_00 : M_X5_letGo 0 = 0 ∧ M_X5_parted 0 = 0 ∧ M_X5_frostIn 0 = 0 := by decide +kernel
theorem pu_C0 : pu_C 0 0 (fun _ => 0) (fun _ => 0) (fun _ => 0) (fun _ => 0) (fun _ => 0) (fun _ => 0) 0 (fun _ => 0) := by
  refine ⟨⟨by omega, by omega, rfl, rfl, fun i hi => absurd hi (by omega), fun a ha => absurd ha (by omega)⟩, ⟨fun i hi => absurd hi (by omega), fun i _ hi => st_0 i hi, ?_, ?_, ?_⟩, by omega, rfl, ⟨fun i hi => absurd hi (by omega), fun i _ hi => st_0 i hi, st_00.1, st_00.2.1, ?_⟩, fun d hd => absurd hd (by omega)⟩
  · exact st_00.1.symm
  · exact st_00.2.1.symm
  · exact st_00.2.2.symm
  · exact st_00.2.2.symm
theorem pu_K0 (ks : Nat → Nat → Int64) (kept : Nat → Int32) : pu_K 0 0 (fun _ => 0) (fun _ => 0) (fun _ => 0) (fun _ => 0) (fun _ => 0) ks (upd (upd (upd (fun _ => 0) 0 (-1 : Int32)) 1 (-1 : Int32)) 2 (-1 : Int32)) kept (fun _ => 0) := by
  intro k hk
  rcases (show k = 0 ∨ k = 1 ∨ k = 2 by omega) with rfl | rfl | rfl <;> exact .inl ⟨rfl, rfl⟩
theorem pu_S6 (pl : Nat → Nat → Int32) (rw0 : Nat → Int32) : pu_S 6 40 (upd (upd (upd (upd (upd (upd (fun _ => 0) 0 (-1 : Int32)) 1 (-1 : Int32)) 2 (-1 : Int32)) 3 (-1 : Int32)) 4 (-1 : Int32)) 5 (-1 : Int32)) pl (upd (upd (upd (upd (upd (upd (fun _ => 0) 0 (-1 : Int32)) 1 (-1 : Int32)) 2 (-1 : Int32)) 3 (-1 : Int32)) 4 (-1 : Int32)) 5 (-1 : Int32)) rw0 := by
  intro r hr
  refine ⟨rfl, .inl ?_⟩
  rcases (show r = 0 ∨ r = 1 ∨ r = 2 ∨ r = 3 ∨ r = 4 ∨ r = 5 by omega) with rfl | rfl | rfl | rfl | rfl | rfl <;> rfl
theorem pu_S4 (pl : Nat → Nat → Int32) (rw0 : Nat → Int32) : pu_S 4 60 (upd (upd (upd (upd (fun _ => 0) 0 (-1 : Int32)) 1 (-1 : Int32)) 2 (-1 : Int32)) 3 (-1 : Int32)) pl (upd (upd (upd (upd (fun _ => 0) 0 (-1 : Int32)) 1 (-1 : Int32)) 2 (-1 : Int32)) 3 (-1 : Int32)) rw0 := by
  intro r hr
  refine ⟨rfl, .inl ?_⟩
  rcases (show r = 0 ∨ r = 1 ∨ r = 2 ∨ r = 3 by omega) with rfl | rfl | rfl | rfl <;> rfl
set_option maxHeartbeats 4000000 in
set_option maxRecDepth 100000 in
theorem w_L_start {G : x_G} {l : Launch} {sb L : Nat} {xs : Nat → Int32} (hL : L ≤ 3072) : X G l RL cL_law 4 room_1 (x_CL sb L xs) 0 0 0 [(0, .ref sb)] [] [] := by
  refine x_new (ci := 4) (fs := [.null, .null, .null, .null, .null, .null, .null, .null, .int 0, .int 0, .long 0, .long 0]) dL_law_0 cl_L_7 it_X6 ni_X6 inX6 tyX6_ok rfl dv_X6 (by decide) (fun q1 => ?_)
  refine x_dup dL_law_3 rfl ?_
  refine x_callI (As := []) (wc := [(q1, .inr (4, [.null, .null, .null, .null, .null, .null, .null, .null, .int 0, .int 0, .long 0, .long 0]))]) (pre := []) (post := []) (rest := [.ref q1]) dL_law_4 (k_X6_init (h0 := q1)) pi_X6_init ml_L_9 rfl rfl rfl rfl (by decide) (fun v w hv => ?_)
  obtain ⟨rfl, hw⟩ := hv
  refine x_ws (ws' := w) (by rw [List.append_nil]; rfl) ?_
  refine x_astore_n [(1, .ref q1), (0, .ref sb)] dL_law_7 rfl (by decide) rfl ?_
  refine x_new (ci := 5) (fs := [.null, .null, .null, .null, .null, .null, .null, .null, .int 0, .int 0, .long 0, .long 0, .null, .null, .int 0, .int 0, .null, .null, .null, .null, .null]) dL_law_8 cl_L_10 it_X7 ni_X7 inX7 tyX7_ok rfl dv_X7 (by decide) (fun q2 => ?_)
  refine x_dup dL_law_11 rfl ?_
  refine x_callI (As := []) (wc := [(q2, .inr (5, [.null, .null, .null, .null, .null, .null, .null, .null, .int 0, .int 0, .long 0, .long 0, .null, .null, .int 0, .int 0, .null, .null, .null, .null, .null]))]) (pre := w) (post := []) (rest := [.ref q2]) dL_law_12 (k_X7_init (h0 := q2)) pi_X7_init ml_L_12 rfl rfl rfl rfl (by decide) (fun v w2 hv => ?_)
  obtain ⟨rfl, am, ham, hw2⟩ := hv
  obtain ⟨a, ar, al, af, ax, ad, b, c, aq, ha, hw⟩ := hw
  refine x_astore_n [(2, .ref q2), (1, .ref q1), (0, .ref sb)] dL_law_15 rfl (by decide) rfl ?_
  refine x_iconst (0 : Int32) dL_law_16 (by decide) ?_
  refine x_istore_n [(3, .int (0 : Int32)), (2, .ref q2), (1, .ref q1), (0, .ref sb)] dL_law_17 rfl (by decide) rfl ?_
  refine x_lv (lv' := [(0, .ref sb), (1, .ref q1), (2, .ref q2), (3, .int (0 : Int32))]) [3, 2, 1, 0] rfl ?_
  have hM := law_pure (xs := xs) hL 512 x_fuel 0 0 0 0 1 (upd (upd (upd (upd (upd (upd (fun _ => 0) 0 (-1 : Int32)) 1 (-1 : Int32)) 2 (-1 : Int32)) 3 (-1 : Int32)) 4 (-1 : Int32)) 5 (-1 : Int32)) (fun _ _ => 0) (fun _ => 0) (fun _ _ => 0) (upd (upd (upd (fun _ => 0) 0 (-1 : Int32)) 1 (-1 : Int32)) 2 (-1 : Int32)) (fun _ => 0) (upd (upd (upd (upd (fun _ => 0) 0 (-1 : Int32)) 1 (-1 : Int32)) 2 (-1 : Int32)) 3 (-1 : Int32)) (fun _ _ => 0) (fun _ => 0) 0 0 (-9) 0 0 0 0 0 (fun _ => 0) (fun _ => 0) (fun _ => 0) (fun _ => 0) (fun _ => 0) c 0 0 (fun _ => 0) (fun _ => 0) (fun _ => 0) (fun _ => 0) (fun _ => 0) b (fun _ => 0) (fun _ => 0) (fun _ => 0) (fun _ => 0) (fun _ => 0) (upd (upd (upd (upd (upd (upd (fun _ => 0) 0 (-1 : Int32)) 1 (-1 : Int32)) 2 (-1 : Int32)) 3 (-1 : Int32)) 4 (-1 : Int32)) 5 (-1 : Int32)) (fun _ => 0) (upd (upd (upd (upd (fun _ => 0) 0 (-1 : Int32)) 1 (-1 : Int32)) 2 (-1 : Int32)) 3 (-1 : Int32)) (fun _ => 0) (fun _ => 0) (fun _ => 0) (fun _ => 0) (fun _ => 0) (fun _ => 0) (fun _ => 0) 0 0 0 0 0 (by omega) (by omega) (by unfold x_fuel; omega) pu_C0 (pu_K0 _ _) (pu_S6 _ _) (pu_S4 _ _)
  have hX := w_L_law_b18 (sb := sb) (G := G) (l := l) (a := a) (ar := ar) (al := al) (af := af) (ax := ax) (ad := ad) (aq := aq) (am := am) _ _ _ _ _ _ _ _ _ _ _ _ _ _ _ _ _ _ _ _ _ _ _ _ _ _ _ _ _ _ _ _ _ _ _ _ _ _ _ _ _ _ _ _ _ _ _ _ _ _ _ _ _ _ _ _ _ _ _ _ _ _ hM
  subst ha ham
  refine x_ws ?_ hX
  rw [hw, hw2, List.append_nil]
  simp only [List.append_assoc]
  rfl
theorem whole_start {p : Program} {e : Env} {s : State} {m : MethodId} {below : List Frame} {meth : Method} {c : Code} (l : Launch) (hflags : l.flags = flags0) {b L : Nat} {xs : Nat → Int32} (hL : L ≤ 3072) (C0 : lw_At p s m meth c b L xs) : W p l e room_1 s m #[Value.ref b] below meth c s.heap [] 0 0 (lw_Z below #[Value.ref b] s) (entryFrame m ([Value.ref b] : List Value).toArray 4) := by
  obtain ⟨hx, hb, hr, hml, hown, hts, hX, hbl, hlocks, hgv⟩ := id C0
  have hg : ∀ w ∈ lw_good, w.before #[Value.ref b] s = true := fun w hw => hts w (List.mem_filter.mp hw).1
  obtain ⟨c0, i0, hK0⟩ := u_known hg inX0 (hg _ it_X0)
  obtain ⟨c1, i1, hK1⟩ := u_known hg inX1 (hg _ it_X1)
  obtain ⟨c2, i2, hK2⟩ := u_known hg inX2 (hg _ it_X2)
  obtain ⟨c3, i3, hK3⟩ := u_known hg inX4 (hg _ it_X4)
  obtain ⟨c4, i4, hK4⟩ := u_known hg inX6 (hg _ it_X6)
  obtain ⟨c5, i5, hK5⟩ := u_known hg inX7 (hg _ it_X7)
  obtain ⟨dC, dI, hKc⟩ : ∃ (dC : Nat → ClassId) (dI : Nat → Nat → Nat), ∀ (k : Nat) (q : vw_C), vwCl[k]? = some q → u_Kn s q.1 q.2.1 q.2.2 (dC k) (dI k) := by
    refine ⟨fun k => match k with | 0 => c0 | 1 => c1 | 2 => c2 | 3 => c3 | 4 => c4 | _ => c5, fun k => match k with | 0 => i0 | 1 => i1 | 2 => i2 | 3 => i3 | 4 => i4 | _ => i5, ?_⟩
    intro k q hq
    match k, hq with
    | 0, hq => cases hq; exact hK0
    | 1, hq => cases hq; exact hK1
    | 2, hq => cases hq; exact hK2
    | 3, hq => cases hq; exact hK3
    | 4, hq => cases hq; exact hK4
    | 5, hq => cases hq; exact hK5
    | k + 6, hq => simp [vwCl] at hq
  obtain ⟨g0, ga0, gb0⟩ := ar_c (ty := .int) (hg _ ac_int)
  obtain ⟨g1, ga1, gb1⟩ := ar_c (ty := .boolean) (hg _ ac_boolean)
  obtain ⟨g2, ga2, gb2⟩ := ar_c (ty := .long) (hg _ ac_long)
  have ho3 : (Cond.arrayOver (.array .int)).before #[Value.ref b] s = true := hts _ (by decide +kernel)
  have ho4 : (Cond.arrayOver (.array .long)).before #[Value.ref b] s = true := hts _ (by decide +kernel)
  obtain ⟨g3, ga3, gb3⟩ := ar_o ho3
  obtain ⟨g4, ga4, gb4⟩ := ar_o ho4
  have hN : x_N s := by
    refine ⟨?_, ?_, ?_, ?_, ?_, ?_⟩
    · exact va_tabs (u := s) (A := #[Value.ref b]) rfl rfl (hts (.methodLinkNest RX6 23 yX1_init RX6) (by decide +kernel))
    · exact va_tabs (u := s) (A := #[Value.ref b]) rfl rfl (hts (.methodLinkNest RX6 44 yX2_init RX6) (by decide +kernel))
    · exact va_tabs (u := s) (A := #[Value.ref b]) rfl rfl (hts (.methodLinkNest RX2 97 yX6_passed RX6) (by decide +kernel))
    · exact va_tabs (u := s) (A := #[Value.ref b]) rfl rfl (hts (.methodLinkNest RX2 58 yX6_isOf RX6) (by decide +kernel))
    · exact ho3
    · exact ho4
  have hK : va_K (dC, dI) vwCl (x_tys ((dC, dI), fun k => match k with | 0 => g0 | 1 => g1 | 2 => g2 | 3 => g3 | _ => g4)) s := by
    refine ⟨hKc, fun k q hq => ?_⟩
    match k, hq with
    | 0, hq => cases hq; exact ⟨ga0, gb0⟩
    | 1, hq => cases hq; exact ⟨ga1, gb1⟩
    | 2, hq => cases hq; exact ⟨ga2, gb2⟩
    | 3, hq => cases hq; exact ⟨ga3, gb3⟩
    | 4, hq => cases hq; exact ⟨ga4, gb4⟩
    | k + 5, hq => simp [x_tys] at hq
  have hP : va_P (dC, dI) vwCl [] s.heap := fun k q h => by simp at h
  have hD : va_D (fun q : Nat => s.heap.size ≤ q) [] := ⟨fun i j p q h => by simp at h, fun k q h => by simp at h⟩
  rw [lg_entry_eq]
  exact w_L_start (G := ((dC, dI), fun k => match k with | 0 => g0 | 1 => g1 | 2 => g2 | 3 => g3 | _ => g4)) (l := l) (sb := b) (xs := xs) hL p e s m _ below meth c (fun q : Nat => s.heap.size ≤ q) _ ⟨hx, hb, hml, hown, hg, hK, fun _ h => h, hN⟩ ⟨hr, hlocks, rfl, hX, hbl, fun _ h => h, rfl⟩ s.heap [] _ hP hD va_S.rf (lv_entry [.ref b] (Nat.le_of_ble_eq_true rfl))
