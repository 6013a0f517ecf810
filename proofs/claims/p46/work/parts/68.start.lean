/-! THE LAW FROM ITS ENTRY -/
theorem ar_c {ty : FieldType} {args : Array Value} {s : State} (h : (Cond.arrayClass ty).before args s = true) : ∃ cA, ArrOfT s cA ty ∧ s.vm.findClass ("[" ++ ty.toString) = some cA := by
  obtain ⟨c, k, comp, h1, h2, h3⟩ := Cond.arrayClass_spec h
  exact ⟨c, fun n z => ⟨(fun q hq => by cases hq), k, h2, comp, h3⟩, h1⟩
theorem ar_o {ty : FieldType} {args : Array Value} {s : State} (h : (Cond.arrayOver (.array ty)).before args s = true) : ∃ cA, ArrOfT s cA (.array ty) ∧ s.vm.findClass ("[" ++ (FieldType.array ty).toString) = some cA := by
  obtain ⟨comp, c, k, h1, h2, h3, h4, h5⟩ := x_ao_spec h
  exact ⟨c, fun n z => ⟨(fun q hq => by cases hq), k, h3, comp, h4⟩, h5⟩
def S_0 (b c : Nat → Nat) : x_S := (0, 0, 0, 1, (upd (upd (upd (upd (upd (upd (fun _ => 0) 0 (-1 : Int32)) 1 (-1 : Int32)) 2 (-1 : Int32)) 3 (-1 : Int32)) 4 (-1 : Int32)) 5 (-1 : Int32)), (fun _ _ => 0), (fun _ => 0), 0, (fun _ _ => 0), (upd (upd (upd (fun _ => 0) 0 (-1 : Int32)) 1 (-1 : Int32)) 2 (-1 : Int32)), (fun _ => 0), (upd (upd (upd (upd (fun _ => 0) 0 (-1 : Int32)) 1 (-1 : Int32)) 2 (-1 : Int32)) 3 (-1 : Int32)), (fun _ _ => 0), (fun _ => 0), 0, 0, (-9), 0, 0, 0, 0, 0, (fun _ => 0), (fun _ => 0), (fun _ => 0), (fun _ => 0), (fun _ => 0), c, 0, 0, 0, 0, (fun _ => 0), (fun _ => 0), (fun _ => 0), (fun _ => 0), (fun _ => 0), b, (fun _ => 0))
theorem S_0k (b c : Nat → Nat) : zk 6 40 (S_0 b c).2.2.2.2.1 := by
  intro r hr
  refine .inl ?_
  rcases (show r = 0 ∨ r = 1 ∨ r = 2 ∨ r = 3 ∨ r = 4 ∨ r = 5 by omega) with rfl | rfl | rfl | rfl | rfl | rfl <;> rfl
theorem S_0t (b c : Nat → Nat) : zk 4 60 (S_0 b c).2.2.2.2.2.2.2.2.2.2.2.1 := by
  intro r hr
  refine .inl ?_
  rcases (show r = 0 ∨ r = 1 ∨ r = 2 ∨ r = 3 by omega) with rfl | rfl | rfl | rfl <;> rfl
set_option maxHeartbeats 4000000 in
set_option maxRecDepth 100000 in
theorem w_L_start {G : x_G} {l : Launch} {sb L : Nat} {xs : Nat → Int32} (hL : L ≤ 260) : X G l RL cL_law 38 room_1 (x_CL sb L xs) 0 0 0 [(0, .ref sb)] [] [] := by
  refine x_new (ci := 4) (fs := [.null, .null, .null, .null, .null, .null, .null, .null, .int 0, .int 0, .long 0, .long 0]) dL_law_0 cl_L_20 it_X6 ni_X6 inX6 tyX6_ok rfl dv_X6 (by decide) (fun q1 => ?_)
  refine x_dup dL_law_3 rfl ?_
  refine x_callI (As := []) (wc := [(q1, .inr (4, [.null, .null, .null, .null, .null, .null, .null, .null, .int 0, .int 0, .long 0, .long 0]))]) (pre := []) (post := []) (rest := [.ref q1]) dL_law_4 (k_X6_init (h0 := q1)) pi_X6_init ml_L_46 rfl rfl rfl rfl (by decide) (fun v w hv => ?_)
  obtain ⟨rfl, a, ar, al, af, ax, ad, b, c, aq, ha, rfl⟩ := hv
  subst ha
  refine x_astore_n [(1, .ref (a 0)), (0, .ref sb)] dL_law_7 rfl (by decide) rfl ?_
  refine x_bipush (38 : Int32) dL_law_8 (by decide) ?_
  refine x_newa (a0 := (38, .inl (fun _ => 0))) 0 38 dL_law_10 ac_int rfl rfl x_nm_int (fun cA => rfl) (by decide) (by decide) (by decide) (by decide) (fun q2 => ?_)
  refine x_astore_n [(2, .ref q2), (1, .ref (a 0)), (0, .ref sb)] dL_law_12 rfl (by decide) rfl ?_
  refine x_lv (lv' := [(0, .ref sb), (1, .ref (a 0)), (2, .ref q2)]) [2, 1, 0] rfl ?_
  refine x_perm (ws' := (WArr G (fun _ => q2) 38 (fun _ => 0)) ++ (WLR G a ar al af ax ad aq (S_0 b c))) [40, 0, 1, 2, 3, 4, 5, 6, 7, 8, 9, 10, 11, 12, 13, 14, 15, 16, 17, 18, 19, 20, 21, 22, 23, 24, 25, 26, 27, 28, 29, 30, 31, 32, 33, 34, 35, 36, 37, 38, 39] (by decide) rfl ?_
  exact w_L_law_b13 (a_row := fun _ => q2) (fun _ => 0) (S_0 b c) (L_13 hL (S_0 b c) (S_0k b c) (S_0t b c) (fun _ => 0))
theorem whole_start {p : Program} {e : Env} {s : State} {m : MethodId} {below : List Frame} {meth : Method} {c : Code} (l : Launch) (hflags : l.flags = flags0) {b L : Nat} {xs : Nat → Int32} (hL : L ≤ 260) (C0 : lw_At p s m meth c b L xs) : W p l e room_1 s m #[Value.ref b] below meth c s.heap [] 0 0 (lw_Z below #[Value.ref b] s) (entryFrame m ([Value.ref b] : List Value).toArray 38) := by
  obtain ⟨hx, hb, hr, hml, hown, hts, hX, hbl, hlocks, hgv⟩ := id C0
  have hg : ∀ w ∈ lw_good, w.before #[Value.ref b] s = true := fun w hw => hts w (List.mem_filter.mp hw).1
  obtain ⟨c0, i0, hK0⟩ := u_known hg inX0 (hg _ it_X0)
  obtain ⟨c1, i1, hK1⟩ := u_known hg inX1 (hg _ it_X1)
  obtain ⟨c2, i2, hK2⟩ := u_known hg inX2 (hg _ it_X2)
  obtain ⟨c3, i3, hK3⟩ := u_known hg inX4 (hg _ it_X4)
  obtain ⟨c4, i4, hK4⟩ := u_known hg inX6 (hg _ it_X6)
  obtain ⟨dC, dI, hKc⟩ : ∃ (dC : Nat → ClassId) (dI : Nat → Nat → Nat), ∀ (k : Nat) (q : vw_C), vwCl[k]? = some q → u_Kn s q.1 q.2.1 q.2.2 (dC k) (dI k) := by
    refine ⟨fun k => match k with | 0 => c0 | 1 => c1 | 2 => c2 | 3 => c3 | _ => c4, fun k => match k with | 0 => i0 | 1 => i1 | 2 => i2 | 3 => i3 | _ => i4, ?_⟩
    intro k q hq
    match k, hq with
    | 0, hq => cases hq; exact hK0
    | 1, hq => cases hq; exact hK1
    | 2, hq => cases hq; exact hK2
    | 3, hq => cases hq; exact hK3
    | 4, hq => cases hq; exact hK4
    | k + 5, hq => simp [vwCl] at hq
  obtain ⟨g0, ga0, gb0⟩ := ar_c (ty := .int) (hg _ ac_int)
  obtain ⟨g2, ga2, gb2⟩ := ar_c (ty := .long) (hg _ ac_long)
  have ho3 : (Cond.arrayOver (.array .int)).before #[Value.ref b] s = true := hts _ (by decide +kernel)
  have ho4 : (Cond.arrayOver (.array .long)).before #[Value.ref b] s = true := hts _ (by decide +kernel)
  obtain ⟨g3, ga3, gb3⟩ := ar_o ho3
  obtain ⟨g4, ga4, gb4⟩ := ar_o ho4
  have hN : x_N s := by
    refine ⟨?_, ?_, ?_, ?_, ?_, ?_⟩
    · exact va_tabs (u := s) (A := #[Value.ref b]) rfl rfl (hts (.methodLinkNest RX6 23 yX1_init RX6) (by decide +kernel))
    · exact va_tabs (u := s) (A := #[Value.ref b]) rfl rfl (hts (.methodLinkNest RX6 44 yX2_init RX6) (by decide +kernel))
    · exact va_tabs (u := s) (A := #[Value.ref b]) rfl rfl (hts (.methodLinkNest RX2 97 yX6_passed RX6) (by decide +kernel))
    · exact va_tabs (u := s) (A := #[Value.ref b]) rfl rfl (hts (.methodLinkNest RX2 58 yX6_isOf RX6) (by decide +kernel))
    · exact ho3
    · exact ho4
  have hK : va_K (dC, dI) vwCl (x_tys ((dC, dI), fun k => match k with | 0 => g0 | 1 => g0 | 2 => g2 | 3 => g3 | _ => g4)) s := by
    refine ⟨hKc, fun k q hq => ?_⟩
    match k, hq with
    | 0, hq => cases hq; exact ⟨ga0, gb0⟩
    | 1, hq => cases hq; exact ⟨ga0, gb0⟩
    | 2, hq => cases hq; exact ⟨ga2, gb2⟩
    | 3, hq => cases hq; exact ⟨ga3, gb3⟩
    | 4, hq => cases hq; exact ⟨ga4, gb4⟩
    | k + 5, hq => simp [x_tys] at hq
  have hP : va_P (dC, dI) vwCl [] s.heap := fun k q h => by simp at h
  have hD : va_D (fun q : Nat => s.heap.size ≤ q) [] := ⟨fun i j p q h => by simp at h, fun k q h => by simp at h⟩
  rw [lg_entry_eq]
  exact w_L_start (G := ((dC, dI), fun k => match k with | 0 => g0 | 1 => g0 | 2 => g2 | 3 => g3 | _ => g4)) (l := l) (sb := b) (xs := xs) hL p e s m _ below meth c (fun q : Nat => s.heap.size ≤ q) _ ⟨hx, hb, hml, hown, hg, hK, fun _ h => h, hN⟩ ⟨hr, hlocks, rfl, hX, hbl, fun _ h => h, rfl⟩ s.heap [] _ hP hD va_S.rf (lv_entry [.ref b] (Nat.le_of_ble_eq_true rfl))
