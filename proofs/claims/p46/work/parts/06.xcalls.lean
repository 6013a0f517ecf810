/-! calls: a callee's world is a stretch of the caller's -/
section XJ
variable {D : va_G} {cl : List vw_C} {A : Nat → Prop} {H H1 : Heap} {w1 w2 : va_W}
theorem x_lt {α : Type} {l : List α} {i : Nat} {x : α} (h : l[i]? = some x) : i < l.length := (List.getElem?_eq_some_iff.mp h).1
theorem x_P_l (h : va_P D cl (w1 ++ w2) H) : va_P D cl w1 H := fun k q hk => h k q (by rw [List.getElem?_append_left (x_lt hk)]; exact hk)
theorem x_P_r (h : va_P D cl (w1 ++ w2) H) : va_P D cl w2 H := fun k q hk => h (w1.length + k) q (by rw [List.getElem?_append_right (Nat.le_add_right _ _), Nat.add_sub_cancel_left]; exact hk)
theorem x_D_l (h : va_D A (w1 ++ w2)) : va_D A w1 := ⟨fun i j p q hi hj e => h.1 i j p q (by rw [List.getElem?_append_left (x_lt hi)]; exact hi) (by rw [List.getElem?_append_left (x_lt hj)]; exact hj) e, fun k q hk => h.2 k q (by rw [List.getElem?_append_left (x_lt hk)]; exact hk)⟩
theorem x_D_r (h : va_D A (w1 ++ w2)) : va_D A w2 := ⟨fun i j p q hi hj e => by
  have := h.1 (w1.length + i) (w1.length + j) p q (by rw [List.getElem?_append_right (Nat.le_add_right _ _), Nat.add_sub_cancel_left]; exact hi) (by rw [List.getElem?_append_right (Nat.le_add_right _ _), Nat.add_sub_cancel_left]; exact hj) e
  omega, fun k q hk => h.2 (w1.length + k) q (by rw [List.getElem?_append_right (Nat.le_add_right _ _), Nat.add_sub_cancel_left]; exact hk)⟩
theorem x_D_x (h : va_D A (w1 ++ w2)) {i j : Nat} {p q : Nat × va_E} (hi : w1[i]? = some p) (hj : w2[j]? = some q) : p.1 ≠ q.1 := fun e => by
  have := h.1 i (w1.length + j) p q (by rw [List.getElem?_append_left (x_lt hi)]; exact hi) (by rw [List.getElem?_append_right (Nat.le_add_right _ _), Nat.add_sub_cancel_left]; exact hj) e
  have := x_lt hi
  omega
theorem x_join {A0 : Nat → Prop} {pre wc post w : va_W} (hP : va_P D cl (pre ++ (wc ++ post)) H) (hD : va_D A0 (pre ++ (wc ++ post))) (hk : ∀ q : Nat, q < H.size → ¬ va_A wc H.size q → H1[q]? = H[q]?) (hF : ∀ q, va_A wc H.size q → A0 q) (hP1 : va_P D cl w H1) (hD1 : va_D (va_A wc H.size) w) : va_P D cl (pre ++ (w ++ post)) H1 ∧ va_D A0 (pre ++ (w ++ post)) := by
  have hDr := x_D_r hD
  have ka : ∀ (k : Nat) (q : Nat × va_E), pre[k]? = some q → q.1 < H.size ∧ ¬ va_A wc H.size q.1 := fun k q hq => by
    have hl := (x_P_l hP k q hq).lt
    refine ⟨hl, fun h => ?_⟩
    rcases h with ⟨k2, e, h⟩ | h
    · exact x_D_x hD hq (j := k2) (q := (q.1, e)) (by rw [List.getElem?_append_left (x_lt h)]; exact h) rfl
    · omega
  have kb : ∀ (k : Nat) (q : Nat × va_E), post[k]? = some q → q.1 < H.size ∧ ¬ va_A wc H.size q.1 := fun k q hq => by
    have hl := (x_P_r (x_P_r hP) k q hq).lt
    refine ⟨hl, fun h => ?_⟩
    rcases h with ⟨k2, e, h⟩ | h
    · exact x_D_x hDr (i := k2) (p := (q.1, e)) h hq rfl
    · omega
  refine ⟨va_P.app (fun k q hq => ((x_P_l hP) k q hq).kept (hk q.1 (ka k q hq).1 (ka k q hq).2)) (va_P.app hP1 (fun k q hq => ((x_P_r (x_P_r hP)) k q hq).kept (hk q.1 (kb k q hq).1 (kb k q hq).2))), ?_⟩
  have hw : va_D A0 w := hD1.weaken (fun k q _ h => hF q.1 h)
  refine va_D.app (x_D_l hD) (va_D.app hw (x_D_r hDr) (fun i j p q hp hq e => ?_)) (fun i j p q hp hq e => ?_)
  · exact (kb j q hq).2 (by rw [← e]; exact hD1.2 i p hp)
  · by_cases hj : j < w.length
    · rw [List.getElem?_append_left hj] at hq
      exact (ka i p hp).2 (by rw [e]; exact hD1.2 j q hq)
    · rw [List.getElem?_append_right (by omega)] at hq
      exact x_D_x hD hp (j := wc.length + (j - w.length)) (q := q) (by rw [List.getElem?_append_right (Nat.le_add_right _ _), Nat.add_sub_cancel_left]; exact hq) e
end XJ
def x_fit (R : Room) (d k n : Nat) : Bool := (d + 1).ble R.frames && ((64 * (d + 1)).ble R.locals && (k.ble R.cells && n.ble R.slots))
def x_pk (y : MethodName) (cc : ByteArray) (nL : Nat) (ret : Option FieldType) (n : Nat) : Prop := Cond.code y cc nL ret ∈ lw_good ∧ Cond.initialized y.cls ∈ lw_good ∧ nL ≤ 45 ∧ (y.cls ≠ "java/lang/invoke/MethodHandle" ∧ y.cls ≠ "java/lang/invoke/VarHandle" ∧ (parseMethodDescriptor y.desc).map (fun d => d.parameters.length) = some n)
def x_pv (C : String) (y : MethodName) (cc : ByteArray) (nL : Nat) (ret : Option FieldType) (n : Nat) : Prop := x_pk y cc nL ret n ∧ Cond.instanceMethod y ∈ lw_good ∧ Cond.selects C y y ∈ lw_good
def x_ps (y : MethodName) (cc : ByteArray) (nL : Nat) (ret : Option FieldType) (n : Nat) : Prop := x_pk y cc nL ret n ∧ Cond.static y ∈ lw_good
def x_pi (y : MethodName) (cc : ByteArray) (nL : Nat) (n : Nat) : Prop := x_pk y cc nL none n ∧ Cond.instanceMethod y ∈ lw_good ∧ y.name = "<init>"
section XC
variable {G : x_G} {l : Launch} {own : String} {cc : ByteArray} {nL : Nat} {R : Room} {Cx : x_K} {ck cn pc : Nat} {lv : List (Nat × Value)} {st rest : List Value} {ws : va_W}
theorem x_core {p : Program} {e : Env} {s : State} {m : MethodId} {args : Array Value} {below : List Frame} {meth : Method} {c : Code} {H : Heap} {locs : List Loc} {mc ms : Nat} {ls : Array Slot} {st0 : List Value} {wc pre post : va_W} {A : Nat → Prop} {a : Array Value} {Q : State → Prop} {post' : Option Value → va_W → Prop}
    (hr : va_Run p l e R s m args below meth c H locs ck cn mc ms (F0 m pc ls st0) rest (x_Qc G (va_A wc H.size) post' a) (va_A wc H.size)) (hP : va_P G.1 vwCl (pre ++ (wc ++ post)) H) (hD : va_D A (pre ++ (wc ++ post))) (hS : va_S A s.heap H locs) (hA : ∀ q : Nat, s.heap.size ≤ q → A q)
    (kk : ∀ v w, post' v w → ∀ H1 locs1, va_P G.1 vwCl (pre ++ (w ++ post)) H1 → va_D A (pre ++ (w ++ post)) → va_S A s.heap H1 locs1 → W p l e R s m args below meth c H1 locs1 (ck + mc) (cn + ms) Q (F0 m (pc + 3) ls (v.toList ++ rest))) : W p l e R s m args below meth c H locs ck cn Q (F0 m pc ls st0) := by
  have hF : ∀ q, va_A wc H.size q → A q := fun q h => by
    rcases h with ⟨k, e1, h⟩ | h
    · exact (x_D_l (x_D_r hD)).2 k (q, e1) h
    · exact hA q (Nat.le_trans hS.1 h)
  intro T hT X
  obtain ⟨v, st₀, t, T', L, h0, X', hL, e1, e2, ⟨⟨v', w, hv, hp, hP1, hD1⟩, hz, hk⟩, st⟩ := hr T hT X
  cases hv
  rw [h0] at hz hk
  rw [← e1] at hP1 hz hk
  obtain ⟨hP2, hD2⟩ := x_join hP hD (fun q h1 h2 => hk q h1 h2) hF hP1 hD1
  obtain ⟨t2, a1, b1⟩ := kk v w hp T'.heap (locs ++ L) hP2 hD2
    ⟨Nat.le_trans hS.1 hz, fun q h1 h2 => by rw [hk q (Nat.lt_of_lt_of_le h1 hS.1) (fun z => h2 (hF q z))]; exact hS.2.1 q h1 h2, fun q hq => by
      rcases List.mem_append.mp hq with h | h
      · exact hS.2.2 q h
      · exact hF _ (hL q h)⟩ T' rfl X'
  exact ⟨t2, st t2 a1, b1⟩
theorem x_fits {d k n nL' mc ms : Nat} (h : x_fit R d k n = true) (hn : nL' ≤ 45) : ((x_R d mc ms).frames + 1 ≤ R.frames ∧ 8 + (nL' + 11) + (x_R d mc ms).locals ≤ R.locals) ∧ k ≤ R.cells ∧ n ≤ R.slots := by
  unfold x_fit at h
  simp only [Bool.and_eq_true, Nat.ble_eq] at h
  obtain ⟨h1, h2, h3, h4⟩ := h
  refine ⟨⟨h1, ?_⟩, h3, h4⟩
  show 8 + (nL' + 11) + 64 * d ≤ R.locals
  omega
theorem x_blind {sz : Nat} {av : List Value} {wc : va_W} : FrameBlind (va_Pc av (fun U => U.heap.size = sz ∧ va_P G.1 vwCl wc U.heap ∧ va_K G.1 vwCl (x_tys G) U ∧ va_D (fun _ => True) wc ∧ x_N U)) := fun a U g mk q => by
  obtain ⟨q0, q1, qP, qK, qD, qN⟩ := q
  exact ⟨q0, q1, qP, va_K.moved (u := U) (U := U.calling g mk a) (Vm.Alike.refl U.vm) qK, qD, x_N.same rfl qN⟩
theorem x_gives {s : State} {H : Heap} {av : List Value} {wc : va_W} {A : Nat → Prop} (hP : va_P G.1 vwCl wc H) (hD : va_D A wc) (hK : va_K G.1 vwCl (x_tys G) s) (hN : x_N s) : ∀ U : State, U.heap = H → s.WarmedH U.vm → va_Pc av (fun U => U.heap.size = H.size ∧ va_P G.1 vwCl wc U.heap ∧ va_K G.1 vwCl (x_tys G) U ∧ va_D (fun _ => True) wc ∧ x_N U) av.toArray U := fun U hU hW =>
  ⟨rfl, by rw [hU], by rw [hU]; exact hP, va_K.moved hW.alike hK, hD.weaken (fun _ _ _ _ => trivial), hN.warm hW⟩
/-- a call of a method of an object (a private one too, by the tables' words) -/
theorem x_callV {y : MethodName} {C : String} {cc' : ByteArray} {nL' d' mc ms n index ci b : Nat} {ret' : Option FieldType} {As : List Value} {wc pre post : va_W} {post' : Option Value → va_W → Prop} {fs : List Value} {r : vw_C} (q0 : Nat) (hd : decode cc pc = .ok (.invokevirtual index, 3)) (hM : x_M G l y cc' nL' ret' d' mc ms (.ref b :: As) wc post') (pk : x_pv C y cc' nL' ret' n) (hl : Cond.methodLink own index y ∈ lw_good) (hw : ws = pre ++ (wc ++ post)) (hq0 : wc[q0]? = some (b, .inr (ci, fs))) (hr : vwCl[ci]? = some r) (hrC : r.1 = C) (hn : As.length = n) (hst : st = As.reverse ++ .ref b :: rest) (hrm : Nat.ble (rest.map Value.category).sum 8 = true) (hfit : x_fit R d' (ck + mc) (cn + ms) = true)
    (k : ∀ v w, post' v w → X G l own cc nL R Cx (ck + mc) (cn + ms) (pc + 3) lv (v.toList ++ rest) (pre ++ (w ++ post))) : X G l own cc nL R Cx ck cn pc lv st ws := fun p e s m args below meth c A Q hC hX H locs ls hP hD hS hlv => by
  subst hw hst hrC
  obtain ⟨hx, hb, hml, hown, hts, hK, hA, hN⟩ := hC
  obtain ⟨f1, f2, f3⟩ := x_fits (mc := mc) (ms := ms) (nL' := nL') hfit pk.1.2.2.1
  refine x_core (va_runV (As := As) (rest := rest) ⟨hx, hb, hml, hown, hts⟩ (hM H.size) ⟨callB_of n hts (x_goodIn _ pk.1.1) rfl rfl rfl (hts _ pk.1.2.1) (hts _ hl) pk.1.2.2.2 f1, hts _ pk.2.1, hts _ pk.2.2⟩ ⟨x_blind, va_recv hK (x_P_l (x_P_r hP)) hr hq0, x_gives (x_P_l (x_P_r hP)) (x_D_l (x_D_r hD)) hK hN⟩ rfl hn hlv.1 rfl (lv_room (Nat.le_of_ble_eq_true hrm)) hd ⟨f2, f3⟩) hP hD hS hA (fun v w hv H1 locs1 hP1 hD1 hS1 => ?_)
  exact k v w hv p e s m args below meth c A Q ⟨hx, hb, hml, hown, hts, hK, hA, hN⟩ hX H1 locs1 ls hP1 hD1 hS1 hlv
theorem x_callS {y : MethodName} {cc' : ByteArray} {nL' d' mc ms n index : Nat} {ret' : Option FieldType} {As : List Value} {wc pre post : va_W} {post' : Option Value → va_W → Prop} (hd : decode cc pc = .ok (.invokestatic index, 3)) (hM : x_M G l y cc' nL' ret' d' mc ms As wc post') (pk : x_ps y cc' nL' ret' n) (hl : Cond.methodLink own index y ∈ lw_good) (hw : ws = pre ++ (wc ++ post)) (hn : As.length = n) (hst : st = As.reverse ++ rest) (hrm : Nat.ble (rest.map Value.category).sum 8 = true) (hfit : x_fit R d' (ck + mc) (cn + ms) = true)
    (k : ∀ v w, post' v w → X G l own cc nL R Cx (ck + mc) (cn + ms) (pc + 3) lv (v.toList ++ rest) (pre ++ (w ++ post))) : X G l own cc nL R Cx ck cn pc lv st ws := fun p e s m args below meth c A Q hC hX H locs ls hP hD hS hlv => by
  subst hw hst
  obtain ⟨hx, hb, hml, hown, hts, hK, hA, hN⟩ := hC
  obtain ⟨f1, f2, f3⟩ := x_fits (mc := mc) (ms := ms) (nL' := nL') hfit pk.1.2.2.1
  refine x_core (va_runS (As := As) (rest := rest) ⟨hx, hb, hml, hown, hts⟩ (hM H.size) ⟨callB_of n hts (x_goodIn _ pk.1.1) rfl rfl rfl (hts _ pk.1.2.1) (hts _ hl) pk.1.2.2.2 f1, hts _ pk.2⟩ ⟨x_blind, x_gives (x_P_l (x_P_r hP)) (x_D_l (x_D_r hD)) hK hN⟩ rfl hn hlv.1 rfl (lv_room (Nat.le_of_ble_eq_true hrm)) hd ⟨f2, f3⟩) hP hD hS hA (fun v w hv H1 locs1 hP1 hD1 hS1 => ?_)
  exact k v w hv p e s m args below meth c A Q ⟨hx, hb, hml, hown, hts, hK, hA, hN⟩ hX H1 locs1 ls hP1 hD1 hS1 hlv
theorem x_callSN {y : MethodName} {host : String} {cc' : ByteArray} {nL' d' mc ms n index : Nat} {ret' : Option FieldType} {As : List Value} {wc pre post : va_W} {post' : Option Value → va_W → Prop} (hd : decode cc pc = .ok (.invokestatic index, 3)) (hM : x_M G l y cc' nL' ret' d' mc ms As wc post') (pk : x_ps y cc' nL' ret' n) (hl : ∀ s : State, x_N s → va_Nw (.methodLinkNest own index y host) s) (hw : ws = pre ++ (wc ++ post)) (hn : As.length = n) (hst : st = As.reverse ++ rest) (hrm : Nat.ble (rest.map Value.category).sum 8 = true) (hfit : x_fit R d' (ck + mc) (cn + ms) = true)
    (k : ∀ v w, post' v w → X G l own cc nL R Cx (ck + mc) (cn + ms) (pc + 3) lv (v.toList ++ rest) (pre ++ (w ++ post))) : X G l own cc nL R Cx ck cn pc lv st ws := fun p e s m args below meth c A Q hC hX H locs ls hP hD hS hlv => by
  subst hw hst
  obtain ⟨hx, hb, hml, hown, hts, hK, hA, hN⟩ := hC
  obtain ⟨f1, f2, f3⟩ := x_fits (mc := mc) (ms := ms) (nL' := nL') hfit pk.1.2.2.1
  refine x_core (va_runSN (As := As) (rest := rest) ⟨hx, hb, hml, hown, hts⟩ (hM H.size) ⟨va_cnB n hts (x_goodIn _ pk.1.1) rfl rfl rfl (hl s hN) (hts _ pk.1.2.1) pk.1.2.2.2 f1, hts _ pk.2, trivial⟩ ⟨x_blind, x_gives (x_P_l (x_P_r hP)) (x_D_l (x_D_r hD)) hK hN⟩ rfl hn hlv.1 rfl (lv_room (Nat.le_of_ble_eq_true hrm)) hd ⟨f2, f3⟩) hP hD hS hA (fun v w hv H1 locs1 hP1 hD1 hS1 => ?_)
  exact k v w hv p e s m args below meth c A Q ⟨hx, hb, hml, hown, hts, hK, hA, hN⟩ hX H1 locs1 ls hP1 hD1 hS1 hlv
theorem x_callI {y : MethodName} {cc' : ByteArray} {nL' d' mc ms n index b : Nat} {As : List Value} {wc pre post : va_W} {post' : Option Value → va_W → Prop} (hd : decode cc pc = .ok (.invokespecial index, 3)) (hM : x_M G l y cc' nL' none d' mc ms (.ref b :: As) wc post') (pk : x_pi y cc' nL' n) (hl : Cond.methodLink own index y ∈ lw_good) (hw : ws = pre ++ (wc ++ post)) (hn : As.length = n) (hst : st = As.reverse ++ .ref b :: rest) (hrm : Nat.ble (rest.map Value.category).sum 8 = true) (hfit : x_fit R d' (ck + mc) (cn + ms) = true)
    (k : ∀ v w, post' v w → X G l own cc nL R Cx (ck + mc) (cn + ms) (pc + 3) lv (v.toList ++ rest) (pre ++ (w ++ post))) : X G l own cc nL R Cx ck cn pc lv st ws := fun p e s m args below meth c A Q hC hX H locs ls hP hD hS hlv => by
  subst hw hst
  obtain ⟨hx, hb, hml, hown, hts, hK, hA, hN⟩ := hC
  obtain ⟨f1, f2, f3⟩ := x_fits (mc := mc) (ms := ms) (nL' := nL') hfit pk.1.2.2.1
  refine x_core (va_runI (As := As) (rest := rest) ⟨hx, hb, hml, hown, hts⟩ (hM H.size) ⟨callB_of n hts (x_goodIn _ pk.1.1) rfl rfl rfl (hts _ pk.1.2.1) (hts _ hl) pk.1.2.2.2 f1, pk.2.2, hts _ pk.2.1⟩ ⟨x_blind, x_gives (x_P_l (x_P_r hP)) (x_D_l (x_D_r hD)) hK hN⟩ rfl hn hlv.1 rfl (lv_room (Nat.le_of_ble_eq_true hrm)) hd ⟨f2, f3⟩) hP hD hS hA (fun v w hv H1 locs1 hP1 hD1 hS1 => ?_)
  exact k v w hv p e s m args below meth c A Q ⟨hx, hb, hml, hown, hts, hK, hA, hN⟩ hX H1 locs1 ls hP1 hD1 hS1 hlv
theorem x_callIN {y : MethodName} {host : String} {cc' : ByteArray} {nL' d' mc ms n index b : Nat} {As : List Value} {wc pre post : va_W} {post' : Option Value → va_W → Prop} (hd : decode cc pc = .ok (.invokespecial index, 3)) (hM : x_M G l y cc' nL' none d' mc ms (.ref b :: As) wc post') (pk : x_pi y cc' nL' n) (hl : ∀ s : State, x_N s → va_Nw (.methodLinkNest own index y host) s) (hw : ws = pre ++ (wc ++ post)) (hn : As.length = n) (hst : st = As.reverse ++ .ref b :: rest) (hrm : Nat.ble (rest.map Value.category).sum 8 = true) (hfit : x_fit R d' (ck + mc) (cn + ms) = true)
    (k : ∀ v w, post' v w → X G l own cc nL R Cx (ck + mc) (cn + ms) (pc + 3) lv (v.toList ++ rest) (pre ++ (w ++ post))) : X G l own cc nL R Cx ck cn pc lv st ws := fun p e s m args below meth c A Q hC hX H locs ls hP hD hS hlv => by
  subst hw hst
  obtain ⟨hx, hb, hml, hown, hts, hK, hA, hN⟩ := hC
  obtain ⟨f1, f2, f3⟩ := x_fits (mc := mc) (ms := ms) (nL' := nL') hfit pk.1.2.2.1
  refine x_core (va_runIN (As := As) (rest := rest) ⟨hx, hb, hml, hown, hts⟩ (hM H.size) ⟨va_cnB n hts (x_goodIn _ pk.1.1) rfl rfl rfl (hl s hN) (hts _ pk.1.2.1) pk.1.2.2.2 f1, pk.2.2, hts _ pk.2.1⟩ ⟨x_blind, x_gives (x_P_l (x_P_r hP)) (x_D_l (x_D_r hD)) hK hN⟩ rfl hn hlv.1 rfl (lv_room (Nat.le_of_ble_eq_true hrm)) hd ⟨f2, f3⟩) hP hD hS hA (fun v w hv H1 locs1 hP1 hD1 hS1 => ?_)
  exact k v w hv p e s m args below meth c A Q ⟨hx, hb, hml, hown, hts, hK, hA, hN⟩ hX H1 locs1 ls hP1 hD1 hS1 hlv
/-- ends -/
theorem x_ireturn {ty : FieldType} {ini : Bool} {post : Option Value → va_W → Prop} {v : Int32} (hd : decode cc pc = .ok (.ireturn, 1)) (hn : narrow ty (.int v) = .int v) (hq : post (some (.int v)) ws) : X G l own cc nL R (x_Cm G (some ty) ini post ck cn) ck cn pc lv [.int v] ws := fun p e s m args below meth c A Q hC hX H locs ls hP hD hS hl => by
  obtain ⟨hr, hlocks, -, rfl⟩ := hX
  exact W.zret hC.1 hC.2.1 hr hn (fun t ht _ => ⟨⟨_, _, rfl, hq, by rw [ht]; exact hP, hD⟩, hS.F ht⟩) hS.2.2 hd hlocks
theorem x_lreturn {ini : Bool} {post : Option Value → va_W → Prop} {v : Int64} (hd : decode cc pc = .ok (.lreturn, 1)) (hq : post (some (.long v)) ws) : X G l own cc nL R (x_Cm G (some .long) ini post ck cn) ck cn pc lv [.long v] ws := fun p e s m args below meth c A Q hC hX H locs ls hP hD hS hl => by
  obtain ⟨hr, hlocks, -, rfl⟩ := hX
  exact W.lret hC.1 hC.2.1 hr (fun t ht _ => ⟨⟨_, _, rfl, hq, by rw [ht]; exact hP, hD⟩, hS.F ht⟩) hS.2.2 hd hlocks
theorem x_return {ini : Bool} {post : Option Value → va_W → Prop} (hd : decode cc pc = .ok (.return_, 1)) (hq : post none ws) : X G l own cc nL R (x_Cm G none ini post ck cn) ck cn pc lv [] ws := fun p e s m args below meth c A Q hC hX H locs ls hP hD hS hl => by
  obtain ⟨hr, hlocks, -, rfl⟩ := hX
  exact W.vret hC.1 hC.2.1 hr (fun t ht _ => ⟨⟨_, _, rfl, hq, by rw [ht]; exact hP, hD⟩, hS.F ht⟩) hS.2.2 hd hlocks
theorem x_M.mono {y : MethodName} {ret : Option FieldType} {d mc ms : Nat} {av : List Value} {post post' : Option Value → va_W → Prop} (h : x_M G l y cc nL ret d mc ms av ws post) (hq : ∀ v w, post v w → post' v w) : x_M G l y cc nL ret d mc ms av ws post' := fun sz => by
  intro p e ha hc hk s m args below hf happ hP hKK
  obtain ⟨k, o, h1, h2, h3, h4⟩ := h sz p e ha hc hk s m args below hf happ hP hKK
  obtain ⟨⟨⟨v, w, q1, q2, q3⟩, q4⟩, q5⟩ := h4
  exact ⟨k, o, h1, h2, h3, ⟨⟨v, w, q1, hq v w q2, q3⟩, q4⟩, q5⟩
end XC
section XCD
variable {G : x_G} {l : Launch} {own : String} {cc : ByteArray} {nL : Nat} {R : Room} {Cx : x_K} {ck cn pc : Nat} {lv : List (Nat × Value)} {st st1 rest : List Value} {ws ws1 : va_W}
/-- calls whose answer and world are known; nothing is made -/
theorem x_cV {y : MethodName} {C : String} {cc' : ByteArray} {nL' d' n index ci b : Nat} {ret' : Option FieldType} {As : List Value} {wc w1 pre post : va_W} {v0 : Option Value} {fs : List Value} {r : vw_C} (q0 : Nat) (hd : decode cc pc = .ok (.invokevirtual index, 3)) (hM : x_M G l y cc' nL' ret' d' 0 0 (.ref b :: As) wc (x_is v0 w1)) (pk : x_pv C y cc' nL' ret' n) (hl : Cond.methodLink own index y ∈ lw_good) (hw : ws = pre ++ (wc ++ post)) (hq0 : wc[q0]? = some (b, .inr (ci, fs))) (hr : vwCl[ci]? = some r) (hrC : r.1 = C) (hn : As.length = n) (hst : st = As.reverse ++ .ref b :: rest) (hrm : Nat.ble (rest.map Value.category).sum 8 = true) (hfit : x_fit R d' ck cn = true) (hs : v0.toList ++ rest = st1) (hw' : pre ++ (w1 ++ post) = ws1)
    (k : X G l own cc nL R Cx ck cn (pc + 3) lv st1 ws1) : X G l own cc nL R Cx ck cn pc lv st ws := x_callV q0 hd hM pk hl hw hq0 hr hrC hn hst hrm hfit (fun v w hv => by
  obtain ⟨rfl, rfl⟩ := hv
  rw [hs, hw']
  exact k)
theorem x_cS {y : MethodName} {cc' : ByteArray} {nL' d' n index : Nat} {ret' : Option FieldType} {As : List Value} {wc w1 pre post : va_W} {v0 : Option Value} (hd : decode cc pc = .ok (.invokestatic index, 3)) (hM : x_M G l y cc' nL' ret' d' 0 0 As wc (x_is v0 w1)) (pk : x_ps y cc' nL' ret' n) (hl : Cond.methodLink own index y ∈ lw_good) (hw : ws = pre ++ (wc ++ post)) (hn : As.length = n) (hst : st = As.reverse ++ rest) (hrm : Nat.ble (rest.map Value.category).sum 8 = true) (hfit : x_fit R d' ck cn = true) (hs : v0.toList ++ rest = st1) (hw' : pre ++ (w1 ++ post) = ws1)
    (k : X G l own cc nL R Cx ck cn (pc + 3) lv st1 ws1) : X G l own cc nL R Cx ck cn pc lv st ws := x_callS hd hM pk hl hw hn hst hrm hfit (fun v w hv => by
  obtain ⟨rfl, rfl⟩ := hv
  rw [hs, hw']
  exact k)
theorem x_cSN {y : MethodName} {host : String} {cc' : ByteArray} {nL' d' n index : Nat} {ret' : Option FieldType} {As : List Value} {wc w1 pre post : va_W} {v0 : Option Value} (hd : decode cc pc = .ok (.invokestatic index, 3)) (hM : x_M G l y cc' nL' ret' d' 0 0 As wc (x_is v0 w1)) (pk : x_ps y cc' nL' ret' n) (hl : ∀ s : State, x_N s → va_Nw (.methodLinkNest own index y host) s) (hw : ws = pre ++ (wc ++ post)) (hn : As.length = n) (hst : st = As.reverse ++ rest) (hrm : Nat.ble (rest.map Value.category).sum 8 = true) (hfit : x_fit R d' ck cn = true) (hs : v0.toList ++ rest = st1) (hw' : pre ++ (w1 ++ post) = ws1)
    (k : X G l own cc nL R Cx ck cn (pc + 3) lv st1 ws1) : X G l own cc nL R Cx ck cn pc lv st ws := x_callSN hd hM pk hl hw hn hst hrm hfit (fun v w hv => by
  obtain ⟨rfl, rfl⟩ := hv
  rw [hs, hw']
  exact k)
theorem x_tswEq {dflt lo hi : Int} {offs : Array Int} {len : Nat} {x : Int32} {off : Int} (v : Int32) (tgt : Nat) (hx : x = v) (hd : decode cc pc = .ok (.tableswitch dflt lo hi offs, len)) (h1 : ¬ v.toInt < lo) (h2 : ¬ hi < v.toInt) (ho : offs[(v.toInt - lo).toNat]? = some off) (ht : (pc : Int) + off = (tgt : Int)) (k : X G l own cc nL R Cx ck cn tgt lv st ws) : X G l own cc nL R Cx ck cn pc lv (.int x :: st) ws := by
  subst hx
  exact x_tswIn tgt hd h1 h2 ho ht k
end XCD
/-- the index is in its row -/
abbrev inb (i : Int32) (n : Nat) : Prop := ¬ (i < 0 ∨ n ≤ i.toNatClampNeg)
/-- rows of a row of rows -/
def x_gI (ct : ClassId) (N : Nat) (ad : Nat → Nat) (M : Nat) (f : Nat → Nat → Int32) : va_W := (List.range N).map fun k => (ad k, .inl (ct, M, .inl (f k)))
def x_gL (ct : ClassId) (N : Nat) (ad : Nat → Nat) (M : Nat) (f : Nat → Nat → Int64) : va_W := (List.range N).map fun k => (ad k, .inl (ct, M, .inr (.inl (f k))))
def upd2 {α : Type} (f : Nat → Nat → α) (r : Nat) (g : Nat → α) : Nat → Nat → α := fun k => if k = r then g else f k
def x_oc (N : Nat) (ad : Nat → Nat) : Nat → Option Nat := fun k => if k < N then some (ad k) else none
theorem x_oc_at {N : Nat} {ad : Nat → Nat} {i : Int32} (h : inb i N) : x_oc N ad i.toNatClampNeg = some (ad i.toNatClampNeg) := if_pos (Nat.not_le.mp fun q => h (Or.inr q))
theorem x_gI_at {ct : ClassId} {N M r : Nat} {ad : Nat → Nat} {f : Nat → Nat → Int32} (h : r < N) : (x_gI ct N ad M f)[r]? = some (ad r, .inl (ct, M, .inl (f r))) := by
  unfold x_gI
  rw [List.getElem?_map, List.getElem?_range h]
  rfl
theorem x_gL_at {ct : ClassId} {N M r : Nat} {ad : Nat → Nat} {f : Nat → Nat → Int64} (h : r < N) : (x_gL ct N ad M f)[r]? = some (ad r, .inl (ct, M, .inr (.inl (f r)))) := by
  unfold x_gL
  rw [List.getElem?_map, List.getElem?_range h]
  rfl
theorem x_mapset {α : Type} {N r : Nat} {g g' : Nat → α} (hr : g' r = g' r) (h : ∀ k, k ≠ r → g' k = g k) : ((List.range N).map g).set r (g' r) = (List.range N).map g' := by
  apply List.ext_getElem?
  intro k
  rw [List.getElem?_set, List.getElem?_map, List.getElem?_map]
  by_cases e : r = k
  · subst e
    by_cases hk : r < N
    · simp [hk]
    · simp [hk]
  · rw [if_neg e]
    by_cases hk : k < N
    · rw [List.getElem?_range hk]
      show some (g k) = some (g' k)
      rw [h k (fun q => e q.symm)]
    · rw [List.getElem?_eq_none (by simpa using Nat.le_of_not_lt hk)]
      rfl
theorem x_gI_set {ct : ClassId} {N M r : Nat} {ad : Nat → Nat} {f : Nat → Nat → Int32} {g : Nat → Int32} : (x_gI ct N ad M f).set r (ad r, .inl (ct, M, .inl g)) = x_gI ct N ad M (upd2 f r g) := by
  have h := x_mapset (N := N) (r := r) (g := fun k => (ad k, (.inl (ct, M, .inl (f k)) : va_E))) (g' := fun k => (ad k, .inl (ct, M, .inl (upd2 f r g k)))) rfl (fun k hk => by simp [upd2, hk])
  simp only [upd2, if_pos] at h
  exact h
theorem x_gL_set {ct : ClassId} {N M r : Nat} {ad : Nat → Nat} {f : Nat → Nat → Int64} {g : Nat → Int64} : (x_gL ct N ad M f).set r (ad r, .inl (ct, M, .inr (.inl g))) = x_gL ct N ad M (upd2 f r g) := by
  have h := x_mapset (N := N) (r := r) (g := fun k => (ad k, (.inl (ct, M, .inr (.inl (f k))) : va_E))) (g' := fun k => (ad k, .inl (ct, M, .inr (.inl (upd2 f r g k))))) rfl (fun k hk => by simp [upd2, hk])
  simp only [upd2, if_pos] at h
  exact h
def x_fuel : Nat := 1000000
theorem x_pos {c : Prop} {hd : Decidable c} {α : Type} {A B r : α} (hc : c) (h : @ite α c hd A B = r) : A = r := by rw [if_pos hc] at h; exact h
theorem x_neg {c : Prop} {hd : Decidable c} {α : Type} {A B r : α} (hc : ¬ c) (h : @ite α c hd A B = r) : B = r := by rw [if_neg hc] at h; exact h
theorem x_guard {c : Prop} {hd : Decidable c} {α : Type} {A : Option α} {r : α} (h : @ite (Option α) c hd A none = some r) : c ∧ A = some r := by
  by_cases hc : c
  · rw [if_pos hc] at h
    exact ⟨hc, h⟩
  · rw [if_neg hc] at h
    cases h
theorem x_bind {α β : Type} {a : Option α} {f : α → Option β} {r : β} (h : a.bind f = some r) : ∃ z, a = some z ∧ f z = some r := Option.bind_eq_some_iff.mp h
theorem x_full (w : va_W) : w = [] ++ (w ++ []) := by simp
/-- the worlds of the system's parts -/
def WShelf (G : x_G) (a : Nat → Nat) (N M : Nat) (most blank : Int32) (sizes : Nat → Int32) (places : Nat → Nat → Int32) : va_W :=
  (a 0, .inr (3, [.int most, .int blank, .ref (a 1), .ref (a 2)])) :: (a 1, .inl (G.2 3, N, .inr (.inr (.inr (.inr (x_oc N (fun k => a (3 + k)))))))) :: (a 2, .inl (G.2 0, N, .inl sizes)) :: x_gI (G.2 0) N (fun k => a (3 + k)) M places
def WLog (G : x_G) (a : Nat → Nat) (states : Nat → Int64) (size : Int32) (kept : Nat → Nat → Int64) (keptSizes : Nat → Int32) : va_W :=
  (a 0, .inr (0, [.ref (a 1), .int size, .ref (a 2), .ref (a 3)])) :: (a 1, .inl (G.2 2, 41, .inr (.inl states))) :: (a 2, .inl (G.2 4, 3, .inr (.inr (.inr (.inr (x_oc 3 (fun k => a (4 + k)))))))) :: (a 3, .inl (G.2 0, 3, .inl keptSizes)) :: x_gL (G.2 2) 3 (fun k => a (4 + k)) 41 kept
def WReader (G : x_G) (a : Nat → Nat) (signs : Nat → Int32) (size place fault head : Int32) : va_W :=
  [(a 0, .inr (1, [.ref (a 1), .int size, .int place, .int fault, .int head])), (a 1, .inl (G.2 0, 60, .inl signs))]
def WRig (G : x_G) (a : Nat → Nat) (ropes acts : Int32) (start : Int64) (reached : Int32) (kinds strengths moved needs forbids : Nat → Int32) : va_W :=
  [(a 0, .inr (2, [.int ropes, .int acts, .long start, .int reached, .ref (a 1), .ref (a 2), .ref (a 3), .ref (a 4), .ref (a 5)])), (a 1, .inl (G.2 0, 6, .inl kinds)), (a 2, .inl (G.2 0, 6, .inl strengths)), (a 3, .inl (G.2 0, 6, .inl moved)), (a 4, .inl (G.2 0, 4, .inl needs)), (a 5, .inl (G.2 0, 4, .inl forbids))]
def WArr (G : x_G) (a : Nat → Nat) (N : Nat) (f : Nat → Int32) : va_W := [(a 0, .inl (G.2 0, N, .inl f))]
def WO (_ : x_G) (a ar al af ax ad b c aq : Nat → Nat) (latestFinding latestAsked : Int32) (upper lower : Int64) : va_W :=
  [(a 0, .inr (4, [.ref (ar 0), .ref (ax 0), .ref (ad 0), .ref (al 0), .ref (aq 0), .ref (af 0), .ref (b 0), .ref (c 0), .int latestFinding, .int latestAsked, .long upper, .long lower]))]
theorem WShelf_at {G : x_G} {a : Nat → Nat} {N M r : Nat} {most blank : Int32} {sizes : Nat → Int32} {places : Nat → Nat → Int32} (h : r < N) : (WShelf G a N M most blank sizes places)[r + 3]? = some (a (3 + r), .inl (G.2 0, M, .inl (places r))) := by
  unfold WShelf
  rw [List.getElem?_cons_succ, List.getElem?_cons_succ, List.getElem?_cons_succ]
  exact x_gI_at h
theorem WShelf_set {G : x_G} {a : Nat → Nat} {N M r : Nat} {most blank : Int32} {sizes : Nat → Int32} {places : Nat → Nat → Int32} {g : Nat → Int32} : (WShelf G a N M most blank sizes places).set (r + 3) (a (3 + r), .inl (G.2 0, M, .inl g)) = WShelf G a N M most blank sizes (upd2 places r g) := by
  unfold WShelf
  rw [List.set_cons_succ, List.set_cons_succ, List.set_cons_succ, x_gI_set]
theorem WLog_at {G : x_G} {a : Nat → Nat} {r : Nat} {states : Nat → Int64} {size : Int32} {kept : Nat → Nat → Int64} {keptSizes : Nat → Int32} (h : r < 3) : (WLog G a states size kept keptSizes)[r + 4]? = some (a (4 + r), .inl (G.2 2, 41, .inr (.inl (kept r)))) := by
  unfold WLog
  rw [List.getElem?_cons_succ, List.getElem?_cons_succ, List.getElem?_cons_succ, List.getElem?_cons_succ]
  exact x_gL_at h
theorem WLog_set {G : x_G} {a : Nat → Nat} {r : Nat} {states : Nat → Int64} {size : Int32} {kept : Nat → Nat → Int64} {keptSizes : Nat → Int32} {g : Nat → Int64} : (WLog G a states size kept keptSizes).set (r + 4) (a (4 + r), .inl (G.2 2, 41, .inr (.inl g))) = WLog G a states size (upd2 kept r g) keptSizes := by
  unfold WLog
  rw [List.set_cons_succ, List.set_cons_succ, List.set_cons_succ, List.set_cons_succ, x_gL_set]
/-- System.arraycopy of ints -/
abbrev x_cpok (sp dp n : Int32) (M : Nat) : Prop := ¬ sp < 0 ∧ ¬ dp < 0 ∧ ¬ n < 0 ∧ sp.toNatClampNeg + n.toNatClampNeg ≤ M ∧ dp.toNatClampNeg + n.toNatClampNeg ≤ M
theorem x_acopy {G : x_G} {l : Launch} {own : String} {cc : ByteArray} {nL : Nat} {R : Room} {Cx : x_K} {pc index : Nat} {lv : List (Nat × Value)} {rest : List Value} {ws : va_W} {a a0 M q0 q1 : Nat} {f g : Nat → Int32} {sp dp n : Int32} (ws' : va_W) (hd : decode cc pc = .ok (.invokestatic index, 3)) (hw : (Cond.methodLink own index arraycopyName ∈ lw_good) ∧ (Cond.native arraycopyName ∈ lw_good) ∧ (Cond.static arraycopyName ∈ lw_good) ∧ (Cond.initialized "java/lang/System" ∈ lw_good)) (hb : x_cpok sp dp n M) (ha0 : ws[q0]? = some (a0, .inl (G.2 0, M, .inl f))) (ha1 : ws[q1]? = some (a, .inl (G.2 0, M, .inl g))) (hrm : Nat.ble (rest.map Value.category).sum 8 = true) (hfit : x_fit R 0 0 0 = true) (hw' : ws.set q1 (a, .inl (G.2 0, M, .inl (va_cpy f g sp.toNatClampNeg dp.toNatClampNeg n.toNatClampNeg))) = ws')
    (k : X G l own cc nL R Cx 0 0 (pc + 3) lv rest ws') : X G l own cc nL R Cx 0 0 pc lv (.int n :: .int dp :: .ref a :: .int sp :: .ref a0 :: rest) ws := fun p e s m args below meth c A Q hC hX H locs ls hP hD hS hl => by
  have hf := hfit
  unfold x_fit at hf
  simp only [Bool.and_eq_true, Nat.ble_eq] at hf
  have hnw : nativeFrameWords "java/lang/System" "arraycopy" 5 + 11 ≤ 56 := by decide +kernel
  have hr8 : (rest.map fun v => v.category).sum ≤ 8 := Nat.le_of_ble_eq_true hrm
  refine va_copyi hC.1 hC.2.1 (by rw [hC.2.2.1, hl.1]) hC.2.2.2.1 (hC.2.2.2.2.1 _ hw.1) (hC.2.2.2.2.1 _ hw.2.1) (hC.2.2.2.2.1 _ hw.2.2.1) (hC.2.2.2.2.1 _ hw.2.2.2) hC.2.2.2.2.2.1 hP hD hS q0 q1 0 0 ha0 ha1 rfl rfl rfl hb.1 hb.2.1 hb.2.2.1 hb.2.2.2.1 hb.2.2.2.2 (fun _ _ => rfl) (by omega) (by omega) hd (fun H locs hP hD hS => ?_)
  subst hw'
  exact k p e s m args below meth c A Q hC hX H locs ls hP hD hS hl
theorem x_fit_n (k n : Nat) : x_fit (x_R (k + (n + 1)) 0 0) (k + n) 0 0 = true := by
  unfold x_fit x_R
  simp only [Bool.and_eq_true, Nat.ble_eq]
  omega
theorem x_fit_l {k n e : Nat} (h : e + 1 ≤ k) : x_fit (x_R (k + (n + 1)) 0 0) e 0 0 = true := by
  unfold x_fit x_R
  simp only [Bool.and_eq_true, Nat.ble_eq]
  omega
