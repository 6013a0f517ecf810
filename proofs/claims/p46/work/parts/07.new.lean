/-! THE CLAIM OUT OF ONE WALK OF THE LAW'S BODY. Your part is whole_start (and what it stands on); all else here is the same for every law, but numbers. -/
def R_law : String := "LawRiggingLaw"
def lw_P (b : Addr) (xs : List Int32) (args : Array Value) (s : State) : Prop := args = #[.ref b] ∧ s.IntsAt b xs ∧ xs.length ≤ 260 ∧ (Jvm.Cond.and given_1 narrow_1).before args s = true
def lw_Q (_ : Array Value) (s : State) (o : Outcome) (t : State) : Prop := o = .returned (some (.int 1)) ∧ Framed s o t [] 600000 7302250
def lw_Z (below : List Frame) (a : Array Value) (s : State) : State → Prop := fun t => ∃ o, t.status = .running ∧ Ended t below o ∧ lw_Q a s o t
/-- the law's own end, with 1 on the stack, nothing written that was there before, its room as the claim has it -/
theorem lw_ret {p : Program} {l : Launch} {e : Env} {s : State} {m : MethodId} {below : List Frame} {meth : Method} {c : Code} {b : Nat} (hx : p.tables.exec = Jvm.exec) (hb : c.code = code) (hr : meth.sig.returnType = ret) (hlocks : meth.locks = false) {pc : Nat} {H : Heap} {ls : Array Slot} (hdg : decode code pc = .ok (.ireturn, 1)) : W p l e room_1 s m #[Value.ref b] below meth c H [] 600000 7302250 (lw_Z below #[Value.ref b] s) (F0 m pc ls [.int 1]) := by
  intro T hT X
  obtain ⟨fs, hret, hrun, hended, hW, hframe⟩ := X.leave (v := some (.int 1)) (hlocks := hlocks) (fun h => by rw [hr] at h; cases h)
  have hmeth' : T.vm.method? m = some meth := X.method'
  refine ⟨T.setFrames fs, ?_, .returned (some (.int 1)), hrun, hended, rfl, ⟨_, rfl⟩, hW, hframe⟩
  jvm_step X.here [X.here.top, hx, hb, hdg, hmeth', hr, ret, narrow_b1]
  (try refine ⟨rfl, ?_⟩); (try refine ⟨rfl, ?_⟩)
  first | (intro acts; rw [hret _ acts rfl rfl rfl]) | rw [hret _ _ rfl rfl rfl]
  exact Steps.refl _
/-- what holds at the law's entry: the machine, the code, the tables' words (any of lw_tbl by 'hts w (by decide +kernel)'), the script of L ints xs at the cell b, what the Statement gives of the start (any of its parts by flat_of_before) -/
def lw_At (p : Program) (s : State) (m : MethodId) (meth : Method) (c : Code) (b L : Nat) (xs : Nat → Int32) : Prop :=
  p.tables.exec = Jvm.exec ∧ c.code = code ∧ meth.sig.returnType = ret ∧ c.maxLocals = 38 ∧ s.vm.findClass R_law = some m.cls ∧ (∀ w ∈ lw_tbl, w.before #[Value.ref b] s = true) ∧ va_X b L xs s s.heap ∧ b < s.heap.size ∧ meth.locks = false ∧ (Jvm.Cond.and given_1 narrow_1).before #[Value.ref b] s = true
/-! ===== BEGIN new T[n][m]: the outer array a place, the inner ones among the pooled ===== -/
def va_AOA (ty : FieldType) (U : State) : Prop := (Cond.arrayOver (.array ty)).before #[] U = true
theorem va_AOA.use {ty : FieldType} {A : Array Value} {U : State} (h : va_AOA ty U) : (Cond.arrayOver (.array ty)).before A U = true := h
/-- f, but v at every address of l -/
def vr_up {α : Type} (f : Nat → α) (l : List Nat) (v : α) : Nat → α := fun a => if a ∈ l then v else f a
theorem vr_up_in {α : Type} {f : Nat → α} {l : List Nat} {v : α} {a : Nat} (h : a ∈ l) : vr_up f l v a = v := if_pos h
theorem vr_up_ne {α : Type} {f : Nat → α} {l : List Nat} {v : α} {a : Nat} (h : a ∉ l) : vr_up f l v a = f a := if_neg h
theorem vr_rows {L l : List Nat} {f : Nat → va_E} {e : va_E} (h : ∀ a, a ∈ l → a ∉ L) : va_pl L f ++ l.map (fun a => (a, e)) = va_pl (L ++ l) (vr_up f l e) := by
  unfold va_pl
  rw [List.map_append]
  congr 1
  · apply List.map_congr_left
    intro a ha
    rw [vr_up_ne (fun q => h a q ha)]
  · apply List.map_congr_left
    intro a ha
    rw [vr_up_in ha]
theorem vr_lay {X rows : va_W} {x : Nat × va_E} {pl : va_W} {D : va_G} {cl : List vw_C} {H : Heap} (hP : va_P D cl (((X ++ pl) ++ [x]) ++ rows) H) : va_P D cl ((X ++ [x]) ++ (pl ++ rows)) H := by
  rw [List.append_assoc (X ++ pl)] at hP
  have h := va_P.swap hP
  rw [← List.append_assoc X] at h
  have h2 := va_P.swap h
  rw [List.append_assoc (X ++ [x])] at h2
  exact h2
theorem vr_layD {X rows : va_W} {x : Nat × va_E} {pl : va_W} {A : Nat → Prop} (hD : va_D A (((X ++ pl) ++ [x]) ++ rows)) : va_D A ((X ++ [x]) ++ (pl ++ rows)) := by
  rw [List.append_assoc (X ++ pl)] at hD
  have h := va_D.swap hD
  rw [← List.append_assoc X] at h
  have h2 := va_D.swap h
  rw [List.append_assoc (X ++ [x])] at h2
  exact h2
theorem vr_outer (c : ClassId) (N h0 : Nat) : ∀ i : Nat, Jvm.Free.Multi.outerC c N h0 i = arrV c N (fun j => va_rf (if j < i then some (h0 + 1 + j) else none))
  | 0 => by
    show ({ cls := c, slots := Array.replicate N .null, vm := .none } : Cell) = _
    rw [arrV_new]
    refine congrArg (arrV c N) (funext fun j => ?_)
    simp [va_rf]
  | i + 1 => by
    show (Jvm.Free.Multi.outerC c N h0 i).setSlot i (.ref (h0 + 1 + i)) = _
    rw [vr_outer c N h0 i, arrV_store]
    refine congrArg (arrV c N) (funext fun j => ?_)
    by_cases e : j = i
    · subst e
      simp [updV, va_rf]
    · by_cases h : j < i
      · simp [updV, e, h, Nat.lt_succ_of_lt h]
      · simp [updV, e, h, show ¬ j < i + 1 by omega]
section VGM
variable {p : Program} {l : Launch} {e : Env} {R : Room} {s : State} {m : MethodId} {args : Array Value} {below : List Frame} {meth : Method} {c : Code} {H : Heap} {locs : List Loc} {cells slots : Nat} {Q : State → Prop}
variable {cc : ByteArray} {pc : Nat} {ls : Array Slot} {rest : List Value} {D : va_G} {cl : List vw_C} {A : Nat → Prop} {a : Nat} {tys : List (ClassId × FieldType)} {ws : va_W} {H0 : Heap}
theorem va_mna {X : va_W} {L : List Nat} {f : Nat → va_E} {cc : ByteArray} (hexec : p.tables.exec = Jvm.exec) (hb : c.code = cc) {own : String} {index : Nat} {ty : FieldType} {cy : ClassId} (hown : s.vm.findClass own = some m.cls) (hclink : (Cond.classLink own index ("[" ++ (FieldType.array ty).toString)).before args s = true) (hover : va_AOA ty s) (harr : (Cond.arrayClass ty).before args s = true) (hcy : s.vm.findClass (FieldType.array ty).toString = some cy)
    (hK : va_K D cl tys s) (hP : va_P D cl (X ++ va_pl L f) H) (hD : va_D A (X ++ va_pl L f)) (hS : va_S A H0 H locs) (hA : ∀ q, H0.size ≤ q → A q) {n k : Int32} {N' K' : Nat} {z : vp_A} (hn : ¬ n < 0) (hk : ¬ k < 0) (hN : n.toNatClampNeg = N') (hM : k.toNatClampNeg = K')
    (hb1 : N' * 4 ≤ 536870912) (hb2 : K' * componentBytes ty ≤ 536870912) (hb3 : K' ≤ 536870912) (hdf : fits ty (defaultValue ty) = true) (hdd : (defaultValue ty).isDefault = true) (hcells : cells + (1 + N') ≤ R.cells) (hslots : slots + (N' + N' * K') ≤ R.slots) (hz : ∀ c : ClassId, Jvm.Free.Multi.innerC c K' (defaultValue ty) = vp_cell c z) (hdg : decode cc pc = .ok (.multianewarray index 2, 4))
    (kk : ∀ (q : Nat) (r : Nat → Nat) (cA : ClassId) (H1 : Heap), (∀ i j : Nat, i < N' → j < N' → r i = r j → i = j) → (∀ i : Nat, i < N' → r i ∉ L) → va_K D cl (tys ++ [(cA, .array ty)]) s →
      va_P D cl ((X ++ [(q, .inl (cA, N', .inr (.inr (.inr (.inr (fun i => if i < N' then some (r i) else none))))))]) ++ va_pl (L ++ (List.range N').map r) (vr_up f ((List.range N').map r) (.inl (cy, z)))) H1 → va_D A ((X ++ [(q, .inl (cA, N', .inr (.inr (.inr (.inr (fun i => if i < N' then some (r i) else none))))))]) ++ va_pl (L ++ (List.range N').map r) (vr_up f ((List.range N').map r) (.inl (cy, z)))) → va_S A H0 H1 locs →
      W p l e R s m args below meth c H1 locs (cells + 1 + N') (slots + N' + N' * K') Q (F0 m (pc + 4) ls (.ref q :: rest))) : W p l e R s m args below meth c H locs cells slots Q (F0 m pc ls (.int k :: .int n :: rest)) := by
  subst hN
  subst hM
  intro T hT Xs
  obtain ⟨vm₁, cA, comp, -, fA, fC, hO, -, X', step⟩ := Xs.multianewarray2F hexec hown hclink (va_AOA.use hover) harr (g := F0 m pc ls (.int k :: .int n :: rest)) rfl (by rw [hb]; exact hdg) rfl hn hk hb1 hb2 hb3 hdf hdd hcells hslots
  have ec : some cy = some comp := hcy.symm.trans fC
  cases ec
  generalize hF : Jvm.Free.Multi.fill (T.setVm vm₁) cA cy n.toNatClampNeg k.toNatClampNeg (defaultValue ty) n.toNatClampNeg = F at X' step
  have hTh : (T.setVm vm₁).heap = H := hT
  obtain ⟨f1, f2, -, -⟩ := Jvm.Free.Multi.fill_facts (T.setVm vm₁) cA cy n.toNatClampNeg k.toNatClampNeg (defaultValue ty) n.toNatClampNeg
  rw [hF, hTh] at f1 f2
  have hold : ∀ x : Nat, x < H.size → F.heap[x]? = H[x]? := fun x hx => by
    have := Jvm.Free.Multi.fill_old (T.setVm vm₁) cA cy n.toNatClampNeg k.toNatClampNeg (defaultValue ty) (a := x) (by rw [hTh]; exact hx) n.toNatClampNeg
    rw [hF, hTh] at this
    exact this
  have hrow : ∀ j : Nat, j < n.toNatClampNeg → F.heap[H.size + 1 + j]? = some (vp_cell cy z) := fun j hj => by
    have := Jvm.Free.Multi.fill_inner (T.setVm vm₁) cA cy n.toNatClampNeg k.toNatClampNeg (defaultValue ty) n.toNatClampNeg j hj
    rw [hF, hTh, hz] at this
    exact this
  have hout : Jvm.Free.Multi.outerC cA n.toNatClampNeg H.size n.toNatClampNeg = vp_cell cA (n.toNatClampNeg, .inr (.inr (.inr (.inr (fun i => if i < n.toNatClampNeg then some (H.size + 1 + i) else none))))) := by
    rw [vp_cell_q]
    exact vr_outer cA n.toNatClampNeg H.size n.toNatClampNeg
  rw [hout] at f2
  have hlt : ∀ a, a ∈ L → a < H.size := fun a ha => by
    obtain ⟨k9, hk9⟩ := va_pl_get (X := X) (f := f) ha
    exact (hP k9 _ hk9).lt
  have hnl : ∀ i : Nat, i < n.toNatClampNeg → H.size + 1 + i ∉ L := fun i _ h => by
    have := hlt _ h
    omega
  have hnm : ∀ a, a ∈ (List.range n.toNatClampNeg).map (fun i => H.size + 1 + i) → a ∉ L := fun a ha h => by
    obtain ⟨i, -, rfl⟩ := List.mem_map.mp ha
    have := hlt _ h
    omega
  have hP0 : va_P D cl (X ++ va_pl L f) F.heap := hP.kept (fun k9 x hx => hold x.1 ((hP k9 x hx).lt))
  have hP1 : va_P D cl ((X ++ va_pl L f) ++ [(H.size, .inl (cA, n.toNatClampNeg, .inr (.inr (.inr (.inr (fun i => if i < n.toNatClampNeg then some (H.size + 1 + i) else none))))))]) F.heap := hP0.app (fun k9 x hx => by
    have h0 : k9 < 1 := (List.getElem?_eq_some_iff.mp hx).1
    rw [show k9 = 0 by omega] at hx
    cases hx
    exact f2)
  have hP2 : va_P D cl (((X ++ va_pl L f) ++ [(H.size, .inl (cA, n.toNatClampNeg, .inr (.inr (.inr (.inr (fun i => if i < n.toNatClampNeg then some (H.size + 1 + i) else none))))))]) ++ ((List.range n.toNatClampNeg).map (fun i => H.size + 1 + i)).map (fun a => (a, .inl (cy, z)))) F.heap := hP1.app (fun k9 x hx => by
    obtain ⟨a, ha, rfl⟩ := List.mem_map.mp (List.mem_of_getElem? hx)
    obtain ⟨i, hi, rfl⟩ := List.mem_map.mp ha
    exact hrow i (List.mem_range.mp hi))
  have hD2 : va_D A (((X ++ va_pl L f) ++ [(H.size, .inl (cA, n.toNatClampNeg, .inr (.inr (.inr (.inr (fun i => if i < n.toNatClampNeg then some (H.size + 1 + i) else none))))))]) ++ ((List.range n.toNatClampNeg).map (fun i => H.size + 1 + i)).map (fun a => (a, .inl (cy, z)))) := by
    have hD1 := hD.push (e := .inl (cA, n.toNatClampNeg, .inr (.inr (.inr (.inr (fun i => if i < n.toNatClampNeg then some (H.size + 1 + i) else none)))))) hP rfl (hA _ hS.1)
    generalize hW1 : (X ++ va_pl L f) ++ [(H.size, .inl (cA, n.toNatClampNeg, .inr (.inr (.inr (.inr (fun i => if i < n.toNatClampNeg then some (H.size + 1 + i) else none))))))] = W1 at hD1 hP1 ⊢
    have hle : ∀ (k9 : Nat) (x : Nat × va_E), W1[k9]? = some x → x.1 ≤ H.size := fun k9 x hx => by
      rw [← hW1] at hx
      by_cases hl : k9 < (X ++ va_pl L f).length
      · rw [List.getElem?_append_left hl] at hx
        exact Nat.le_of_lt ((hP k9 x hx).lt)
      · rw [List.getElem?_append_right (by omega)] at hx
        have h0 : k9 - (X ++ va_pl L f).length < 1 := (List.getElem?_eq_some_iff.mp hx).1
        rw [show k9 - (X ++ va_pl L f).length = 0 by omega] at hx
        cases hx
        exact Nat.le_refl _
    have hr : ∀ (k9 : Nat) (x : Nat × va_E), (((List.range n.toNatClampNeg).map (fun i => H.size + 1 + i)).map (fun a => ((a, .inl (cy, z)) : Nat × va_E)))[k9]? = some x → x.1 = H.size + 1 + k9 := fun k9 x hx => by
      rw [List.getElem?_map, List.getElem?_map] at hx
      by_cases h9 : k9 < n.toNatClampNeg
      · rw [List.getElem?_range h9] at hx
        cases hx
        rfl
      · have hn0 : (List.range n.toNatClampNeg)[k9]? = none := List.getElem?_eq_none (by rw [List.length_range]; omega)
        rw [hn0] at hx
        cases hx
    refine ⟨fun i j x y hi hj hxy => ?_, fun k9 x hx => ?_⟩
    · by_cases h1 : i < W1.length <;> by_cases h2 : j < W1.length
      · rw [List.getElem?_append_left h1] at hi
        rw [List.getElem?_append_left h2] at hj
        exact hD1.1 i j x y hi hj hxy
      · rw [List.getElem?_append_left h1] at hi
        rw [List.getElem?_append_right (by omega)] at hj
        have := hle _ _ hi
        have := hr _ _ hj
        omega
      · rw [List.getElem?_append_right (by omega)] at hi
        rw [List.getElem?_append_left h2] at hj
        have := hle _ _ hj
        have := hr _ _ hi
        omega
      · rw [List.getElem?_append_right (by omega)] at hi hj
        have := hr _ _ hi
        have := hr _ _ hj
        omega
    · by_cases h1 : k9 < W1.length
      · rw [List.getElem?_append_left h1] at hx
        exact hD1.2 k9 x hx
      · rw [List.getElem?_append_right (by omega)] at hx
        have := hr _ _ hx
        exact hA _ (by have := hS.1; omega)
  have hAr : ArrOfT s cA (.array ty) := fun N9 z9 => by
    obtain ⟨-, k9, hk9, cm9, hkk9⟩ := (hO 0 0 0).1
    exact ⟨(fun q hq => by cases hq), k9, hk9, cm9, hkk9⟩
  have hK2 : va_K D cl (tys ++ [(cA, .array ty)]) s := ⟨hK.1, fun k9 x hx => by
    by_cases hl : k9 < tys.length
    · rw [List.getElem?_append_left hl] at hx
      exact hK.2 k9 x hx
    · rw [List.getElem?_append_right (by omega)] at hx
      have h0 : k9 - tys.length < 1 := (List.getElem?_eq_some_iff.mp hx).1
      rw [show k9 - tys.length = 0 by omega] at hx
      cases hx
      exact ⟨hAr, fA⟩⟩
  obtain ⟨t, a1, b1⟩ := kk H.size (fun i => H.size + 1 + i) cA F.heap (fun i j _ _ h => by have h9 : H.size + 1 + i = H.size + 1 + j := h; omega) hnl hK2 (by rw [← vr_rows hnm]; exact vr_lay hP2) (by rw [← vr_rows hnm]; exact vr_layD hD2) ⟨by rw [f1]; have := hS.1; omega, fun x h1 h2 => (hold x (Nat.lt_of_lt_of_le h1 hS.1)).trans (hS.2.1 x h1 h2), hS.2.2⟩ F rfl X'
  refine ⟨t, step t ?_, b1⟩
  have e : T.heap.size = H.size := by rw [hT]
  rw [e]
  exact a1
end VGM
/-! ===== END ===== -/
section XN
variable {G : x_G} {l : Launch} {own : String} {cc : ByteArray} {nL : Nat} {R : Room} {Cx : x_K} {ck cn pc : Nat} {lv : List (Nat × Value)} {st : List Value} {ws : va_W}
theorem x_objInit {a : Nat} {d mc ms index : Nat} (hd : decode cc pc = .ok (.invokespecial index, 3)) (hw : Cond.methodLink own index objectInit ∈ lw_good) (k : X G l own cc nL (x_R (d + 1) mc ms) Cx ck cn (pc + 3) lv [] ws) : X G l own cc nL (x_R (d + 1) mc ms) Cx ck cn pc lv [.ref a] ws := fun p e s m args below meth c A Q hC hX H locs ls hP hD hS hl => by
  refine W.objInit hC.1 hC.2.1 hC.2.2.2.1 (hC.2.2.2.2.1 _ hw) (hC.2.2.2.2.1 _ ob_im) (hC.2.2.2.2.1 _ ob_co) rfl (by rw [hC.2.2.1]; exact hl.1) rfl hd (by show 1 ≤ d + 1; omega) ?_ ?_
  · show 2 * 0 + 0 + 12 ≤ 64 * (d + 1)
    omega
  · exact k p e s m args below meth c A Q hC hX H locs ls hP hD hS hl
theorem x_new {C : String} {T : u_T} {N ci index : Nat} {ty : Nat → FieldType} {fs : List Value} (hd : decode cc pc = .ok (.new index, 3)) (hw : Cond.classLink own index C ∈ lw_good) (hi : Cond.instantiable C N ∈ lw_good) (hni : Cond.initialized C ∈ lw_good) (hin : ∀ w ∈ u_ws C T N, w ∈ lw_good) (hty : ∀ k, k < N → parseFieldDescriptor (T k).2.2.1 = some (ty k)) (hc : vwCl[ci]? = some (C, T, N)) (hfs : ∀ j, j < N → defaultValue (ty j) = vp_V fs j) (hfit : ((ck + 1).ble R.cells && (cn + N).ble R.slots) = true)
    (k : ∀ q, X G l own cc nL R Cx (ck + 1) (cn + N) (pc + 3) lv (.ref q :: st) (ws ++ [(q, .inr (ci, fs))])) : X G l own cc nL R Cx ck cn pc lv st ws := fun p e s m args below meth c A Q hC hX H locs ls hP hD hS hl => by
  simp only [Bool.and_eq_true, Nat.ble_eq] at hfit
  exact va_new (C := C) hC.1 hC.2.1 hC.2.2.2.2.1 hin ty hty hC.2.2.2.1 (hC.2.2.2.2.1 _ hw) (hC.2.2.2.2.1 _ hi) (hC.2.2.2.2.1 _ hni) hC.2.2.2.2.2.1 hP hD hS hC.2.2.2.2.2.2.1 hc hfs hfit.1 hfit.2 hd (fun q H hP hD hS => k q p e s m args below meth c A Q hC hX H locs ls hP hD hS hl)
theorem x_newa {atype : ArrayType} {ty : FieldType} {a0 : vp_A} {n : Int32} (t0 N : Nat) (hd : decode cc pc = .ok (.newarray atype, 2)) (hw : Cond.arrayClass ty ∈ lw_good) (hty : newarray.typeOf atype = ty) (ht : (x_tys G)[t0]? = some (G.2 t0, ty)) (hnm : ∀ (s : State) (cA : ClassId), va_RA s cA ty ↔ s.vm.findClass ("[" ++ ty.toString) = some cA) (ha : ∀ cA : ClassId, vp_cell cA a0 = arrV cA N (fun _ => defaultValue ty)) (hn : ¬ n < 0) (hN : n.toNatClampNeg = N) (hb : N * componentBytes ty ≤ 536870912) (hfit : ((ck + 1).ble R.cells && (cn + N).ble R.slots) = true)
    (k : ∀ q, X G l own cc nL R Cx (ck + 1) (cn + N) (pc + 2) lv (.ref q :: st) (ws ++ [(q, .inl (G.2 t0, a0))])) : X G l own cc nL R Cx ck cn pc lv (.int n :: st) ws := fun p e s m args below meth c A Q hC hX H locs ls hP hD hS hl => by
  simp only [Bool.and_eq_true, Nat.ble_eq] at hfit
  refine va_newa (ty := ty) hC.1 hC.2.1 (by rw [hty]; exact hC.2.2.2.2.1 _ hw) hty hC.2.2.2.2.2.1 hP hD hS hC.2.2.2.2.2.2.1 ha hn hN hb hfit.1 hfit.2 hd (fun q cA H hK hP hD hS => ?_)
  have e1 : va_RA s cA ty := (hK.2 5 _ rfl).2
  have e2 : va_RA s (G.2 t0) ty := (hC.2.2.2.2.2.1.2 t0 _ ht).2
  have e : cA = G.2 t0 := Option.some.inj (((hnm s cA).mp e1).symm.trans ((hnm s (G.2 t0)).mp e2))
  subst e
  exact k q p e s m args below meth c A Q hC hX H locs ls hP hD hS hl
theorem x_nm_int (s : State) (cA : ClassId) : va_RA s cA .int ↔ s.vm.findClass ("[" ++ FieldType.int.toString) = some cA := Iff.rfl
theorem x_nm_long (s : State) (cA : ClassId) : va_RA s cA .long ↔ s.vm.findClass ("[" ++ FieldType.long.toString) = some cA := Iff.rfl
theorem x_plnil {L : List Nat} {f : Nat → va_E} {e : va_E} {N : Nat} {r : Nat → Nat} (hL : L = []) : va_pl (L ++ (List.range N).map r) (vr_up f ((List.range N).map r) e) = (List.range N).map (fun k => (r k, e)) := by
  subst hL
  unfold va_pl
  rw [List.nil_append, List.map_map]
  apply List.map_congr_left
  intro i hi
  show (r i, vr_up f _ e (r i)) = (r i, e)
  rw [vr_up_in (List.mem_map.mpr ⟨i, hi, rfl⟩)]
theorem x_multi {ty : FieldType} {z : vp_A} {n k0 : Int32} {index : Nat} (t0 t1 N K : Nat) (hd : decode cc pc = .ok (.multianewarray index 2, 4)) (hcl : Cond.classLink own index ("[" ++ (FieldType.array ty).toString) ∈ lw_good) (hov : ∀ s : State, x_N s → x_ao ty s) (hac : Cond.arrayClass ty ∈ lw_good) (ht0 : (x_tys G)[t0]? = some (G.2 t0, ty)) (ht1 : (x_tys G)[t1]? = some (G.2 t1, .array ty)) (hnm : ∀ (s : State) (cA : ClassId), va_RA s cA ty ↔ s.vm.findClass (FieldType.array ty).toString = some cA) (hn : ¬ n < 0) (hk : ¬ k0 < 0) (hN : n.toNatClampNeg = N) (hK : k0.toNatClampNeg = K) (hb1 : N * 4 ≤ 536870912) (hb2 : K * componentBytes ty ≤ 536870912) (hb3 : K ≤ 536870912) (hdf : fits ty (defaultValue ty) = true) (hdd : (defaultValue ty).isDefault = true) (hz : ∀ c : ClassId, Jvm.Free.Multi.innerC c K (defaultValue ty) = vp_cell c z) (hfit : ((ck + (1 + N)).ble R.cells && (cn + (N + N * K)).ble R.slots) = true)
    (k : ∀ (q : Nat) (r : Nat → Nat), X G l own cc nL R Cx (ck + 1 + N) (cn + N + N * K) (pc + 4) lv (.ref q :: st) ((ws ++ [(q, .inl (G.2 t1, N, .inr (.inr (.inr (.inr (x_oc N r))))))]) ++ (List.range N).map (fun i => (r i, .inl (G.2 t0, z))))) : X G l own cc nL R Cx ck cn pc lv (.int k0 :: .int n :: st) ws := fun p e s m args below meth c A Q hC hX H locs ls hP hD hS hl => by
  simp only [Bool.and_eq_true, Nat.ble_eq] at hfit
  have hKs := hC.2.2.2.2.2.1
  have hcy : s.vm.findClass (FieldType.array ty).toString = some (G.2 t0) := (hnm s _).mp (hKs.2 t0 _ ht0).2
  have hP0 : va_P G.1 vwCl (ws ++ va_pl [] (fun _ => .inr (0, []))) H := by
    show va_P G.1 vwCl (ws ++ []) H
    rw [List.append_nil]
    exact hP
  have hD0 : va_D A (ws ++ va_pl [] (fun _ => .inr (0, []))) := by
    show va_D A (ws ++ [])
    rw [List.append_nil]
    exact hD
  refine va_mna (X := ws) (L := []) (f := fun _ => .inr (0, [])) hC.1 hC.2.1 hC.2.2.2.1 (hC.2.2.2.2.1 _ hcl) (hov s hC.2.2.2.2.2.2.2) (hC.2.2.2.2.1 _ hac) hcy hKs hP0 hD0 hS hC.2.2.2.2.2.2.1 hn hk hN hK hb1 hb2 hb3 hdf hdd hfit.1 hfit.2 hz hd (fun q r cA H1 _ _ hK2 hP1 hD1 hS1 => ?_)
  have e1 : s.vm.findClass ("[" ++ (FieldType.array ty).toString) = some cA := (hK2.2 5 _ rfl).2
  have e2 : s.vm.findClass ("[" ++ (FieldType.array ty).toString) = some (G.2 t1) := (hKs.2 t1 _ ht1).2
  have e : cA = G.2 t1 := Option.some.inj (e1.symm.trans e2)
  subst e
  rw [x_plnil rfl] at hP1 hD1
  exact k q r p e s m args below meth c A Q hC hX H1 locs ls hP1 hD1 hS1 hl
theorem x_putF {G : x_G} {l : Launch} {cc : ByteArray} {nL : Nat} {R : Room} {ret : Option FieldType} {post : Option Value → va_W → Prop} {mc ms ck cn pc : Nat} {lv : List (Nat × Value)} {st : List Value} {ws : va_W} {C n d : String} {T : u_T} {ty0 : Nat → FieldType} {ty : FieldType} {N ci index a : Nat} {fs : List Value} {v : Value} (j q0 : Nat) (ws' : va_W) (hd : decode cc pc = .ok (.putfield index, 3)) (hw : Cond.fieldLink C index C n d ∈ lw_good) (hin : ∀ w ∈ u_ws C T N, w ∈ lw_good) (hty : ∀ k, k < N → parseFieldDescriptor (T k).2.2.1 = some (ty0 k)) (hnm : ∀ a, a < N → ∀ b, b < N → a ≠ b → (T a).2.1 ≠ (T b).2.1) (hc : vwCl[ci]? = some (C, T, N)) (hj : j < N) (hT : (T j).1 = C ∧ (T j).2.1 = n ∧ (T j).2.2.1 = d ∧ (T j).2.2.2 = true ∧ ty0 j = ty) (he : ws[q0]? = some (a, .inr (ci, fs))) (hn : narrow ty v = v) (hf : fits ty v = true) (hl1 : (j + 1).ble fs.length = true) (hw' : ws.set q0 (a, .inr (ci, fs.set j v)) = ws') (k : X G l C cc nL R (x_Cm G ret true post mc ms) ck cn (pc + 3) lv st ws') : X G l C cc nL R (x_Cm G ret true post mc ms) ck cn pc lv (v :: .ref a :: st) ws := fun p e s m args below meth c A Q hC hX H locs ls hP hD hS hl => by
  obtain ⟨t1, t2, t3, t4, t5⟩ := hT
  subst t2 t3 hw'
  exact va_putF (C := C) hC.1 hC.2.1 hC.2.2.2.2.1 hin ty0 hty hnm hC.2.2.2.1 hC.2.2.2.2.2.1 hP hD hS q0 he hc j hj (hC.2.2.2.2.1 _ hw) (fun x h => by rw [t1] at h; exact h) t4 (hX.2.2.1 rfl) t1 (by rw [hty j hj, t5]) hn hf (Nat.le_of_ble_eq_true hl1) hd (fun H locs hP hD hS => k p e s m args below meth c A Q hC hX H locs ls hP hD hS hl)
end XN
/-- the addresses of a shelf, a log: the first ones by name, the rows behind them -/
def x_ad3 (a b c : Nat) (r : Nat → Nat) : Nat → Nat := fun k => if k < 3 then (if k = 0 then a else if k = 1 then b else c) else r (k - 3)
theorem x_ad3_r (a b c : Nat) (r : Nat → Nat) : (fun k => x_ad3 a b c r (3 + k)) = r := funext fun k => by
  unfold x_ad3
  rw [if_neg (by omega)]
  congr 1
  omega
def x_ad4 (a b c d : Nat) (r : Nat → Nat) : Nat → Nat := fun k => if k < 4 then (if k = 0 then a else if k = 1 then b else if k = 2 then c else d) else r (k - 4)
theorem x_ad4_r (a b c d : Nat) (r : Nat → Nat) : (fun k => x_ad4 a b c d r (4 + k)) = r := funext fun k => by
  unfold x_ad4
  rw [if_neg (by omega)]
  congr 1
  omega
/-- the law's own place: the script stands ahead of all -/
def x_CL (sb L : Nat) (xs : Nat → Int32) : x_K := fun _ _ s _ args below meth _ A Q => meth.sig.returnType = ret ∧ meth.locks = false ∧ args = #[Value.ref sb] ∧ va_X sb L xs s s.heap ∧ sb < s.heap.size ∧ (∀ q : Nat, A q → s.heap.size ≤ q) ∧ Q = lw_Z below #[Value.ref sb] s
section XL
variable {G : x_G} {l : Launch} {own : String} {cc : ByteArray} {nL : Nat} {R : Room} {ck cn pc : Nat} {lv : List (Nat × Value)} {st : List Value} {ws : va_W} {sb L : Nat} {xs : Nat → Int32}
theorem x_lawret (hd : decode code pc = .ok (.ireturn, 1)) (h1 : ck ≤ 600000) (h2 : cn ≤ 7302250) : X G l own code nL room_1 (x_CL sb L xs) ck cn pc lv [.int 1] ws := fun p e s m args below meth c A Q hC hX H locs ls hP hD hS hl => by
  obtain ⟨hr, hlocks, rfl, -, -, hA, rfl⟩ := hX
  refine va_forget (fun q hq => hA _ (hS.2.2 q hq)) ?_
  refine W.widen (k := 600000) (n := 7302250) h1 h2 ?_
  exact lw_ret hC.1 hC.2.1 hr hlocks hd
end XL
