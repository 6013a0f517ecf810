/-! the script: it stands ahead of all, outside every world; a method that reads it -/
def x_sc (sb L : Nat) (xs : Nat → Int32) (Cx : x_K) : Prop := ∀ p e s m args below meth c A Q, Cx p e s m args below meth c A Q → va_X sb L xs s s.heap ∧ sb < s.heap.size ∧ ¬ A sb
def x_Cs (sb L : Nat) (xs : Nat → Int32) (C : x_K) : x_K := fun p e s m args below meth c A Q => C p e s m args below meth c A Q ∧ va_X sb L xs s s.heap ∧ sb < s.heap.size ∧ ¬ A sb
def x_Ms (sb L : Nat) (xs : Nat → Int32) (G : x_G) (l : Launch) (y : MethodName) (cc : ByteArray) (nL : Nat) (ret : Option FieldType) (d mc ms : Nat) (av : List Value) (ws : va_W) (post : Option Value → va_W → Prop) : Prop :=
  ∀ sz : Nat, Met l y (.code y cc nL ret :: lw_good) (x_R d mc ms) (va_Pc av (fun U => (U.heap.size = sz ∧ va_P G.1 vwCl ws U.heap ∧ va_K G.1 vwCl (x_tys G) U ∧ va_D (fun _ => True) ws ∧ x_N U) ∧ va_X sb L xs U U.heap ∧ sb < sz ∧ ¬ va_A ws sz sb)) (x_Qc G (va_A ws sz) post) mc ms (va_A ws sz)
section XL
variable {G : x_G} {l : Launch} {own : String} {cc : ByteArray} {nL : Nat} {R : Room} {Cx : x_K} {ck cn pc : Nat} {lv : List (Nat × Value)} {st st1 rest : List Value} {ws ws1 : va_W} {sb L : Nat} {xs : Nat → Int32}
theorem x_sc_CL : x_sc sb L xs (x_CL sb L xs) := fun p e s m args below meth c A Q h => ⟨h.2.2.2.1, h.2.2.2.2.1, fun q => Nat.not_le.mpr h.2.2.2.2.1 (h.2.2.2.2.2.1 _ q)⟩
theorem x_sc_Cs : x_sc sb L xs (x_Cs sb L xs Cx) := fun p e s m args below meth c A Q h => h.2
theorem x_sld {i : Int32} (hs : x_sc sb L xs Cx) (hd : decode cc pc = .ok (.iaload, 1)) (hin : ¬ (i < 0 ∨ L ≤ i.toNatClampNeg)) (k : X G l own cc nL R Cx ck cn (pc + 1) lv (.int (xs i.toNatClampNeg) :: st) ws) : X G l own cc nL R Cx ck cn pc lv (.int i :: .ref sb :: st) ws := fun p e s m args below meth c A Q hC hX H locs ls hP hD hS hl =>
  va_sld hC.1 hC.2.1 (hs _ _ _ _ _ _ _ _ _ _ hX).1 (hs _ _ _ _ _ _ _ _ _ _ hX).2.1 (hs _ _ _ _ _ _ _ _ _ _ hX).2.2 hS hin hd (k p e s m args below meth c A Q hC hX H locs ls hP hD hS hl)
theorem x_slen (hs : x_sc sb L xs Cx) (hd : decode cc pc = .ok (.arraylength, 1)) (k : X G l own cc nL R Cx ck cn (pc + 1) lv (.int (Int32.ofNat L) :: st) ws) : X G l own cc nL R Cx ck cn pc lv (.ref sb :: st) ws := fun p e s m args below meth c A Q hC hX H locs ls hP hD hS hl =>
  va_slen hC.1 hC.2.1 (hs _ _ _ _ _ _ _ _ _ _ hX).1 (hs _ _ _ _ _ _ _ _ _ _ hX).2.1 (hs _ _ _ _ _ _ _ _ _ _ hX).2.2 hS hd (k p e s m args below meth c A Q hC hX H locs ls hP hD hS hl)
theorem x_sout (k : X G l own cc nL R Cx ck cn pc lv st ws) : X G l own cc nL R (x_Cs sb L xs Cx) ck cn pc lv st ws := fun p e s m args below meth c A Q hC hX H locs ls hP hD hS hl => k p e s m args below meth c A Q hC hX.1 H locs ls hP hD hS hl
theorem x_blindS {sz : Nat} {av : List Value} {wc : va_W} : FrameBlind (va_Pc av (fun U => (U.heap.size = sz ∧ va_P G.1 vwCl wc U.heap ∧ va_K G.1 vwCl (x_tys G) U ∧ va_D (fun _ => True) wc ∧ x_N U) ∧ va_X sb L xs U U.heap ∧ sb < sz ∧ ¬ va_A wc sz sb)) := fun a U g mk q => by
  obtain ⟨q0, ⟨q1, qP, qK, qD, qN⟩, qX, q2, q3⟩ := q
  exact ⟨q0, ⟨q1, qP, va_K.moved (u := U) (U := U.calling g mk a) (Vm.Alike.refl U.vm) qK, qD, x_N.same rfl qN⟩, va_X.moved (u := U) (U := U.calling g mk a) (Vm.Alike.refl U.vm) qX, q2, q3⟩
theorem x_cSs {y : MethodName} {cc' : ByteArray} {nL' d' n index : Nat} {ret' : Option FieldType} {As : List Value} {wc w1 pre post : va_W} {v0 : Option Value} (hs : x_sc sb L xs Cx) (hd : decode cc pc = .ok (.invokestatic index, 3)) (hM : x_Ms sb L xs G l y cc' nL' ret' d' 0 0 As wc (x_is v0 w1)) (pk : x_ps y cc' nL' ret' n) (hl : Cond.methodLink own index y ∈ lw_good) (hw : ws = pre ++ (wc ++ post)) (hn : As.length = n) (hst : st = As.reverse ++ rest) (hrm : Nat.ble (rest.map Value.category).sum 8 = true) (hfit : x_fit R d' ck cn = true) (hs1 : v0.toList ++ rest = st1) (hw' : pre ++ (w1 ++ post) = ws1)
    (k : X G l own cc nL R Cx ck cn (pc + 3) lv st1 ws1) : X G l own cc nL R Cx ck cn pc lv st ws := fun p e s m args below meth c A Q hC hX H locs ls hP hD hS hlv => by
  subst hw hst
  obtain ⟨hx, hb, hml, hown, hts, hK, hA, hN⟩ := hC
  obtain ⟨f1, f2, f3⟩ := x_fits (mc := 0) (ms := 0) (nL' := nL') (k := ck) (n := cn) hfit pk.1.2.2.1
  obtain ⟨sX, s1, s2⟩ := hs _ _ _ _ _ _ _ _ _ _ hX
  have hn2 : ¬ va_A wc H.size sb := fun h => by
    rcases h with ⟨k1, e1, h⟩ | h
    · exact s2 ((x_D_l (x_D_r hD)).2 k1 (sb, e1) h)
    · exact absurd (Nat.le_trans hS.1 h) (Nat.not_le.mpr s1)
  have hg := x_gives (av := As) (x_P_l (x_P_r hP)) (x_D_l (x_D_r hD)) hK hN
  refine x_core (mc := 0) (ms := 0) (va_runS (As := As) (rest := rest) ⟨hx, hb, hml, hown, hts⟩ (hM H.size) ⟨callB_of n hts (x_goodIn _ pk.1.1) rfl rfl rfl (hts _ pk.1.2.1) (hts _ hl) pk.1.2.2.2 f1, hts _ pk.2⟩ ⟨x_blindS, fun U hU hW => ⟨(hg U hU hW).1, (hg U hU hW).2, ?_, Nat.lt_of_lt_of_le s1 hS.1, hn2⟩⟩ rfl hn hlv.1 rfl (lv_room (Nat.le_of_ble_eq_true hrm)) hd ⟨f2, f3⟩) hP hD hS hA (fun v w hv H1 locs1 hP1 hD1 hS1 => ?_)
  · rw [hU]
    exact va_X.moved hW.alike (sX.kept (hS.2.1 sb s1 s2))
  · obtain ⟨rfl, rfl⟩ := hv
    rw [hs1]
    rw [hw'] at hP1 hD1
    exact k p e s m args below meth c A Q ⟨hx, hb, hml, hown, hts, hK, hA, hN⟩ hX H1 locs1 ls hP1 hD1 hS1 hlv
end XL
theorem x_enterS {sb L : Nat} {xs : Nat → Int32} {G : x_G} {l : Launch} {y : MethodName} {own : String} {cc : ByteArray} {nL d mc ms : Nat} {ret : Option FieldType} {ini : Bool} {av : List Value} {ws : va_W} {post : Option Value → va_W → Prop} {lv : List (Nat × Value)} (hy : plainFor y = true) (ho : y.cls = own) (hi : (y.name == "<init>") = ini) (hl : lv_args 0 av = lv) (hn : (lg_sl av).length ≤ nL)
    (k : X G l own cc nL (x_R d mc ms) (x_Cs sb L xs (x_Cm G ret ini post mc ms)) 0 0 0 lv [] ws) : x_Ms sb L xs G l y cc nL ret d mc ms av ws post := by
  intro sz
  subst ho hi hl
  refine va_MetF (cc := cc) (maxL := nL) (ret := ret) hy rfl ?_
  intro p e s m args below meth c s₁ B hml hv
  obtain ⟨rfl, ⟨hsz, hP, hK, hD0, hN⟩, hX, h1, h2⟩ := hv
  have hts := atoms_spec (ws := (.code y cc nL ret :: lw_good)) B.pre
  subst hsz
  rw [lg_entry_eq]
  exact k p e s m _ below meth c (va_A ws s.heap.size) _ ⟨B.exec, B.bytes, hml, findClass_of_methodNamed B.named, fun w hw => hts w (List.mem_cons_of_mem _ hw), hK, fun q h => Or.inr h, hN⟩ ⟨⟨B.returns, B.notSynchronized, fun h => by rw [(name_of_methodNamed B.named B.method).1]; exact of_decide_eq_true (by simpa using h), rfl⟩, hX, h1, h2⟩ s.heap [] _ hP hD0.self va_S.rf (lv_entry av hn)
