theorem pk_L_cell : x_ps yL_cell cL_cell 2 (some .int) 2 := ⟨⟨co_L_cell, ni_L, by decide, by decide +kernel⟩, sm_L_cell⟩
def M_L_cell (xs : Nat → Int32) (L : Nat) (x1 : Int32) : Option (Int32) :=
  if (Int32.ofNat L) ≤ x1 then
  (some ((-779700025 : Int32) * (x1 + (541 : Int32))))
  else
  (if inb x1 L then
  some (xs x1.toNatClampNeg)
  else none)
set_option maxHeartbeats 4000000 in
set_option maxRecDepth 100000 in
theorem c_L_cell {sb : Nat} {xs : Nat → Int32} {G : x_G} {l : Launch} {L : Nat} {x1 : Int32} {res : Int32} (h : M_L_cell xs L x1 = some res) : x_Ms sb L xs G l yL_cell cL_cell 2 (some .int) (0) 0 0 [.ref sb, .int x1] ([] : va_W) (x_is (some (.int res)) ([] : va_W)) := by
  unfold M_L_cell at h
  refine x_enterS (ini := false) (by decide) rfl (by decide) rfl (Nat.le_of_ble_eq_true rfl) ?_
  refine x_iload_n dL_cell_0 1 rfl rfl ?_
  refine x_aload_n dL_cell_1 0 rfl rfl ?_
  refine x_slen x_sc_Cs dL_cell_2 ?_
  refine x_icmp_ge 12 dL_cell_3 (by decide) (fun c1 => ?_) (fun c1 => ?_)
  · have h := x_pos c1 h
    refine x_ldc dL_cell_12 kc_L_7 ?_
    refine x_iload_n dL_cell_14 1 rfl rfl ?_
    refine x_sipush 541 dL_cell_15 (by decide) ?_
    refine x_iadd dL_cell_18 ?_
    refine x_imul dL_cell_19 ?_
    cases h
    exact x_sout (x_ireturn dL_cell_20 rfl (x_is.rf _ _))
  · have h := x_neg c1 h
    refine x_aload_n dL_cell_6 0 rfl rfl ?_
    refine x_iload_n dL_cell_7 1 rfl rfl ?_
    obtain ⟨b2, h⟩ := x_guard h
    refine x_sld x_sc_Cs dL_cell_8 b2 ?_
    refine x_goto 20 dL_cell_9 (by decide) ?_
    cases h
    exact x_sout (x_ireturn dL_cell_20 rfl (x_is.rf _ _))
theorem pk_L_up : x_ps yL_up cL_up 2 (some .int) 2 := ⟨⟨co_L_up, ni_L, by decide, by decide +kernel⟩, sm_L_up⟩
def M_L_up (x0 : Int32) (x1 : Int32) : Option (Int32) :=
  if ¬ x1 = 0 then
  some ((x0 &&& (2147483647 : Int32)) - (x0 &&& (2147483647 : Int32)) / x1 * x1)
  else none
set_option maxHeartbeats 4000000 in
set_option maxRecDepth 100000 in
theorem c_L_up {G : x_G} {l : Launch} {x0 : Int32} {x1 : Int32} {res : Int32} (h : M_L_up x0 x1 = some res) : x_M G l yL_up cL_up 2 (some .int) (0) 0 0 [.int x0, .int x1] ([] : va_W) (x_is (some (.int res)) ([] : va_W)) := by
  unfold M_L_up at h
  refine x_enter (ini := false) (by decide) rfl (by decide) rfl (Nat.le_of_ble_eq_true rfl) ?_
  refine x_iload_n dL_up_0 0 rfl rfl ?_
  refine x_ldc dL_up_1 kc_L_8 ?_
  refine x_iand dL_up_3 ?_
  refine x_iload_n dL_up_4 1 rfl rfl ?_
  obtain ⟨b1, h⟩ := x_guard h
  refine x_irem dL_up_5 b1 ?_
  cases h
  exact x_ireturn dL_up_6 rfl (x_is.rf _ _)
theorem pk_L_lay : x_ps yL_lay cL_lay 4 none 2 := ⟨⟨co_L_lay, ni_L, by decide, by decide +kernel⟩, sm_L_lay⟩
def M_L_lay_b174 (xs : Nat → Int32) (L : Nat) (k65 : (Nat → Int32) → Int32 → Option ((Nat → Int32))) (row_c : (Nat → Int32)) (x2 : Int32) (s1 : Int32) (s2 : Int32) : Option ((Nat → Int32)) :=
  if inb s1 38 then
  k65 (upd row_c s1.toNatClampNeg s2) (x2 + (1 : Int32))
  else none
set_option maxHeartbeats 4000000 in
set_option maxRecDepth 100000 in
theorem w_L_lay_b174 {sb : Nat} {xs : Nat → Int32} {G : x_G} {l : Launch} {a_row : Nat → Nat} {L : Nat} {k65 : (Nat → Int32) → Int32 → Option ((Nat → Int32))} {res : (Nat → Int32)} (hk65 : ∀ (row_c : (Nat → Int32)) (x2 : Int32), k65 row_c x2 = some res → X G l RL cL_lay 4 (x_R 1 0 0) (x_Cs sb L xs (x_Cm G none false (x_is none (WArr G a_row 38 res)) 0 0)) 0 0 65 [(0, .ref sb), (1, .ref (a_row 0)), (2, .int x2)] [] (WArr G a_row 38 row_c)) (row_c : (Nat → Int32)) (x2 : Int32) (s1 : Int32) (s2 : Int32) (h : M_L_lay_b174 xs L k65 row_c x2 s1 s2 = some res) : X G l RL cL_lay 4 (x_R 1 0 0) (x_Cs sb L xs (x_Cm G none false (x_is none (WArr G a_row 38 res)) 0 0)) 0 0 174 [(0, .ref sb), (1, .ref (a_row 0)), (2, .int x2)] [.int s2, .int s1, .ref (a_row 0)] (WArr G a_row 38 row_c) := by
  unfold M_L_lay_b174 at h
  obtain ⟨b34, h⟩ := x_guard h
  refine x_iast s1.toNatClampNeg (q0 := 0) (WArr G a_row 38 ((upd row_c s1.toNatClampNeg s2))) dL_lay_174 rfl rfl b34 rfl ?_
  refine x_iinc (j := 2) (1 : Int32) [(2, .int (x2 + (1 : Int32))), (0, .ref sb), (1, .ref (a_row 0))] dL_lay_175 (by decide) rfl (by decide) rfl ?_
  refine x_goto 65 dL_lay_178 (by decide) ?_
  refine x_lv [1, 2, 0] rfl ?_
  exact hk65 _ _ h
def M_L_lay_b135 (xs : Nat → Int32) (L : Nat) (k65 : (Nat → Int32) → Int32 → Option ((Nat → Int32))) (row_c : (Nat → Int32)) (x2 : Int32) (x3 : Int32) (s1 : Int32) (s2 : Int32) (s3 : Int32) : Option ((Nat → Int32)) :=
  (M_L_up s2 s3).bind fun r25 =>
  if inb s1 38 then
  (M_L_up (x3 >>> ((11 : Int32) &&& (31 : Int32))) (3 : Int32)).bind fun r28 =>
  if r28 = 0 then
  (M_L_lay_b174 xs L k65 (upd row_c s1.toNatClampNeg r25) x2 ((20 : Int32) + x2) (0 : Int32))
  else
  (if inb ((8 : Int32) + x2) 38 then
  (M_L_up (x3 >>> ((13 : Int32) &&& (31 : Int32))) (((upd row_c s1.toNatClampNeg r25) ((8 : Int32) + x2).toNatClampNeg) + (1 : Int32))).bind fun r32 =>
  M_L_lay_b174 xs L k65 (upd row_c s1.toNatClampNeg r25) x2 ((20 : Int32) + x2) r32
  else none)
  else none
set_option maxHeartbeats 4000000 in
set_option maxRecDepth 100000 in
theorem w_L_lay_b135 {sb : Nat} {xs : Nat → Int32} {G : x_G} {l : Launch} {a_row : Nat → Nat} {L : Nat} {k65 : (Nat → Int32) → Int32 → Option ((Nat → Int32))} {res : (Nat → Int32)} (hk65 : ∀ (row_c : (Nat → Int32)) (x2 : Int32), k65 row_c x2 = some res → X G l RL cL_lay 4 (x_R 1 0 0) (x_Cs sb L xs (x_Cm G none false (x_is none (WArr G a_row 38 res)) 0 0)) 0 0 65 [(0, .ref sb), (1, .ref (a_row 0)), (2, .int x2)] [] (WArr G a_row 38 row_c)) (row_c : (Nat → Int32)) (x2 : Int32) (x3 : Int32) (s1 : Int32) (s2 : Int32) (s3 : Int32) (h : M_L_lay_b135 xs L k65 row_c x2 x3 s1 s2 s3 = some res) : X G l RL cL_lay 4 (x_R 1 0 0) (x_Cs sb L xs (x_Cm G none false (x_is none (WArr G a_row 38 res)) 0 0)) 0 0 135 [(0, .ref sb), (1, .ref (a_row 0)), (2, .int x2), (3, .int x3)] [.int s3, .int s2, .int s1, .ref (a_row 0)] (WArr G a_row 38 row_c) := by
  unfold M_L_lay_b135 at h
  obtain ⟨r25, e26, h⟩ := x_bind h
  refine x_cS (As := [.int s2, .int s3]) (wc := ([] : va_W)) (w1 := ([] : va_W)) (pre := []) (post := (WArr G a_row 38 row_c)) (rest := [.int s1, .ref (a_row 0)]) (st1 := [.int r25, .int s1, .ref (a_row 0)]) (ws1 := (WArr G a_row 38 row_c)) dL_lay_135 (c_L_up e26) pk_L_up ml_L_15 rfl rfl rfl rfl rfl rfl rfl ?_
  obtain ⟨b27, h⟩ := x_guard h
  refine x_iast s1.toNatClampNeg (q0 := 0) (WArr G a_row 38 ((upd row_c s1.toNatClampNeg r25))) dL_lay_138 rfl rfl b27 rfl ?_
  refine x_aload_n dL_lay_139 1 rfl rfl ?_
  refine x_bipush 20 dL_lay_140 (by decide) ?_
  refine x_iload_n dL_lay_142 2 rfl rfl ?_
  refine x_iadd dL_lay_143 ?_
  refine x_iload_n dL_lay_144 3 rfl rfl ?_
  refine x_bipush 11 dL_lay_145 (by decide) ?_
  refine x_ishr dL_lay_147 ?_
  refine x_iconst 3 dL_lay_148 (by decide) ?_
  obtain ⟨r28, e29, h⟩ := x_bind h
  refine x_cS (As := [.int (x3 >>> ((11 : Int32) &&& (31 : Int32))), .int (3 : Int32)]) (wc := ([] : va_W)) (w1 := ([] : va_W)) (pre := []) (post := (WArr G a_row 38 ((upd row_c s1.toNatClampNeg r25)))) (rest := [.int ((20 : Int32) + x2), .ref (a_row 0)]) (st1 := [.int r28, .int ((20 : Int32) + x2), .ref (a_row 0)]) (ws1 := (WArr G a_row 38 ((upd row_c s1.toNatClampNeg r25)))) dL_lay_149 (c_L_up e29) pk_L_up ml_L_15 rfl rfl rfl rfl rfl rfl rfl ?_
  refine x_if_ne 159 dL_lay_152 (by decide) (fun c30 => ?_) (fun c30 => ?_)
  · have h := x_neg c30 h
    refine x_iload_n dL_lay_159 3 rfl rfl ?_
    refine x_bipush 13 dL_lay_160 (by decide) ?_
    refine x_ishr dL_lay_162 ?_
    refine x_aload_n dL_lay_163 1 rfl rfl ?_
    refine x_bipush 8 dL_lay_164 (by decide) ?_
    refine x_iload_n dL_lay_166 2 rfl rfl ?_
    refine x_iadd dL_lay_167 ?_
    obtain ⟨b31, h⟩ := x_guard h
    refine x_iald ((8 : Int32) + x2).toNatClampNeg (q0 := 0) dL_lay_168 rfl rfl b31 ?_
    refine x_iconst 1 dL_lay_169 (by decide) ?_
    refine x_iadd dL_lay_170 ?_
    obtain ⟨r32, e33, h⟩ := x_bind h
    refine x_cS (As := [.int (x3 >>> ((13 : Int32) &&& (31 : Int32))), .int (((upd row_c s1.toNatClampNeg r25) ((8 : Int32) + x2).toNatClampNeg) + (1 : Int32))]) (wc := ([] : va_W)) (w1 := ([] : va_W)) (pre := []) (post := (WArr G a_row 38 ((upd row_c s1.toNatClampNeg r25)))) (rest := [.int ((20 : Int32) + x2), .ref (a_row 0)]) (st1 := [.int r32, .int ((20 : Int32) + x2), .ref (a_row 0)]) (ws1 := (WArr G a_row 38 ((upd row_c s1.toNatClampNeg r25)))) dL_lay_171 (c_L_up e33) pk_L_up ml_L_15 rfl rfl rfl rfl rfl rfl rfl ?_
    refine x_lv [0, 1, 2] rfl ?_
    exact w_L_lay_b174 hk65 _ _ _ _ h
  · have h := x_pos c30 h
    refine x_iconst 0 dL_lay_155 (by decide) ?_
    refine x_goto 174 dL_lay_156 (by decide) ?_
    refine x_lv [0, 1, 2] rfl ?_
    exact w_L_lay_b174 hk65 _ _ _ _ h
def M_L_lay_b269 (xs : Nat → Int32) (L : Nat) (k183 : (Nat → Int32) → Int32 → Option ((Nat → Int32))) (row_c : (Nat → Int32)) (x2 : Int32) (s1 : Int32) (s2 : Int32) (s3 : Int32) : Option ((Nat → Int32)) :=
  if inb s1 38 then
  k183 (upd row_c s1.toNatClampNeg (s2 &&& s3)) (x2 + (1 : Int32))
  else none
set_option maxHeartbeats 4000000 in
set_option maxRecDepth 100000 in
theorem w_L_lay_b269 {sb : Nat} {xs : Nat → Int32} {G : x_G} {l : Launch} {a_row : Nat → Nat} {L : Nat} {k183 : (Nat → Int32) → Int32 → Option ((Nat → Int32))} {res : (Nat → Int32)} (hk183 : ∀ (row_c : (Nat → Int32)) (x2 : Int32), k183 row_c x2 = some res → X G l RL cL_lay 4 (x_R 1 0 0) (x_Cs sb L xs (x_Cm G none false (x_is none (WArr G a_row 38 res)) 0 0)) 0 0 183 [(0, .ref sb), (1, .ref (a_row 0)), (2, .int x2)] [] (WArr G a_row 38 row_c)) (row_c : (Nat → Int32)) (x2 : Int32) (s1 : Int32) (s2 : Int32) (s3 : Int32) (h : M_L_lay_b269 xs L k183 row_c x2 s1 s2 s3 = some res) : X G l RL cL_lay 4 (x_R 1 0 0) (x_Cs sb L xs (x_Cm G none false (x_is none (WArr G a_row 38 res)) 0 0)) 0 0 269 [(0, .ref sb), (1, .ref (a_row 0)), (2, .int x2)] [.int s3, .int s2, .int s1, .ref (a_row 0)] (WArr G a_row 38 row_c) := by
  unfold M_L_lay_b269 at h
  refine x_iand dL_lay_269 ?_
  obtain ⟨b50, h⟩ := x_guard h
  refine x_iast s1.toNatClampNeg (q0 := 0) (WArr G a_row 38 ((upd row_c s1.toNatClampNeg (s2 &&& s3)))) dL_lay_270 rfl rfl b50 rfl ?_
  refine x_iinc (j := 2) (1 : Int32) [(2, .int (x2 + (1 : Int32))), (0, .ref sb), (1, .ref (a_row 0))] dL_lay_271 (by decide) rfl (by decide) rfl ?_
  refine x_goto 183 dL_lay_274 (by decide) ?_
  refine x_lv [1, 2, 0] rfl ?_
  exact hk183 _ _ h
def M_L_lay_b183 (xs : Nat → Int32) (L : Nat) : Nat → (Nat → Int32) → Int32 → Option ((Nat → Int32))
  | 0, _, _ => none
  | n + 1, row_c, x2 =>
    if (row_c 1) ≤ x2 then
    (some (row_c))
    else
    ((M_L_cell xs L ((7 : Int32) + x2)).bind fun r36 =>
    (M_L_up r36 (64 : Int32)).bind fun r38 =>
    (M_L_up (r36 >>> ((6 : Int32) &&& (31 : Int32))) (64 : Int32)).bind fun r40 =>
    if inb ((27 : Int32) + x2) 38 then
    (M_L_up (r36 >>> ((12 : Int32) &&& (31 : Int32))) (64 : Int32)).bind fun r43 =>
    (M_L_up (r36 >>> ((18 : Int32) &&& (31 : Int32))) (64 : Int32)).bind fun r45 =>
    (M_L_up (r36 >>> ((24 : Int32) &&& (31 : Int32))) (2 : Int32)).bind fun r47 =>
    if r47 = 0 then
    (M_L_lay_b269 xs L (fun (row_c' : (Nat → Int32)) (x2' : Int32) => M_L_lay_b183 xs L n row_c' x2') (upd row_c ((27 : Int32) + x2).toNatClampNeg (r38 &&& r40)) x2 ((31 : Int32) + x2) (r43 &&& r45) (63 : Int32))
    else
    (M_L_lay_b269 xs L (fun (row_c' : (Nat → Int32)) (x2' : Int32) => M_L_lay_b183 xs L n row_c' x2') (upd row_c ((27 : Int32) + x2).toNatClampNeg (r38 &&& r40)) x2 ((31 : Int32) + x2) (r43 &&& r45) (((upd row_c ((27 : Int32) + x2).toNatClampNeg (r38 &&& r40)) ((27 : Int32) + x2).toNatClampNeg) ^^^ (-1 : Int32)))
    else none)
set_option maxHeartbeats 4000000 in
set_option maxRecDepth 100000 in
theorem w_L_lay_b183 {sb : Nat} {xs : Nat → Int32} {G : x_G} {l : Launch} {a_row : Nat → Nat} {L : Nat} {res : (Nat → Int32)} : ∀ (n : Nat) (row_c : (Nat → Int32)) (x2 : Int32), M_L_lay_b183 xs L n row_c x2 = some res → X G l RL cL_lay 4 (x_R 1 0 0) (x_Cs sb L xs (x_Cm G none false (x_is none (WArr G a_row 38 res)) 0 0)) 0 0 183 [(0, .ref sb), (1, .ref (a_row 0)), (2, .int x2)] [] (WArr G a_row 38 row_c) := by
  intro n
  induction n with
  | zero =>
    intro _ _ h
    cases h
  | succ n ih =>
    intro row_c x2 h
    rw [M_L_lay_b183] at h
    refine x_iload_n dL_lay_183 2 rfl rfl ?_
    refine x_aload_n dL_lay_184 1 rfl rfl ?_
    refine x_iconst 1 dL_lay_185 (by decide) ?_
    refine x_iald 1 (q0 := 0) dL_lay_186 (by decide) rfl (by decide) ?_
    refine x_icmp_ge 277 dL_lay_187 (by decide) (fun c35 => ?_) (fun c35 => ?_)
    · have h := x_pos c35 h
      cases h
      exact x_sout (x_return dL_lay_277 (x_is.rf _ _))
    · have h := x_neg c35 h
      refine x_aload_n dL_lay_190 0 rfl rfl ?_
      refine x_bipush 7 dL_lay_191 (by decide) ?_
      refine x_iload_n dL_lay_193 2 rfl rfl ?_
      refine x_iadd dL_lay_194 ?_
      obtain ⟨r36, e37, h⟩ := x_bind h
      refine x_cSs (As := [.ref sb, .int ((7 : Int32) + x2)]) (wc := ([] : va_W)) (w1 := ([] : va_W)) (pre := []) (post := (WArr G a_row 38 row_c)) (rest := []) (st1 := [.int r36]) (ws1 := (WArr G a_row 38 row_c)) x_sc_Cs dL_lay_195 (c_L_cell e37) pk_L_cell ml_L_9 rfl rfl rfl rfl rfl rfl rfl ?_
      refine x_istore_n [(3, .int r36), (0, .ref sb), (1, .ref (a_row 0)), (2, .int x2)] dL_lay_198 rfl (by decide) rfl ?_
      refine x_aload_n dL_lay_199 2 rfl rfl ?_
      refine x_bipush 27 dL_lay_200 (by decide) ?_
      refine x_iload_n dL_lay_202 3 rfl rfl ?_
      refine x_iadd dL_lay_203 ?_
      refine x_iload_n dL_lay_204 0 rfl rfl ?_
      refine x_bipush 64 dL_lay_205 (by decide) ?_
      obtain ⟨r38, e39, h⟩ := x_bind h
      refine x_cS (As := [.int r36, .int (64 : Int32)]) (wc := ([] : va_W)) (w1 := ([] : va_W)) (pre := []) (post := (WArr G a_row 38 row_c)) (rest := [.int ((27 : Int32) + x2), .ref (a_row 0)]) (st1 := [.int r38, .int ((27 : Int32) + x2), .ref (a_row 0)]) (ws1 := (WArr G a_row 38 row_c)) dL_lay_207 (c_L_up e39) pk_L_up ml_L_15 rfl rfl rfl rfl rfl rfl rfl ?_
      refine x_iload_n dL_lay_210 0 rfl rfl ?_
      refine x_bipush 6 dL_lay_211 (by decide) ?_
      refine x_ishr dL_lay_213 ?_
      refine x_bipush 64 dL_lay_214 (by decide) ?_
      obtain ⟨r40, e41, h⟩ := x_bind h
      refine x_cS (As := [.int (r36 >>> ((6 : Int32) &&& (31 : Int32))), .int (64 : Int32)]) (wc := ([] : va_W)) (w1 := ([] : va_W)) (pre := []) (post := (WArr G a_row 38 row_c)) (rest := [.int r38, .int ((27 : Int32) + x2), .ref (a_row 0)]) (st1 := [.int r40, .int r38, .int ((27 : Int32) + x2), .ref (a_row 0)]) (ws1 := (WArr G a_row 38 row_c)) dL_lay_216 (c_L_up e41) pk_L_up ml_L_15 rfl rfl rfl rfl rfl rfl rfl ?_
      refine x_iand dL_lay_219 ?_
      obtain ⟨b42, h⟩ := x_guard h
      refine x_iast ((27 : Int32) + x2).toNatClampNeg (q0 := 0) (WArr G a_row 38 ((upd row_c ((27 : Int32) + x2).toNatClampNeg (r38 &&& r40)))) dL_lay_220 rfl rfl b42 rfl ?_
      refine x_aload_n dL_lay_221 2 rfl rfl ?_
      refine x_bipush 31 dL_lay_222 (by decide) ?_
      refine x_iload_n dL_lay_224 3 rfl rfl ?_
      refine x_iadd dL_lay_225 ?_
      refine x_iload_n dL_lay_226 0 rfl rfl ?_
      refine x_bipush 12 dL_lay_227 (by decide) ?_
      refine x_ishr dL_lay_229 ?_
      refine x_bipush 64 dL_lay_230 (by decide) ?_
      obtain ⟨r43, e44, h⟩ := x_bind h
      refine x_cS (As := [.int (r36 >>> ((12 : Int32) &&& (31 : Int32))), .int (64 : Int32)]) (wc := ([] : va_W)) (w1 := ([] : va_W)) (pre := []) (post := (WArr G a_row 38 ((upd row_c ((27 : Int32) + x2).toNatClampNeg (r38 &&& r40))))) (rest := [.int ((31 : Int32) + x2), .ref (a_row 0)]) (st1 := [.int r43, .int ((31 : Int32) + x2), .ref (a_row 0)]) (ws1 := (WArr G a_row 38 ((upd row_c ((27 : Int32) + x2).toNatClampNeg (r38 &&& r40))))) dL_lay_232 (c_L_up e44) pk_L_up ml_L_15 rfl rfl rfl rfl rfl rfl rfl ?_
      refine x_iload_n dL_lay_235 0 rfl rfl ?_
      refine x_bipush 18 dL_lay_236 (by decide) ?_
      refine x_ishr dL_lay_238 ?_
      refine x_bipush 64 dL_lay_239 (by decide) ?_
      obtain ⟨r45, e46, h⟩ := x_bind h
      refine x_cS (As := [.int (r36 >>> ((18 : Int32) &&& (31 : Int32))), .int (64 : Int32)]) (wc := ([] : va_W)) (w1 := ([] : va_W)) (pre := []) (post := (WArr G a_row 38 ((upd row_c ((27 : Int32) + x2).toNatClampNeg (r38 &&& r40))))) (rest := [.int r43, .int ((31 : Int32) + x2), .ref (a_row 0)]) (st1 := [.int r45, .int r43, .int ((31 : Int32) + x2), .ref (a_row 0)]) (ws1 := (WArr G a_row 38 ((upd row_c ((27 : Int32) + x2).toNatClampNeg (r38 &&& r40))))) dL_lay_241 (c_L_up e46) pk_L_up ml_L_15 rfl rfl rfl rfl rfl rfl rfl ?_
      refine x_iand dL_lay_244 ?_
      refine x_iload_n dL_lay_245 0 rfl rfl ?_
      refine x_bipush 24 dL_lay_246 (by decide) ?_
      refine x_ishr dL_lay_248 ?_
      refine x_iconst 2 dL_lay_249 (by decide) ?_
      obtain ⟨r47, e48, h⟩ := x_bind h
      refine x_cS (As := [.int (r36 >>> ((24 : Int32) &&& (31 : Int32))), .int (2 : Int32)]) (wc := ([] : va_W)) (w1 := ([] : va_W)) (pre := []) (post := (WArr G a_row 38 ((upd row_c ((27 : Int32) + x2).toNatClampNeg (r38 &&& r40))))) (rest := [.int (r43 &&& r45), .int ((31 : Int32) + x2), .ref (a_row 0)]) (st1 := [.int r47, .int (r43 &&& r45), .int ((31 : Int32) + x2), .ref (a_row 0)]) (ws1 := (WArr G a_row 38 ((upd row_c ((27 : Int32) + x2).toNatClampNeg (r38 &&& r40))))) dL_lay_250 (c_L_up e48) pk_L_up ml_L_15 rfl rfl rfl rfl rfl rfl rfl ?_
      refine x_if_ne 261 dL_lay_253 (by decide) (fun c49 => ?_) (fun c49 => ?_)
      · have h := x_neg c49 h
        refine x_aload_n dL_lay_261 2 rfl rfl ?_
        refine x_bipush 27 dL_lay_262 (by decide) ?_
        refine x_iload_n dL_lay_264 3 rfl rfl ?_
        refine x_iadd dL_lay_265 ?_
        refine x_iald ((27 : Int32) + x2).toNatClampNeg (q0 := 0) dL_lay_266 rfl rfl b42 ?_
        refine x_iconst (-1 : Int32) dL_lay_267 (by decide) ?_
        refine x_ixor dL_lay_268 ?_
        refine x_lv [1, 2, 3] rfl ?_
        exact w_L_lay_b269 (fun row_c' x2' h => ih row_c' x2' h) _ _ _ _ _ h
      · have h := x_pos c49 h
        refine x_bipush 63 dL_lay_256 (by decide) ?_
        refine x_goto 269 dL_lay_258 (by decide) ?_
        refine x_lv [1, 2, 3] rfl ?_
        exact w_L_lay_b269 (fun row_c' x2' h => ih row_c' x2' h) _ _ _ _ _ h
def M_L_lay_b65 (xs : Nat → Int32) (L : Nat) : Nat → (Nat → Int32) → Int32 → Option ((Nat → Int32))
  | 0, _, _ => none
  | n + 1, row_c, x2 =>
    if (row_c 0) ≤ x2 then
    (M_L_lay_b183 xs L x_fuel row_c (0 : Int32))
    else
    ((M_L_cell xs L ((1 : Int32) + x2)).bind fun r14 =>
    (M_L_up r14 (6 : Int32)).bind fun r16 =>
    if inb ((2 : Int32) + x2) 38 then
    (M_L_up (r14 >>> ((4 : Int32) &&& (31 : Int32))) (9 : Int32)).bind fun r19 =>
    if inb ((8 : Int32) + x2) 38 then
    (M_L_up (r14 >>> ((20 : Int32) &&& (31 : Int32))) (3 : Int32)).bind fun r22 =>
    if r22 = 0 then
    (M_L_lay_b135 xs L (fun (row_c' : (Nat → Int32)) (x2' : Int32) => M_L_lay_b65 xs L n row_c' x2') (upd (upd row_c ((2 : Int32) + x2).toNatClampNeg r16) ((8 : Int32) + x2).toNatClampNeg ((1 : Int32) + r19)) x2 r14 ((14 : Int32) + x2) (r14 >>> ((8 : Int32) &&& (31 : Int32))) (6 : Int32))
    else
    (M_L_lay_b135 xs L (fun (row_c' : (Nat → Int32)) (x2' : Int32) => M_L_lay_b65 xs L n row_c' x2') (upd (upd row_c ((2 : Int32) + x2).toNatClampNeg r16) ((8 : Int32) + x2).toNatClampNeg ((1 : Int32) + r19)) x2 r14 ((14 : Int32) + x2) (r14 >>> ((8 : Int32) &&& (31 : Int32))) ((upd (upd row_c ((2 : Int32) + x2).toNatClampNeg r16) ((8 : Int32) + x2).toNatClampNeg ((1 : Int32) + r19)) 0))
    else none
    else none)
set_option maxHeartbeats 4000000 in
set_option maxRecDepth 100000 in
theorem w_L_lay_b65 {sb : Nat} {xs : Nat → Int32} {G : x_G} {l : Launch} {a_row : Nat → Nat} {L : Nat} {res : (Nat → Int32)} : ∀ (n : Nat) (row_c : (Nat → Int32)) (x2 : Int32), M_L_lay_b65 xs L n row_c x2 = some res → X G l RL cL_lay 4 (x_R 1 0 0) (x_Cs sb L xs (x_Cm G none false (x_is none (WArr G a_row 38 res)) 0 0)) 0 0 65 [(0, .ref sb), (1, .ref (a_row 0)), (2, .int x2)] [] (WArr G a_row 38 row_c) := by
  intro n
  induction n with
  | zero =>
    intro _ _ h
    cases h
  | succ n ih =>
    intro row_c x2 h
    rw [M_L_lay_b65] at h
    refine x_iload_n dL_lay_65 2 rfl rfl ?_
    refine x_aload_n dL_lay_66 1 rfl rfl ?_
    refine x_iconst 0 dL_lay_67 (by decide) ?_
    refine x_iald 0 (q0 := 0) dL_lay_68 (by decide) rfl (by decide) ?_
    refine x_icmp_ge 181 dL_lay_69 (by decide) (fun c13 => ?_) (fun c13 => ?_)
    · have h := x_pos c13 h
      refine x_iconst 0 dL_lay_181 (by decide) ?_
      refine x_istore_n [(2, .int (0 : Int32)), (0, .ref sb), (1, .ref (a_row 0))] dL_lay_182 rfl (by decide) rfl ?_
      refine x_lv [1, 2, 0] rfl ?_
      exact w_L_lay_b183  _ _ _ h
    · have h := x_neg c13 h
      refine x_aload_n dL_lay_72 0 rfl rfl ?_
      refine x_iconst 1 dL_lay_73 (by decide) ?_
      refine x_iload_n dL_lay_74 2 rfl rfl ?_
      refine x_iadd dL_lay_75 ?_
      obtain ⟨r14, e15, h⟩ := x_bind h
      refine x_cSs (As := [.ref sb, .int ((1 : Int32) + x2)]) (wc := ([] : va_W)) (w1 := ([] : va_W)) (pre := []) (post := (WArr G a_row 38 row_c)) (rest := []) (st1 := [.int r14]) (ws1 := (WArr G a_row 38 row_c)) x_sc_Cs dL_lay_76 (c_L_cell e15) pk_L_cell ml_L_9 rfl rfl rfl rfl rfl rfl rfl ?_
      refine x_istore_n [(3, .int r14), (0, .ref sb), (1, .ref (a_row 0)), (2, .int x2)] dL_lay_79 rfl (by decide) rfl ?_
      refine x_aload_n dL_lay_80 2 rfl rfl ?_
      refine x_iconst 2 dL_lay_81 (by decide) ?_
      refine x_iload_n dL_lay_82 3 rfl rfl ?_
      refine x_iadd dL_lay_83 ?_
      refine x_iload_n dL_lay_84 0 rfl rfl ?_
      refine x_bipush 6 dL_lay_85 (by decide) ?_
      obtain ⟨r16, e17, h⟩ := x_bind h
      refine x_cS (As := [.int r14, .int (6 : Int32)]) (wc := ([] : va_W)) (w1 := ([] : va_W)) (pre := []) (post := (WArr G a_row 38 row_c)) (rest := [.int ((2 : Int32) + x2), .ref (a_row 0)]) (st1 := [.int r16, .int ((2 : Int32) + x2), .ref (a_row 0)]) (ws1 := (WArr G a_row 38 row_c)) dL_lay_87 (c_L_up e17) pk_L_up ml_L_15 rfl rfl rfl rfl rfl rfl rfl ?_
      obtain ⟨b18, h⟩ := x_guard h
      refine x_iast ((2 : Int32) + x2).toNatClampNeg (q0 := 0) (WArr G a_row 38 ((upd row_c ((2 : Int32) + x2).toNatClampNeg r16))) dL_lay_90 rfl rfl b18 rfl ?_
      refine x_aload_n dL_lay_91 2 rfl rfl ?_
      refine x_bipush 8 dL_lay_92 (by decide) ?_
      refine x_iload_n dL_lay_94 3 rfl rfl ?_
      refine x_iadd dL_lay_95 ?_
      refine x_iconst 1 dL_lay_96 (by decide) ?_
      refine x_iload_n dL_lay_97 0 rfl rfl ?_
      refine x_iconst 4 dL_lay_98 (by decide) ?_
      refine x_ishr dL_lay_99 ?_
      refine x_bipush 9 dL_lay_100 (by decide) ?_
      obtain ⟨r19, e20, h⟩ := x_bind h
      refine x_cS (As := [.int (r14 >>> ((4 : Int32) &&& (31 : Int32))), .int (9 : Int32)]) (wc := ([] : va_W)) (w1 := ([] : va_W)) (pre := []) (post := (WArr G a_row 38 ((upd row_c ((2 : Int32) + x2).toNatClampNeg r16)))) (rest := [.int (1 : Int32), .int ((8 : Int32) + x2), .ref (a_row 0)]) (st1 := [.int r19, .int (1 : Int32), .int ((8 : Int32) + x2), .ref (a_row 0)]) (ws1 := (WArr G a_row 38 ((upd row_c ((2 : Int32) + x2).toNatClampNeg r16)))) dL_lay_102 (c_L_up e20) pk_L_up ml_L_15 rfl rfl rfl rfl rfl rfl rfl ?_
      refine x_iadd dL_lay_105 ?_
      obtain ⟨b21, h⟩ := x_guard h
      refine x_iast ((8 : Int32) + x2).toNatClampNeg (q0 := 0) (WArr G a_row 38 ((upd (upd row_c ((2 : Int32) + x2).toNatClampNeg r16) ((8 : Int32) + x2).toNatClampNeg ((1 : Int32) + r19)))) dL_lay_106 rfl rfl b21 rfl ?_
      refine x_aload_n dL_lay_107 2 rfl rfl ?_
      refine x_bipush 14 dL_lay_108 (by decide) ?_
      refine x_iload_n dL_lay_110 3 rfl rfl ?_
      refine x_iadd dL_lay_111 ?_
      refine x_iload_n dL_lay_112 0 rfl rfl ?_
      refine x_bipush 8 dL_lay_113 (by decide) ?_
      refine x_ishr dL_lay_115 ?_
      refine x_iload_n dL_lay_116 0 rfl rfl ?_
      refine x_bipush 20 dL_lay_117 (by decide) ?_
      refine x_ishr dL_lay_119 ?_
      refine x_iconst 3 dL_lay_120 (by decide) ?_
      obtain ⟨r22, e23, h⟩ := x_bind h
      refine x_cS (As := [.int (r14 >>> ((20 : Int32) &&& (31 : Int32))), .int (3 : Int32)]) (wc := ([] : va_W)) (w1 := ([] : va_W)) (pre := []) (post := (WArr G a_row 38 ((upd (upd row_c ((2 : Int32) + x2).toNatClampNeg r16) ((8 : Int32) + x2).toNatClampNeg ((1 : Int32) + r19))))) (rest := [.int (r14 >>> ((8 : Int32) &&& (31 : Int32))), .int ((14 : Int32) + x2), .ref (a_row 0)]) (st1 := [.int r22, .int (r14 >>> ((8 : Int32) &&& (31 : Int32))), .int ((14 : Int32) + x2), .ref (a_row 0)]) (ws1 := (WArr G a_row 38 ((upd (upd row_c ((2 : Int32) + x2).toNatClampNeg r16) ((8 : Int32) + x2).toNatClampNeg ((1 : Int32) + r19))))) dL_lay_121 (c_L_up e23) pk_L_up ml_L_15 rfl rfl rfl rfl rfl rfl rfl ?_
      refine x_if_ne 132 dL_lay_124 (by decide) (fun c24 => ?_) (fun c24 => ?_)
      · have h := x_neg c24 h
        refine x_aload_n dL_lay_132 2 rfl rfl ?_
        refine x_iconst 0 dL_lay_133 (by decide) ?_
        refine x_iald 0 (q0 := 0) dL_lay_134 (by decide) rfl (by decide) ?_
        refine x_lv [1, 2, 3, 0] rfl ?_
        exact w_L_lay_b135 (fun row_c' x2' h => ih row_c' x2' h) _ _ _ _ _ _ h
      · have h := x_pos c24 h
        refine x_bipush 6 dL_lay_127 (by decide) ?_
        refine x_goto 135 dL_lay_129 (by decide) ?_
        refine x_lv [1, 2, 3, 0] rfl ?_
        exact w_L_lay_b135 (fun row_c' x2' h => ih row_c' x2' h) _ _ _ _ _ _ h
def M_L_lay_b2 (xs : Nat → Int32) (L : Nat) : Nat → (Nat → Int32) → Int32 → Option ((Nat → Int32))
  | 0, _, _ => none
  | n + 1, row_c, x2 =>
    if (38 : Int32) ≤ x2 then
    ((M_L_cell xs L (0 : Int32)).bind fun r2 =>
    (M_L_up r2 (6 : Int32)).bind fun r4 =>
    (M_L_cell xs L (0 : Int32)).bind fun r6 =>
    (M_L_up (r6 >>> ((4 : Int32) &&& (31 : Int32))) (4 : Int32)).bind fun r8 =>
    (M_L_cell xs L (0 : Int32)).bind fun r10 =>
    M_L_lay_b65 xs L x_fuel (upd (upd (upd row_c 0 ((1 : Int32) + r4)) 1 ((1 : Int32) + r8)) 26 ((r10 >>> ((8 : Int32) &&& (31 : Int32))) &&& (1 : Int32))) (0 : Int32))
    else
    (if inb x2 38 then
    M_L_lay_b2 xs L n (upd row_c x2.toNatClampNeg (0 : Int32)) (x2 + (1 : Int32))
    else none)
set_option maxHeartbeats 4000000 in
set_option maxRecDepth 100000 in
theorem w_L_lay_b2 {sb : Nat} {xs : Nat → Int32} {G : x_G} {l : Launch} {a_row : Nat → Nat} {L : Nat} {res : (Nat → Int32)} : ∀ (n : Nat) (row_c : (Nat → Int32)) (x2 : Int32), M_L_lay_b2 xs L n row_c x2 = some res → X G l RL cL_lay 4 (x_R 1 0 0) (x_Cs sb L xs (x_Cm G none false (x_is none (WArr G a_row 38 res)) 0 0)) 0 0 2 [(0, .ref sb), (1, .ref (a_row 0)), (2, .int x2)] [] (WArr G a_row 38 row_c) := by
  intro n
  induction n with
  | zero =>
    intro _ _ h
    cases h
  | succ n ih =>
    intro row_c x2 h
    rw [M_L_lay_b2] at h
    refine x_iload_n dL_lay_2 2 rfl rfl ?_
    refine x_bipush 38 dL_lay_3 (by decide) ?_
    refine x_icmp_ge 18 dL_lay_5 (by decide) (fun c1 => ?_) (fun c1 => ?_)
    · have h := x_pos c1 h
      refine x_aload_n dL_lay_18 1 rfl rfl ?_
      refine x_iconst 0 dL_lay_19 (by decide) ?_
      refine x_iconst 1 dL_lay_20 (by decide) ?_
      refine x_aload_n dL_lay_21 0 rfl rfl ?_
      refine x_iconst 0 dL_lay_22 (by decide) ?_
      obtain ⟨r2, e3, h⟩ := x_bind h
      refine x_cSs (As := [.ref sb, .int (0 : Int32)]) (wc := ([] : va_W)) (w1 := ([] : va_W)) (pre := []) (post := (WArr G a_row 38 row_c)) (rest := [.int (1 : Int32), .int (0 : Int32), .ref (a_row 0)]) (st1 := [.int r2, .int (1 : Int32), .int (0 : Int32), .ref (a_row 0)]) (ws1 := (WArr G a_row 38 row_c)) x_sc_Cs dL_lay_23 (c_L_cell e3) pk_L_cell ml_L_9 rfl rfl rfl rfl rfl rfl rfl ?_
      refine x_bipush 6 dL_lay_26 (by decide) ?_
      obtain ⟨r4, e5, h⟩ := x_bind h
      refine x_cS (As := [.int r2, .int (6 : Int32)]) (wc := ([] : va_W)) (w1 := ([] : va_W)) (pre := []) (post := (WArr G a_row 38 row_c)) (rest := [.int (1 : Int32), .int (0 : Int32), .ref (a_row 0)]) (st1 := [.int r4, .int (1 : Int32), .int (0 : Int32), .ref (a_row 0)]) (ws1 := (WArr G a_row 38 row_c)) dL_lay_28 (c_L_up e5) pk_L_up ml_L_15 rfl rfl rfl rfl rfl rfl rfl ?_
      refine x_iadd dL_lay_31 ?_
      refine x_iast 0 (q0 := 0) (WArr G a_row 38 ((upd row_c 0 ((1 : Int32) + r4)))) dL_lay_32 (by decide) rfl (by decide) rfl ?_
      refine x_aload_n dL_lay_33 1 rfl rfl ?_
      refine x_iconst 1 dL_lay_34 (by decide) ?_
      refine x_iconst 1 dL_lay_35 (by decide) ?_
      refine x_aload_n dL_lay_36 0 rfl rfl ?_
      refine x_iconst 0 dL_lay_37 (by decide) ?_
      obtain ⟨r6, e7, h⟩ := x_bind h
      refine x_cSs (As := [.ref sb, .int (0 : Int32)]) (wc := ([] : va_W)) (w1 := ([] : va_W)) (pre := []) (post := (WArr G a_row 38 ((upd row_c 0 ((1 : Int32) + r4))))) (rest := [.int (1 : Int32), .int (1 : Int32), .ref (a_row 0)]) (st1 := [.int r6, .int (1 : Int32), .int (1 : Int32), .ref (a_row 0)]) (ws1 := (WArr G a_row 38 ((upd row_c 0 ((1 : Int32) + r4))))) x_sc_Cs dL_lay_38 (c_L_cell e7) pk_L_cell ml_L_9 rfl rfl rfl rfl rfl rfl rfl ?_
      refine x_iconst 4 dL_lay_41 (by decide) ?_
      refine x_ishr dL_lay_42 ?_
      refine x_iconst 4 dL_lay_43 (by decide) ?_
      obtain ⟨r8, e9, h⟩ := x_bind h
      refine x_cS (As := [.int (r6 >>> ((4 : Int32) &&& (31 : Int32))), .int (4 : Int32)]) (wc := ([] : va_W)) (w1 := ([] : va_W)) (pre := []) (post := (WArr G a_row 38 ((upd row_c 0 ((1 : Int32) + r4))))) (rest := [.int (1 : Int32), .int (1 : Int32), .ref (a_row 0)]) (st1 := [.int r8, .int (1 : Int32), .int (1 : Int32), .ref (a_row 0)]) (ws1 := (WArr G a_row 38 ((upd row_c 0 ((1 : Int32) + r4))))) dL_lay_44 (c_L_up e9) pk_L_up ml_L_15 rfl rfl rfl rfl rfl rfl rfl ?_
      refine x_iadd dL_lay_47 ?_
      refine x_iast 1 (q0 := 0) (WArr G a_row 38 ((upd (upd row_c 0 ((1 : Int32) + r4)) 1 ((1 : Int32) + r8)))) dL_lay_48 (by decide) rfl (by decide) rfl ?_
      refine x_aload_n dL_lay_49 1 rfl rfl ?_
      refine x_bipush 26 dL_lay_50 (by decide) ?_
      refine x_aload_n dL_lay_52 0 rfl rfl ?_
      refine x_iconst 0 dL_lay_53 (by decide) ?_
      obtain ⟨r10, e11, h⟩ := x_bind h
      refine x_cSs (As := [.ref sb, .int (0 : Int32)]) (wc := ([] : va_W)) (w1 := ([] : va_W)) (pre := []) (post := (WArr G a_row 38 ((upd (upd row_c 0 ((1 : Int32) + r4)) 1 ((1 : Int32) + r8))))) (rest := [.int (26 : Int32), .ref (a_row 0)]) (st1 := [.int r10, .int (26 : Int32), .ref (a_row 0)]) (ws1 := (WArr G a_row 38 ((upd (upd row_c 0 ((1 : Int32) + r4)) 1 ((1 : Int32) + r8))))) x_sc_Cs dL_lay_54 (c_L_cell e11) pk_L_cell ml_L_9 rfl rfl rfl rfl rfl rfl rfl ?_
      refine x_bipush 8 dL_lay_57 (by decide) ?_
      refine x_ishr dL_lay_59 ?_
      refine x_iconst 1 dL_lay_60 (by decide) ?_
      refine x_iand dL_lay_61 ?_
      refine x_iast 26 (q0 := 0) (WArr G a_row 38 ((upd (upd (upd row_c 0 ((1 : Int32) + r4)) 1 ((1 : Int32) + r8)) 26 ((r10 >>> ((8 : Int32) &&& (31 : Int32))) &&& (1 : Int32))))) dL_lay_62 (by decide) rfl (by decide) rfl ?_
      refine x_iconst 0 dL_lay_63 (by decide) ?_
      refine x_istore_n [(2, .int (0 : Int32)), (0, .ref sb), (1, .ref (a_row 0))] dL_lay_64 rfl (by decide) rfl ?_
      refine x_lv [1, 2, 0] rfl ?_
      exact w_L_lay_b65  _ _ _ h
    · have h := x_neg c1 h
      refine x_aload_n dL_lay_8 1 rfl rfl ?_
      refine x_iload_n dL_lay_9 2 rfl rfl ?_
      refine x_iconst 0 dL_lay_10 (by decide) ?_
      obtain ⟨b12, h⟩ := x_guard h
      refine x_iast x2.toNatClampNeg (q0 := 0) (WArr G a_row 38 ((upd row_c x2.toNatClampNeg (0 : Int32)))) dL_lay_11 rfl rfl b12 rfl ?_
      refine x_iinc (j := 2) (1 : Int32) [(2, .int (x2 + (1 : Int32))), (0, .ref sb), (1, .ref (a_row 0))] dL_lay_12 (by decide) rfl (by decide) rfl ?_
      refine x_goto 2 dL_lay_15 (by decide) ?_
      refine x_lv [1, 2, 0] rfl ?_
      exact ih _ _ h
def M_L_lay (xs : Nat → Int32) (L : Nat) (row_c : (Nat → Int32)) : Option ((Nat → Int32)) :=
  M_L_lay_b2 xs L x_fuel row_c (0 : Int32)
set_option maxHeartbeats 4000000 in
set_option maxRecDepth 100000 in
theorem c_L_lay {sb : Nat} {xs : Nat → Int32} {G : x_G} {l : Launch} {a_row : Nat → Nat} {L : Nat} {row_c : (Nat → Int32)} {res : (Nat → Int32)} (h : M_L_lay xs L row_c = some res) : x_Ms sb L xs G l yL_lay cL_lay 4 none (1) 0 0 [.ref sb, .ref (a_row 0)] (WArr G a_row 38 row_c) (x_is none (WArr G a_row 38 res)) := by
  unfold M_L_lay at h
  refine x_enterS (ini := false) (by decide) rfl (by decide) rfl (Nat.le_of_ble_eq_true rfl) ?_
  refine x_iconst 0 dL_lay_0 (by decide) ?_
  refine x_istore_n [(2, .int (0 : Int32)), (0, .ref sb), (1, .ref (a_row 0))] dL_lay_1 rfl (by decide) rfl ?_
  refine x_lv [1, 2, 0] rfl ?_
  exact w_L_lay_b2  _ _ _ h
theorem pk_L_letter : x_ps yL_letter cL_letter 1 (some .int) 1 := ⟨⟨co_L_letter, ni_L, by decide, by decide +kernel⟩, sm_L_letter⟩
def M_L_letter (x0 : Int32) : Int32 :=
  if x0 = 0 then
  ((114 : Int32))
  else
  (if x0 = (1 : Int32) then
  ((115 : Int32))
  else
  (if x0 = (2 : Int32) then
  ((112 : Int32))
  else
  (if x0 = (3 : Int32) then
  ((110 : Int32))
  else
  (if x0 = (4 : Int32) then
  ((116 : Int32))
  else
  ((119 : Int32))))))
set_option maxHeartbeats 4000000 in
set_option maxRecDepth 100000 in
theorem c_L_letter {G : x_G} {l : Launch} {x0 : Int32} {res : Int32} (h : M_L_letter x0 = res) : x_M G l yL_letter cL_letter 1 (some .int) (0) 0 0 [.int x0] ([] : va_W) (x_is (some (.int res)) ([] : va_W)) := by
  unfold M_L_letter at h
  refine x_enter (ini := false) (by decide) rfl (by decide) rfl (Nat.le_of_ble_eq_true rfl) ?_
  refine x_iload_n dL_letter_0 0 rfl rfl ?_
  refine x_if_ne 9 dL_letter_1 (by decide) (fun c1 => ?_) (fun c1 => ?_)
  · have h := x_neg c1 h
    refine x_iload_n dL_letter_9 0 rfl rfl ?_
    refine x_iconst 1 dL_letter_10 (by decide) ?_
    refine x_icmp_ne 19 dL_letter_11 (by decide) (fun c2 => ?_) (fun c2 => ?_)
    · have h := x_neg c2 h
      refine x_iload_n dL_letter_19 0 rfl rfl ?_
      refine x_iconst 2 dL_letter_20 (by decide) ?_
      refine x_icmp_ne 29 dL_letter_21 (by decide) (fun c3 => ?_) (fun c3 => ?_)
      · have h := x_neg c3 h
        refine x_iload_n dL_letter_29 0 rfl rfl ?_
        refine x_iconst 3 dL_letter_30 (by decide) ?_
        refine x_icmp_ne 39 dL_letter_31 (by decide) (fun c4 => ?_) (fun c4 => ?_)
        · have h := x_neg c4 h
          refine x_iload_n dL_letter_39 0 rfl rfl ?_
          refine x_iconst 4 dL_letter_40 (by decide) ?_
          refine x_icmp_ne 49 dL_letter_41 (by decide) (fun c5 => ?_) (fun c5 => ?_)
          · have h := x_neg c5 h
            refine x_bipush 119 dL_letter_49 (by decide) ?_
            subst h
            exact x_ireturn dL_letter_51 rfl (x_is.rf _ _)
          · have h := x_pos c5 h
            refine x_bipush 116 dL_letter_44 (by decide) ?_
            refine x_goto 51 dL_letter_46 (by decide) ?_
            subst h
            exact x_ireturn dL_letter_51 rfl (x_is.rf _ _)
        · have h := x_pos c4 h
          refine x_bipush 110 dL_letter_34 (by decide) ?_
          refine x_goto 51 dL_letter_36 (by decide) ?_
          subst h
          exact x_ireturn dL_letter_51 rfl (x_is.rf _ _)
      · have h := x_pos c3 h
        refine x_bipush 112 dL_letter_24 (by decide) ?_
        refine x_goto 51 dL_letter_26 (by decide) ?_
        subst h
        exact x_ireturn dL_letter_51 rfl (x_is.rf _ _)
    · have h := x_pos c2 h
      refine x_bipush 115 dL_letter_14 (by decide) ?_
      refine x_goto 51 dL_letter_16 (by decide) ?_
      subst h
      exact x_ireturn dL_letter_51 rfl (x_is.rf _ _)
  · have h := x_pos c1 h
    refine x_bipush 114 dL_letter_4 (by decide) ?_
    refine x_goto 51 dL_letter_6 (by decide) ?_
    subst h
    exact x_ireturn dL_letter_51 rfl (x_is.rf _ _)
theorem pk_L_sign : x_ps yL_sign cL_sign 3 (some .boolean) 3 := ⟨⟨co_L_sign, ni_L, by decide, by decide +kernel⟩, sm_L_sign⟩
def M_L_sign (S : x_S) (x1 : Int32) (x2 : Int32) : Option (Int32 × x_S) :=
  (M_LR_put S (0 : Int32) x1 x2).bind fun r1 =>
  if r1.1 = (1032 : Int32) then
  (some ((1 : Int32), r1.2))
  else
  (some ((0 : Int32), r1.2))
set_option maxHeartbeats 4000000 in
set_option maxRecDepth 100000 in
theorem c_L_sign {G : x_G} {l : Launch} {a : Nat → Nat} {ar : Nat → Nat} {al : Nat → Nat} {af : Nat → Nat} {ax : Nat → Nat} {ad : Nat → Nat} {aq : Nat → Nat} {S : x_S} {x1 : Int32} {x2 : Int32} {res : Int32 × x_S} (h : M_L_sign S x1 x2 = some res) : x_M G l yL_sign cL_sign 3 (some .boolean) (6) 0 0 [.ref (a 0), .int x1, .int x2] (WLR G a ar al af ax ad aq S) (x_is (some (.int res.1)) (WLR G a ar al af ax ad aq res.2)) := by
  unfold M_L_sign at h
  refine x_enter (ini := false) (by decide) rfl (by decide) rfl (Nat.le_of_ble_eq_true rfl) ?_
  refine x_aload_n dL_sign_0 0 rfl rfl ?_
  refine x_iconst 0 dL_sign_1 (by decide) ?_
  refine x_iload_n dL_sign_2 1 rfl rfl ?_
  refine x_iload_n dL_sign_3 2 rfl rfl ?_
  obtain ⟨r1, e2, h⟩ := x_bind h
  refine x_cV (As := [.int (0 : Int32), .int x1, .int x2]) (wc := (WLR G a ar al af ax ad aq S)) (w1 := (WLR G a ar al af ax ad aq r1.2)) (pre := []) (post := []) (rest := []) (st1 := [.int r1.1]) (ws1 := (WLR G a ar al af ax ad aq r1.2)) (ci := 4) 0 dL_sign_4 (c_LR_put (a := a) e2) pk_X6_put ml_L_19 (x_full _) rfl rfl rfl rfl rfl rfl rfl rfl (x_full _).symm ?_
  refine x_sipush 1032 dL_sign_7 (by decide) ?_
  refine x_icmp_ne 17 dL_sign_10 (by decide) (fun c3 => ?_) (fun c3 => ?_)
  · have h := x_neg c3 h
    refine x_iconst 0 dL_sign_17 (by decide) ?_
    cases h
    exact x_ireturn dL_sign_18 rfl (x_is.rf _ _)
  · have h := x_pos c3 h
    refine x_iconst 1 dL_sign_13 (by decide) ?_
    refine x_goto 18 dL_sign_14 (by decide) ?_
    cases h
    exact x_ireturn dL_sign_18 rfl (x_is.rf _ _)
theorem pk_L_made : x_ps yL_made cL_made 6 (some .boolean) 2 := ⟨⟨co_L_made, ni_L, by decide, by decide +kernel⟩, sm_L_made⟩
def M_L_made_b166 (k58 : (Nat → Int32) → x_S → Int32 → Int32 → Option (Int32 × (Nat → Int32) × x_S)) (row_c : (Nat → Int32)) (S : x_S) (x4 : Int32) (s0 : Int32) : Option (Int32 × (Nat → Int32) × x_S) :=
  k58 row_c S s0 (x4 + (1 : Int32))
set_option maxHeartbeats 4000000 in
set_option maxRecDepth 100000 in
theorem w_L_made_b166 {G : x_G} {l : Launch} {a : Nat → Nat} {ar : Nat → Nat} {al : Nat → Nat} {af : Nat → Nat} {ax : Nat → Nat} {ad : Nat → Nat} {aq : Nat → Nat} {a_row : Nat → Nat} {k58 : (Nat → Int32) → x_S → Int32 → Int32 → Option (Int32 × (Nat → Int32) × x_S)} {res : Int32 × (Nat → Int32) × x_S} (hk58 : ∀ (row_c : (Nat → Int32)) (S : x_S) (x3 : Int32) (x4 : Int32), k58 row_c S x3 x4 = some res → X G l RL cL_made 6 (x_R 7 0 0) (x_Cm G (some .boolean) false (x_is (some (.int res.1)) ((WArr G a_row 38 res.2.1) ++ (WLR G a ar al af ax ad aq res.2.2))) 0 0) 0 0 58 [(0, .ref (a 0)), (1, .ref (a_row 0)), (3, .int x3), (4, .int x4)] [] ((WArr G a_row 38 row_c) ++ (WLR G a ar al af ax ad aq S))) (row_c : (Nat → Int32)) (S : x_S) (x4 : Int32) (s0 : Int32) (h : M_L_made_b166 k58 row_c S x4 s0 = some res) : X G l RL cL_made 6 (x_R 7 0 0) (x_Cm G (some .boolean) false (x_is (some (.int res.1)) ((WArr G a_row 38 res.2.1) ++ (WLR G a ar al af ax ad aq res.2.2))) 0 0) 0 0 166 [(0, .ref (a 0)), (1, .ref (a_row 0)), (4, .int x4)] [.int s0] ((WArr G a_row 38 row_c) ++ (WLR G a ar al af ax ad aq S)) := by
  unfold M_L_made_b166 at h
  refine x_istore_n [(3, .int s0), (0, .ref (a 0)), (1, .ref (a_row 0)), (4, .int x4)] dL_made_166 rfl (by decide) rfl ?_
  refine x_iinc (j := 3) (1 : Int32) [(4, .int (x4 + (1 : Int32))), (3, .int s0), (0, .ref (a 0)), (1, .ref (a_row 0))] dL_made_167 (by decide) rfl (by decide) rfl ?_
  refine x_goto 58 dL_made_170 (by decide) ?_
  refine x_lv [2, 3, 1, 0] rfl ?_
  exact hk58 _ _ _ _ h
def M_L_made_b165 (k58 : (Nat → Int32) → x_S → Int32 → Int32 → Option (Int32 × (Nat → Int32) × x_S)) (row_c : (Nat → Int32)) (S : x_S) (x4 : Int32) : Option (Int32 × (Nat → Int32) × x_S) :=
  M_L_made_b166 k58 row_c S x4 (0 : Int32)
set_option maxHeartbeats 4000000 in
set_option maxRecDepth 100000 in
theorem w_L_made_b165 {G : x_G} {l : Launch} {a : Nat → Nat} {ar : Nat → Nat} {al : Nat → Nat} {af : Nat → Nat} {ax : Nat → Nat} {ad : Nat → Nat} {aq : Nat → Nat} {a_row : Nat → Nat} {k58 : (Nat → Int32) → x_S → Int32 → Int32 → Option (Int32 × (Nat → Int32) × x_S)} {res : Int32 × (Nat → Int32) × x_S} (hk58 : ∀ (row_c : (Nat → Int32)) (S : x_S) (x3 : Int32) (x4 : Int32), k58 row_c S x3 x4 = some res → X G l RL cL_made 6 (x_R 7 0 0) (x_Cm G (some .boolean) false (x_is (some (.int res.1)) ((WArr G a_row 38 res.2.1) ++ (WLR G a ar al af ax ad aq res.2.2))) 0 0) 0 0 58 [(0, .ref (a 0)), (1, .ref (a_row 0)), (3, .int x3), (4, .int x4)] [] ((WArr G a_row 38 row_c) ++ (WLR G a ar al af ax ad aq S))) (row_c : (Nat → Int32)) (S : x_S) (x4 : Int32) (h : M_L_made_b165 k58 row_c S x4 = some res) : X G l RL cL_made 6 (x_R 7 0 0) (x_Cm G (some .boolean) false (x_is (some (.int res.1)) ((WArr G a_row 38 res.2.1) ++ (WLR G a ar al af ax ad aq res.2.2))) 0 0) 0 0 165 [(0, .ref (a 0)), (1, .ref (a_row 0)), (4, .int x4)] [] ((WArr G a_row 38 row_c) ++ (WLR G a ar al af ax ad aq S)) := by
  unfold M_L_made_b165 at h
  refine x_iconst 0 dL_made_165 (by decide) ?_
  exact w_L_made_b166 hk58 _ _ _ _ h
def M_L_made_b314 (k176 : (Nat → Int32) → x_S → Int32 → Int32 → Option (Int32 × (Nat → Int32) × x_S)) (row_c : (Nat → Int32)) (S : x_S) (x4 : Int32) (s0 : Int32) : Option (Int32 × (Nat → Int32) × x_S) :=
  k176 row_c S s0 (x4 + (1 : Int32))
set_option maxHeartbeats 4000000 in
set_option maxRecDepth 100000 in
theorem w_L_made_b314 {G : x_G} {l : Launch} {a : Nat → Nat} {ar : Nat → Nat} {al : Nat → Nat} {af : Nat → Nat} {ax : Nat → Nat} {ad : Nat → Nat} {aq : Nat → Nat} {a_row : Nat → Nat} {k176 : (Nat → Int32) → x_S → Int32 → Int32 → Option (Int32 × (Nat → Int32) × x_S)} {res : Int32 × (Nat → Int32) × x_S} (hk176 : ∀ (row_c : (Nat → Int32)) (S : x_S) (x3 : Int32) (x4 : Int32), k176 row_c S x3 x4 = some res → X G l RL cL_made 6 (x_R 7 0 0) (x_Cm G (some .boolean) false (x_is (some (.int res.1)) ((WArr G a_row 38 res.2.1) ++ (WLR G a ar al af ax ad aq res.2.2))) 0 0) 0 0 176 [(0, .ref (a 0)), (1, .ref (a_row 0)), (3, .int x3), (4, .int x4)] [] ((WArr G a_row 38 row_c) ++ (WLR G a ar al af ax ad aq S))) (row_c : (Nat → Int32)) (S : x_S) (x4 : Int32) (s0 : Int32) (h : M_L_made_b314 k176 row_c S x4 s0 = some res) : X G l RL cL_made 6 (x_R 7 0 0) (x_Cm G (some .boolean) false (x_is (some (.int res.1)) ((WArr G a_row 38 res.2.1) ++ (WLR G a ar al af ax ad aq res.2.2))) 0 0) 0 0 314 [(0, .ref (a 0)), (1, .ref (a_row 0)), (4, .int x4)] [.int s0] ((WArr G a_row 38 row_c) ++ (WLR G a ar al af ax ad aq S)) := by
  unfold M_L_made_b314 at h
  refine x_istore_n [(3, .int s0), (0, .ref (a 0)), (1, .ref (a_row 0)), (4, .int x4)] dL_made_314 rfl (by decide) rfl ?_
  refine x_iinc (j := 3) (1 : Int32) [(4, .int (x4 + (1 : Int32))), (3, .int s0), (0, .ref (a 0)), (1, .ref (a_row 0))] dL_made_315 (by decide) rfl (by decide) rfl ?_
  refine x_goto 176 dL_made_318 (by decide) ?_
  refine x_lv [2, 3, 1, 0] rfl ?_
  exact hk176 _ _ _ _ h
def M_L_made_b313 (k176 : (Nat → Int32) → x_S → Int32 → Int32 → Option (Int32 × (Nat → Int32) × x_S)) (row_c : (Nat → Int32)) (S : x_S) (x4 : Int32) : Option (Int32 × (Nat → Int32) × x_S) :=
  M_L_made_b314 k176 row_c S x4 (0 : Int32)
set_option maxHeartbeats 4000000 in
set_option maxRecDepth 100000 in
theorem w_L_made_b313 {G : x_G} {l : Launch} {a : Nat → Nat} {ar : Nat → Nat} {al : Nat → Nat} {af : Nat → Nat} {ax : Nat → Nat} {ad : Nat → Nat} {aq : Nat → Nat} {a_row : Nat → Nat} {k176 : (Nat → Int32) → x_S → Int32 → Int32 → Option (Int32 × (Nat → Int32) × x_S)} {res : Int32 × (Nat → Int32) × x_S} (hk176 : ∀ (row_c : (Nat → Int32)) (S : x_S) (x3 : Int32) (x4 : Int32), k176 row_c S x3 x4 = some res → X G l RL cL_made 6 (x_R 7 0 0) (x_Cm G (some .boolean) false (x_is (some (.int res.1)) ((WArr G a_row 38 res.2.1) ++ (WLR G a ar al af ax ad aq res.2.2))) 0 0) 0 0 176 [(0, .ref (a 0)), (1, .ref (a_row 0)), (3, .int x3), (4, .int x4)] [] ((WArr G a_row 38 row_c) ++ (WLR G a ar al af ax ad aq S))) (row_c : (Nat → Int32)) (S : x_S) (x4 : Int32) (h : M_L_made_b313 k176 row_c S x4 = some res) : X G l RL cL_made 6 (x_R 7 0 0) (x_Cm G (some .boolean) false (x_is (some (.int res.1)) ((WArr G a_row 38 res.2.1) ++ (WLR G a ar al af ax ad aq res.2.2))) 0 0) 0 0 313 [(0, .ref (a 0)), (1, .ref (a_row 0)), (4, .int x4)] [] ((WArr G a_row 38 row_c) ++ (WLR G a ar al af ax ad aq S)) := by
  unfold M_L_made_b313 at h
  refine x_iconst 0 dL_made_313 (by decide) ?_
  exact w_L_made_b314 hk176 _ _ _ _ h
def M_L_made_b396 (k345 : (Nat → Int32) → x_S → Int32 → Int32 → Option (Int32 × (Nat → Int32) × x_S)) (row_c : (Nat → Int32)) (S : x_S) (x3 : Int32) (x4 : Int32) (s1 : Int32) (s2 : Int32) : Option (Int32 × (Nat → Int32) × x_S) :=
  if inb s1 38 then
  k345 (upd row_c s1.toNatClampNeg s2) S x3 (x4 + (1 : Int32))
  else none
set_option maxHeartbeats 4000000 in
set_option maxRecDepth 100000 in
theorem w_L_made_b396 {G : x_G} {l : Launch} {a : Nat → Nat} {ar : Nat → Nat} {al : Nat → Nat} {af : Nat → Nat} {ax : Nat → Nat} {ad : Nat → Nat} {aq : Nat → Nat} {a_row : Nat → Nat} {k345 : (Nat → Int32) → x_S → Int32 → Int32 → Option (Int32 × (Nat → Int32) × x_S)} {res : Int32 × (Nat → Int32) × x_S} (hk345 : ∀ (row_c : (Nat → Int32)) (S : x_S) (x3 : Int32) (x4 : Int32), k345 row_c S x3 x4 = some res → X G l RL cL_made 6 (x_R 7 0 0) (x_Cm G (some .boolean) false (x_is (some (.int res.1)) ((WArr G a_row 38 res.2.1) ++ (WLR G a ar al af ax ad aq res.2.2))) 0 0) 0 0 345 [(1, .ref (a_row 0)), (3, .int x3), (4, .int x4)] [] ((WArr G a_row 38 row_c) ++ (WLR G a ar al af ax ad aq S))) (row_c : (Nat → Int32)) (S : x_S) (x3 : Int32) (x4 : Int32) (s1 : Int32) (s2 : Int32) (h : M_L_made_b396 k345 row_c S x3 x4 s1 s2 = some res) : X G l RL cL_made 6 (x_R 7 0 0) (x_Cm G (some .boolean) false (x_is (some (.int res.1)) ((WArr G a_row 38 res.2.1) ++ (WLR G a ar al af ax ad aq res.2.2))) 0 0) 0 0 396 [(1, .ref (a_row 0)), (3, .int x3), (4, .int x4)] [.int s2, .int s1, .ref (a_row 0)] ((WArr G a_row 38 row_c) ++ (WLR G a ar al af ax ad aq S)) := by
  unfold M_L_made_b396 at h
  obtain ⟨b46, h⟩ := x_guard h
  refine x_iast s1.toNatClampNeg (q0 := 0) ((WArr G a_row 38 ((upd row_c s1.toNatClampNeg s2))) ++ (WLR G a ar al af ax ad aq S)) dL_made_396 rfl rfl b46 rfl ?_
  refine x_iinc (j := 2) (1 : Int32) [(4, .int (x4 + (1 : Int32))), (1, .ref (a_row 0)), (3, .int x3)] dL_made_397 (by decide) rfl (by decide) rfl ?_
  refine x_goto 345 dL_made_400 (by decide) ?_
  refine x_lv [1, 2, 0] rfl ?_
  exact hk345 _ _ _ _ h
def M_L_made_b384 (k345 : (Nat → Int32) → x_S → Int32 → Int32 → Option (Int32 × (Nat → Int32) × x_S)) (row_c : (Nat → Int32)) (S : x_S) (x3 : Int32) (x4 : Int32) (s1 : Int32) : Option (Int32 × (Nat → Int32) × x_S) :=
  M_L_made_b396 k345 row_c S x3 x4 s1 (-9 : Int32)
set_option maxHeartbeats 4000000 in
set_option maxRecDepth 100000 in
theorem w_L_made_b384 {G : x_G} {l : Launch} {a : Nat → Nat} {ar : Nat → Nat} {al : Nat → Nat} {af : Nat → Nat} {ax : Nat → Nat} {ad : Nat → Nat} {aq : Nat → Nat} {a_row : Nat → Nat} {k345 : (Nat → Int32) → x_S → Int32 → Int32 → Option (Int32 × (Nat → Int32) × x_S)} {res : Int32 × (Nat → Int32) × x_S} (hk345 : ∀ (row_c : (Nat → Int32)) (S : x_S) (x3 : Int32) (x4 : Int32), k345 row_c S x3 x4 = some res → X G l RL cL_made 6 (x_R 7 0 0) (x_Cm G (some .boolean) false (x_is (some (.int res.1)) ((WArr G a_row 38 res.2.1) ++ (WLR G a ar al af ax ad aq res.2.2))) 0 0) 0 0 345 [(1, .ref (a_row 0)), (3, .int x3), (4, .int x4)] [] ((WArr G a_row 38 row_c) ++ (WLR G a ar al af ax ad aq S))) (row_c : (Nat → Int32)) (S : x_S) (x3 : Int32) (x4 : Int32) (s1 : Int32) (h : M_L_made_b384 k345 row_c S x3 x4 s1 = some res) : X G l RL cL_made 6 (x_R 7 0 0) (x_Cm G (some .boolean) false (x_is (some (.int res.1)) ((WArr G a_row 38 res.2.1) ++ (WLR G a ar al af ax ad aq res.2.2))) 0 0) 0 0 384 [(1, .ref (a_row 0)), (3, .int x3), (4, .int x4)] [.int s1, .ref (a_row 0)] ((WArr G a_row 38 row_c) ++ (WLR G a ar al af ax ad aq S)) := by
  unfold M_L_made_b384 at h
  refine x_bipush (-9 : Int32) dL_made_384 (by decide) ?_
  refine x_goto 396 dL_made_386 (by decide) ?_
  exact w_L_made_b396 hk345 _ _ _ _ _ _ h
def M_L_made_b345 : Nat → (Nat → Int32) → x_S → Int32 → Int32 → Option (Int32 × (Nat → Int32) × x_S)
  | 0, _, _, _, _ => none
  | n + 1, row_c, S, x3, x4 =>
    if (row_c 0) ≤ x4 then
    (if narrow .boolean (.int x3) = .int x3 then
    some (x3, row_c, S)
    else none)
    else
    (if inb ((14 : Int32) + x4) 38 then
    if (row_c ((14 : Int32) + x4).toNatClampNeg) = x4 then
    (M_L_made_b384 (fun (row_c' : (Nat → Int32)) (S' : x_S) (x3' : Int32) (x4' : Int32) => M_L_made_b345 n row_c' S' x3' x4') row_c S x3 x4 ((14 : Int32) + x4))
    else
    (if (row_c ((14 : Int32) + x4).toNatClampNeg) < (row_c 0) then
    (M_L_made_b396 (fun (row_c' : (Nat → Int32)) (S' : x_S) (x3' : Int32) (x4' : Int32) => M_L_made_b345 n row_c' S' x3' x4') row_c S x3 x4 ((14 : Int32) + x4) (row_c ((14 : Int32) + x4).toNatClampNeg))
    else
    (M_L_made_b384 (fun (row_c' : (Nat → Int32)) (S' : x_S) (x3' : Int32) (x4' : Int32) => M_L_made_b345 n row_c' S' x3' x4') row_c S x3 x4 ((14 : Int32) + x4)))
    else none)
set_option maxHeartbeats 4000000 in
set_option maxRecDepth 100000 in
theorem w_L_made_b345 {G : x_G} {l : Launch} {a : Nat → Nat} {ar : Nat → Nat} {al : Nat → Nat} {af : Nat → Nat} {ax : Nat → Nat} {ad : Nat → Nat} {aq : Nat → Nat} {a_row : Nat → Nat} {res : Int32 × (Nat → Int32) × x_S} : ∀ (n : Nat) (row_c : (Nat → Int32)) (S : x_S) (x3 : Int32) (x4 : Int32), M_L_made_b345 n row_c S x3 x4 = some res → X G l RL cL_made 6 (x_R 7 0 0) (x_Cm G (some .boolean) false (x_is (some (.int res.1)) ((WArr G a_row 38 res.2.1) ++ (WLR G a ar al af ax ad aq res.2.2))) 0 0) 0 0 345 [(1, .ref (a_row 0)), (3, .int x3), (4, .int x4)] [] ((WArr G a_row 38 row_c) ++ (WLR G a ar al af ax ad aq S)) := by
  intro n
  induction n with
  | zero =>
    intro _ _ _ _ h
    cases h
  | succ n ih =>
    intro row_c S x3 x4 h
    rw [M_L_made_b345] at h
    refine x_iload dL_made_345 2 rfl ?_
    refine x_aload_n dL_made_347 0 rfl rfl ?_
    refine x_iconst 0 dL_made_348 (by decide) ?_
    refine x_iald 0 (q0 := 0) dL_made_349 (by decide) rfl (by decide) ?_
    refine x_icmp_ge 403 dL_made_350 (by decide) (fun c42 => ?_) (fun c42 => ?_)
    · have h := x_pos c42 h
      refine x_iload_n dL_made_403 1 rfl rfl ?_
      obtain ⟨hz, h⟩ := x_guard h
      cases h
      exact x_ireturn dL_made_404 hz (x_is.rf _ _)
    · have h := x_neg c42 h
      refine x_aload_n dL_made_353 0 rfl rfl ?_
      refine x_bipush 14 dL_made_354 (by decide) ?_
      refine x_iload dL_made_356 2 rfl ?_
      refine x_iadd dL_made_358 ?_
      refine x_aload_n dL_made_359 0 rfl rfl ?_
      refine x_bipush 14 dL_made_360 (by decide) ?_
      refine x_iload dL_made_362 2 rfl ?_
      refine x_iadd dL_made_364 ?_
      obtain ⟨b43, h⟩ := x_guard h
      refine x_iald ((14 : Int32) + x4).toNatClampNeg (q0 := 0) dL_made_365 rfl rfl b43 ?_
      refine x_iload dL_made_366 2 rfl ?_
      refine x_icmp_eq 384 dL_made_368 (by decide) (fun c44 => ?_) (fun c44 => ?_)
      · have h := x_pos c44 h
        exact w_L_made_b384 (fun row_c' S' x3' x4' h => ih row_c' S' x3' x4' h) _ _ _ _ _ h
      · have h := x_neg c44 h
        refine x_aload_n dL_made_371 0 rfl rfl ?_
        refine x_bipush 14 dL_made_372 (by decide) ?_
        refine x_iload dL_made_374 2 rfl ?_
        refine x_iadd dL_made_376 ?_
        refine x_iald ((14 : Int32) + x4).toNatClampNeg (q0 := 0) dL_made_377 rfl rfl b43 ?_
        refine x_aload_n dL_made_378 0 rfl rfl ?_
        refine x_iconst 0 dL_made_379 (by decide) ?_
        refine x_iald 0 (q0 := 0) dL_made_380 (by decide) rfl (by decide) ?_
        refine x_icmp_lt 389 dL_made_381 (by decide) (fun c45 => ?_) (fun c45 => ?_)
        · have h := x_pos c45 h
          refine x_aload_n dL_made_389 0 rfl rfl ?_
          refine x_bipush 14 dL_made_390 (by decide) ?_
          refine x_iload dL_made_392 2 rfl ?_
          refine x_iadd dL_made_394 ?_
          refine x_iald ((14 : Int32) + x4).toNatClampNeg (q0 := 0) dL_made_395 rfl rfl b43 ?_
          exact w_L_made_b396 (fun row_c' S' x3' x4' h => ih row_c' S' x3' x4' h) _ _ _ _ _ _ h
        · have h := x_neg c45 h
          exact w_L_made_b384 (fun row_c' S' x3' x4' h => ih row_c' S' x3' x4' h) _ _ _ _ _ h
def M_L_made_b341 (row_c : (Nat → Int32)) (S : x_S) (s0 : Int32) : Option (Int32 × (Nat → Int32) × x_S) :=
  M_L_made_b345 x_fuel row_c S s0 (0 : Int32)
set_option maxHeartbeats 4000000 in
set_option maxRecDepth 100000 in
theorem w_L_made_b341 {G : x_G} {l : Launch} {a : Nat → Nat} {ar : Nat → Nat} {al : Nat → Nat} {af : Nat → Nat} {ax : Nat → Nat} {ad : Nat → Nat} {aq : Nat → Nat} {a_row : Nat → Nat} {res : Int32 × (Nat → Int32) × x_S} (row_c : (Nat → Int32)) (S : x_S) (s0 : Int32) (h : M_L_made_b341 row_c S s0 = some res) : X G l RL cL_made 6 (x_R 7 0 0) (x_Cm G (some .boolean) false (x_is (some (.int res.1)) ((WArr G a_row 38 res.2.1) ++ (WLR G a ar al af ax ad aq res.2.2))) 0 0) 0 0 341 [(1, .ref (a_row 0))] [.int s0] ((WArr G a_row 38 row_c) ++ (WLR G a ar al af ax ad aq S)) := by
  unfold M_L_made_b341 at h
  refine x_istore_n [(3, .int s0), (1, .ref (a_row 0))] dL_made_341 rfl (by decide) rfl ?_
  refine x_iconst 0 dL_made_342 (by decide) ?_
  refine x_istore [(4, .int (0 : Int32)), (3, .int s0), (1, .ref (a_row 0))] dL_made_343 (by decide) rfl ?_
  refine x_lv [2, 1, 0] rfl ?_
  exact w_L_made_b345  _ _ _ _ _ h
def M_L_made_b340 (row_c : (Nat → Int32)) (S : x_S) : Option (Int32 × (Nat → Int32) × x_S) :=
  M_L_made_b341 row_c S (0 : Int32)
set_option maxHeartbeats 4000000 in
set_option maxRecDepth 100000 in
theorem w_L_made_b340 {G : x_G} {l : Launch} {a : Nat → Nat} {ar : Nat → Nat} {al : Nat → Nat} {af : Nat → Nat} {ax : Nat → Nat} {ad : Nat → Nat} {aq : Nat → Nat} {a_row : Nat → Nat} {res : Int32 × (Nat → Int32) × x_S} (row_c : (Nat → Int32)) (S : x_S) (h : M_L_made_b340 row_c S = some res) : X G l RL cL_made 6 (x_R 7 0 0) (x_Cm G (some .boolean) false (x_is (some (.int res.1)) ((WArr G a_row 38 res.2.1) ++ (WLR G a ar al af ax ad aq res.2.2))) 0 0) 0 0 340 [(1, .ref (a_row 0))] [] ((WArr G a_row 38 row_c) ++ (WLR G a ar al af ax ad aq S)) := by
  unfold M_L_made_b340 at h
  refine x_iconst 0 dL_made_340 (by decide) ?_
  exact w_L_made_b341  _ _ _ h
def M_L_made_b176 : Nat → (Nat → Int32) → x_S → Int32 → Int32 → Option (Int32 × (Nat → Int32) × x_S)
  | 0, _, _, _, _ => none
  | n + 1, row_c, S, x3, x4 =>
    if (row_c 1) ≤ x4 then
    (if x3 = 0 then
    (M_L_made_b340 row_c S)
    else
    ((M_LR_court S (0 : Int32)).bind fun r21 =>
    if r21.1 = (row_c 0) then
    (M_L_made_b341 row_c r21.2 (1 : Int32))
    else
    (M_L_made_b340 row_c r21.2)))
    else
    (if x3 = 0 then
    (M_L_made_b313 (fun (row_c' : (Nat → Int32)) (S' : x_S) (x3' : Int32) (x4' : Int32) => M_L_made_b176 n row_c' S' x3' x4') row_c S x4)
    else
    ((M_L_sign S (((2 : Int32) + ((4 : Int32) * (row_c 0))) + ((5 : Int32) * x4)) (97 : Int32)).bind fun r25 =>
    if r25.1 = 0 then
    (M_L_made_b313 (fun (row_c' : (Nat → Int32)) (S' : x_S) (x3' : Int32) (x4' : Int32) => M_L_made_b176 n row_c' S' x3' x4') row_c r25.2 x4)
    else
    (if inb ((27 : Int32) + x4) 38 then
    (M_L_sign r25.2 ((((2 : Int32) + ((4 : Int32) * (row_c 0))) + ((5 : Int32) * x4)) + (1 : Int32)) ((48 : Int32) + ((row_c ((27 : Int32) + x4).toNatClampNeg) / (10 : Int32)))).bind fun r29 =>
    if r29.1 = 0 then
    (M_L_made_b313 (fun (row_c' : (Nat → Int32)) (S' : x_S) (x3' : Int32) (x4' : Int32) => M_L_made_b176 n row_c' S' x3' x4') row_c r29.2 x4)
    else
    ((M_L_sign r29.2 ((((2 : Int32) + ((4 : Int32) * (row_c 0))) + ((5 : Int32) * x4)) + (2 : Int32)) ((48 : Int32) + ((row_c ((27 : Int32) + x4).toNatClampNeg) - (row_c ((27 : Int32) + x4).toNatClampNeg) / (10 : Int32) * (10 : Int32)))).bind fun r32 =>
    if r32.1 = 0 then
    (M_L_made_b313 (fun (row_c' : (Nat → Int32)) (S' : x_S) (x3' : Int32) (x4' : Int32) => M_L_made_b176 n row_c' S' x3' x4') row_c r32.2 x4)
    else
    (if inb ((31 : Int32) + x4) 38 then
    (M_L_sign r32.2 ((((2 : Int32) + ((4 : Int32) * (row_c 0))) + ((5 : Int32) * x4)) + (3 : Int32)) ((48 : Int32) + ((row_c ((31 : Int32) + x4).toNatClampNeg) / (10 : Int32)))).bind fun r36 =>
    if r36.1 = 0 then
    (M_L_made_b313 (fun (row_c' : (Nat → Int32)) (S' : x_S) (x3' : Int32) (x4' : Int32) => M_L_made_b176 n row_c' S' x3' x4') row_c r36.2 x4)
    else
    ((M_L_sign r36.2 ((((2 : Int32) + ((4 : Int32) * (row_c 0))) + ((5 : Int32) * x4)) + (4 : Int32)) ((48 : Int32) + ((row_c ((31 : Int32) + x4).toNatClampNeg) - (row_c ((31 : Int32) + x4).toNatClampNeg) / (10 : Int32) * (10 : Int32)))).bind fun r39 =>
    if r39.1 = 0 then
    (M_L_made_b313 (fun (row_c' : (Nat → Int32)) (S' : x_S) (x3' : Int32) (x4' : Int32) => M_L_made_b176 n row_c' S' x3' x4') row_c r39.2 x4)
    else
    (M_L_made_b314 (fun (row_c' : (Nat → Int32)) (S' : x_S) (x3' : Int32) (x4' : Int32) => M_L_made_b176 n row_c' S' x3' x4') row_c r39.2 x4 (1 : Int32)))
    else none))
    else none)))
set_option maxHeartbeats 4000000 in
set_option maxRecDepth 100000 in
theorem w_L_made_b176 {G : x_G} {l : Launch} {a : Nat → Nat} {ar : Nat → Nat} {al : Nat → Nat} {af : Nat → Nat} {ax : Nat → Nat} {ad : Nat → Nat} {aq : Nat → Nat} {a_row : Nat → Nat} {res : Int32 × (Nat → Int32) × x_S} : ∀ (n : Nat) (row_c : (Nat → Int32)) (S : x_S) (x3 : Int32) (x4 : Int32), M_L_made_b176 n row_c S x3 x4 = some res → X G l RL cL_made 6 (x_R 7 0 0) (x_Cm G (some .boolean) false (x_is (some (.int res.1)) ((WArr G a_row 38 res.2.1) ++ (WLR G a ar al af ax ad aq res.2.2))) 0 0) 0 0 176 [(0, .ref (a 0)), (1, .ref (a_row 0)), (3, .int x3), (4, .int x4)] [] ((WArr G a_row 38 row_c) ++ (WLR G a ar al af ax ad aq S)) := by
  intro n
  induction n with
  | zero =>
    intro _ _ _ _ h
    cases h
  | succ n ih =>
    intro row_c S x3 x4 h
    rw [M_L_made_b176] at h
    refine x_iload dL_made_176 3 rfl ?_
    refine x_aload_n dL_made_178 1 rfl rfl ?_
    refine x_iconst 1 dL_made_179 (by decide) ?_
    refine x_iald 1 (q0 := 0) dL_made_180 (by decide) rfl (by decide) ?_
    refine x_icmp_ge 321 dL_made_181 (by decide) (fun c19 => ?_) (fun c19 => ?_)
    · have h := x_pos c19 h
      refine x_iload_n dL_made_321 2 rfl rfl ?_
      refine x_if_eq 340 dL_made_322 (by decide) (fun c20 => ?_) (fun c20 => ?_)
      · have h := x_pos c20 h
        refine x_lv [1] rfl ?_
        exact w_L_made_b340  _ _ h
      · have h := x_neg c20 h
        refine x_aload_n dL_made_325 0 rfl rfl ?_
        refine x_iconst 0 dL_made_326 (by decide) ?_
        obtain ⟨r21, e22, h⟩ := x_bind h
        refine x_cV (As := [.int (0 : Int32)]) (wc := (WLR G a ar al af ax ad aq S)) (w1 := (WLR G a ar al af ax ad aq r21.2)) (pre := (WArr G a_row 38 row_c)) (post := ([] : va_W)) (rest := []) (st1 := [.int r21.1]) (ws1 := ((WArr G a_row 38 row_c) ++ (WLR G a ar al af ax ad aq r21.2))) (ci := 4) 0 dL_made_327 (c_LR_court (a := a) e22) pk_X6_court ml_L_36 (by simp only [List.append_assoc, List.append_nil, List.nil_append]) rfl rfl rfl rfl rfl rfl rfl rfl (by simp only [List.append_assoc, List.append_nil, List.nil_append]) ?_
        refine x_aload_n dL_made_330 1 rfl rfl ?_
        refine x_iconst 0 dL_made_331 (by decide) ?_
        refine x_iald 0 (q0 := 0) dL_made_332 (by decide) rfl (by decide) ?_
        refine x_icmp_ne 340 dL_made_333 (by decide) (fun c23 => ?_) (fun c23 => ?_)
        · have h := x_neg c23 h
          refine x_lv [1] rfl ?_
          exact w_L_made_b340  _ _ h
        · have h := x_pos c23 h
          refine x_iconst 1 dL_made_336 (by decide) ?_
          refine x_goto 341 dL_made_337 (by decide) ?_
          refine x_lv [1] rfl ?_
          exact w_L_made_b341  _ _ _ h
    · have h := x_neg c19 h
      refine x_iconst 2 dL_made_184 (by decide) ?_
      refine x_iconst 4 dL_made_185 (by decide) ?_
      refine x_aload_n dL_made_186 1 rfl rfl ?_
      refine x_iconst 0 dL_made_187 (by decide) ?_
      refine x_iald 0 (q0 := 0) dL_made_188 (by decide) rfl (by decide) ?_
      refine x_imul dL_made_189 ?_
      refine x_iadd dL_made_190 ?_
      refine x_iconst 5 dL_made_191 (by decide) ?_
      refine x_iload dL_made_192 3 rfl ?_
      refine x_imul dL_made_194 ?_
      refine x_iadd dL_made_195 ?_
      refine x_istore [(5, .int (((2 : Int32) + ((4 : Int32) * (row_c 0))) + ((5 : Int32) * x4))), (0, .ref (a 0)), (1, .ref (a_row 0)), (3, .int x3), (4, .int x4)] dL_made_196 (by decide) rfl ?_
      refine x_iload_n dL_made_198 3 rfl rfl ?_
      refine x_if_eq 313 dL_made_199 (by decide) (fun c24 => ?_) (fun c24 => ?_)
      · have h := x_pos c24 h
        refine x_lv [1, 2, 4] rfl ?_
        exact w_L_made_b313 (fun row_c' S' x3' x4' h => ih row_c' S' x3' x4' h) _ _ _ h
      · have h := x_neg c24 h
        refine x_aload_n dL_made_202 1 rfl rfl ?_
        refine x_iload dL_made_203 0 rfl ?_
        refine x_bipush 97 dL_made_205 (by decide) ?_
        obtain ⟨r25, e26, h⟩ := x_bind h
        refine x_cS (As := [.ref (a 0), .int (((2 : Int32) + ((4 : Int32) * (row_c 0))) + ((5 : Int32) * x4)), .int (97 : Int32)]) (wc := (WLR G a ar al af ax ad aq S)) (w1 := (WLR G a ar al af ax ad aq r25.2)) (pre := (WArr G a_row 38 row_c)) (post := ([] : va_W)) (rest := []) (st1 := [.int r25.1]) (ws1 := ((WArr G a_row 38 row_c) ++ (WLR G a ar al af ax ad aq r25.2))) dL_made_207 (c_L_sign (a := a) e26) pk_L_sign ml_L_28 (by simp only [List.append_assoc, List.append_nil, List.nil_append]) rfl rfl rfl rfl rfl (by simp only [List.append_assoc, List.append_nil, List.nil_append]) ?_
        refine x_if_eq 313 dL_made_210 (by decide) (fun c27 => ?_) (fun c27 => ?_)
        · have h := x_pos c27 h
          refine x_lv [1, 2, 4] rfl ?_
          exact w_L_made_b313 (fun row_c' S' x3' x4' h => ih row_c' S' x3' x4' h) _ _ _ h
        · have h := x_neg c27 h
          refine x_aload_n dL_made_213 1 rfl rfl ?_
          refine x_iload dL_made_214 0 rfl ?_
          refine x_iconst 1 dL_made_216 (by decide) ?_
          refine x_iadd dL_made_217 ?_
          refine x_bipush 48 dL_made_218 (by decide) ?_
          refine x_aload_n dL_made_220 2 rfl rfl ?_
          refine x_bipush 27 dL_made_221 (by decide) ?_
          refine x_iload dL_made_223 4 rfl ?_
          refine x_iadd dL_made_225 ?_
          obtain ⟨b28, h⟩ := x_guard h
          refine x_iald ((27 : Int32) + x4).toNatClampNeg (q0 := 0) dL_made_226 rfl rfl b28 ?_
          refine x_bipush 10 dL_made_227 (by decide) ?_
          refine x_idiv dL_made_229 (by decide) ?_
          refine x_iadd dL_made_230 ?_
          obtain ⟨r29, e30, h⟩ := x_bind h
          refine x_cS (As := [.ref (a 0), .int ((((2 : Int32) + ((4 : Int32) * (row_c 0))) + ((5 : Int32) * x4)) + (1 : Int32)), .int ((48 : Int32) + ((row_c ((27 : Int32) + x4).toNatClampNeg) / (10 : Int32)))]) (wc := (WLR G a ar al af ax ad aq r25.2)) (w1 := (WLR G a ar al af ax ad aq r29.2)) (pre := (WArr G a_row 38 row_c)) (post := ([] : va_W)) (rest := []) (st1 := [.int r29.1]) (ws1 := ((WArr G a_row 38 row_c) ++ (WLR G a ar al af ax ad aq r29.2))) dL_made_231 (c_L_sign (a := a) e30) pk_L_sign ml_L_28 (by simp only [List.append_assoc, List.append_nil, List.nil_append]) rfl rfl rfl rfl rfl (by simp only [List.append_assoc, List.append_nil, List.nil_append]) ?_
          refine x_if_eq 313 dL_made_234 (by decide) (fun c31 => ?_) (fun c31 => ?_)
          · have h := x_pos c31 h
            refine x_lv [1, 2, 4] rfl ?_
            exact w_L_made_b313 (fun row_c' S' x3' x4' h => ih row_c' S' x3' x4' h) _ _ _ h
          · have h := x_neg c31 h
            refine x_aload_n dL_made_237 1 rfl rfl ?_
            refine x_iload dL_made_238 0 rfl ?_
            refine x_iconst 2 dL_made_240 (by decide) ?_
            refine x_iadd dL_made_241 ?_
            refine x_bipush 48 dL_made_242 (by decide) ?_
            refine x_aload_n dL_made_244 2 rfl rfl ?_
            refine x_bipush 27 dL_made_245 (by decide) ?_
            refine x_iload dL_made_247 4 rfl ?_
            refine x_iadd dL_made_249 ?_
            refine x_iald ((27 : Int32) + x4).toNatClampNeg (q0 := 0) dL_made_250 rfl rfl b28 ?_
            refine x_bipush 10 dL_made_251 (by decide) ?_
            refine x_irem dL_made_253 (by decide) ?_
            refine x_iadd dL_made_254 ?_
            obtain ⟨r32, e33, h⟩ := x_bind h
            refine x_cS (As := [.ref (a 0), .int ((((2 : Int32) + ((4 : Int32) * (row_c 0))) + ((5 : Int32) * x4)) + (2 : Int32)), .int ((48 : Int32) + ((row_c ((27 : Int32) + x4).toNatClampNeg) - (row_c ((27 : Int32) + x4).toNatClampNeg) / (10 : Int32) * (10 : Int32)))]) (wc := (WLR G a ar al af ax ad aq r29.2)) (w1 := (WLR G a ar al af ax ad aq r32.2)) (pre := (WArr G a_row 38 row_c)) (post := ([] : va_W)) (rest := []) (st1 := [.int r32.1]) (ws1 := ((WArr G a_row 38 row_c) ++ (WLR G a ar al af ax ad aq r32.2))) dL_made_255 (c_L_sign (a := a) e33) pk_L_sign ml_L_28 (by simp only [List.append_assoc, List.append_nil, List.nil_append]) rfl rfl rfl rfl rfl (by simp only [List.append_assoc, List.append_nil, List.nil_append]) ?_
            refine x_if_eq 313 dL_made_258 (by decide) (fun c34 => ?_) (fun c34 => ?_)
            · have h := x_pos c34 h
              refine x_lv [1, 2, 4] rfl ?_
              exact w_L_made_b313 (fun row_c' S' x3' x4' h => ih row_c' S' x3' x4' h) _ _ _ h
            · have h := x_neg c34 h
              refine x_aload_n dL_made_261 1 rfl rfl ?_
              refine x_iload dL_made_262 0 rfl ?_
              refine x_iconst 3 dL_made_264 (by decide) ?_
              refine x_iadd dL_made_265 ?_
              refine x_bipush 48 dL_made_266 (by decide) ?_
              refine x_aload_n dL_made_268 2 rfl rfl ?_
              refine x_bipush 31 dL_made_269 (by decide) ?_
              refine x_iload dL_made_271 4 rfl ?_
              refine x_iadd dL_made_273 ?_
              obtain ⟨b35, h⟩ := x_guard h
              refine x_iald ((31 : Int32) + x4).toNatClampNeg (q0 := 0) dL_made_274 rfl rfl b35 ?_
              refine x_bipush 10 dL_made_275 (by decide) ?_
              refine x_idiv dL_made_277 (by decide) ?_
              refine x_iadd dL_made_278 ?_
              obtain ⟨r36, e37, h⟩ := x_bind h
              refine x_cS (As := [.ref (a 0), .int ((((2 : Int32) + ((4 : Int32) * (row_c 0))) + ((5 : Int32) * x4)) + (3 : Int32)), .int ((48 : Int32) + ((row_c ((31 : Int32) + x4).toNatClampNeg) / (10 : Int32)))]) (wc := (WLR G a ar al af ax ad aq r32.2)) (w1 := (WLR G a ar al af ax ad aq r36.2)) (pre := (WArr G a_row 38 row_c)) (post := ([] : va_W)) (rest := []) (st1 := [.int r36.1]) (ws1 := ((WArr G a_row 38 row_c) ++ (WLR G a ar al af ax ad aq r36.2))) dL_made_279 (c_L_sign (a := a) e37) pk_L_sign ml_L_28 (by simp only [List.append_assoc, List.append_nil, List.nil_append]) rfl rfl rfl rfl rfl (by simp only [List.append_assoc, List.append_nil, List.nil_append]) ?_
              refine x_if_eq 313 dL_made_282 (by decide) (fun c38 => ?_) (fun c38 => ?_)
              · have h := x_pos c38 h
                refine x_lv [1, 2, 4] rfl ?_
                exact w_L_made_b313 (fun row_c' S' x3' x4' h => ih row_c' S' x3' x4' h) _ _ _ h
              · have h := x_neg c38 h
                refine x_aload_n dL_made_285 1 rfl rfl ?_
                refine x_iload dL_made_286 0 rfl ?_
                refine x_iconst 4 dL_made_288 (by decide) ?_
                refine x_iadd dL_made_289 ?_
                refine x_bipush 48 dL_made_290 (by decide) ?_
                refine x_aload_n dL_made_292 2 rfl rfl ?_
                refine x_bipush 31 dL_made_293 (by decide) ?_
                refine x_iload dL_made_295 4 rfl ?_
                refine x_iadd dL_made_297 ?_
                refine x_iald ((31 : Int32) + x4).toNatClampNeg (q0 := 0) dL_made_298 rfl rfl b35 ?_
                refine x_bipush 10 dL_made_299 (by decide) ?_
                refine x_irem dL_made_301 (by decide) ?_
                refine x_iadd dL_made_302 ?_
                obtain ⟨r39, e40, h⟩ := x_bind h
                refine x_cS (As := [.ref (a 0), .int ((((2 : Int32) + ((4 : Int32) * (row_c 0))) + ((5 : Int32) * x4)) + (4 : Int32)), .int ((48 : Int32) + ((row_c ((31 : Int32) + x4).toNatClampNeg) - (row_c ((31 : Int32) + x4).toNatClampNeg) / (10 : Int32) * (10 : Int32)))]) (wc := (WLR G a ar al af ax ad aq r36.2)) (w1 := (WLR G a ar al af ax ad aq r39.2)) (pre := (WArr G a_row 38 row_c)) (post := ([] : va_W)) (rest := []) (st1 := [.int r39.1]) (ws1 := ((WArr G a_row 38 row_c) ++ (WLR G a ar al af ax ad aq r39.2))) dL_made_303 (c_L_sign (a := a) e40) pk_L_sign ml_L_28 (by simp only [List.append_assoc, List.append_nil, List.nil_append]) rfl rfl rfl rfl rfl (by simp only [List.append_assoc, List.append_nil, List.nil_append]) ?_
                refine x_if_eq 313 dL_made_306 (by decide) (fun c41 => ?_) (fun c41 => ?_)
                · have h := x_pos c41 h
                  refine x_lv [1, 2, 4] rfl ?_
                  exact w_L_made_b313 (fun row_c' S' x3' x4' h => ih row_c' S' x3' x4' h) _ _ _ h
                · have h := x_neg c41 h
                  refine x_iconst 1 dL_made_309 (by decide) ?_
                  refine x_goto 314 dL_made_310 (by decide) ?_
                  refine x_lv [1, 2, 4] rfl ?_
                  exact w_L_made_b314 (fun row_c' S' x3' x4' h => ih row_c' S' x3' x4' h) _ _ _ _ h
def M_L_made_b58 : Nat → (Nat → Int32) → x_S → Int32 → Int32 → Option (Int32 × (Nat → Int32) × x_S)
  | 0, _, _, _, _ => none
  | n + 1, row_c, S, x3, x4 =>
    if (row_c 0) ≤ x4 then
    (M_L_made_b176 x_fuel row_c S x3 (0 : Int32))
    else
    (if x3 = 0 then
    (M_L_made_b165 (fun (row_c' : (Nat → Int32)) (S' : x_S) (x3' : Int32) (x4' : Int32) => M_L_made_b58 n row_c' S' x3' x4') row_c S x4)
    else
    (if inb ((2 : Int32) + x4) 38 then
    (M_L_sign S ((2 : Int32) + ((4 : Int32) * x4)) (M_L_letter (row_c ((2 : Int32) + x4).toNatClampNeg))).bind fun r4 =>
    if r4.1 = 0 then
    (M_L_made_b165 (fun (row_c' : (Nat → Int32)) (S' : x_S) (x3' : Int32) (x4' : Int32) => M_L_made_b58 n row_c' S' x3' x4') row_c r4.2 x4)
    else
    (if inb ((8 : Int32) + x4) 38 then
    (M_L_sign r4.2 ((3 : Int32) + ((4 : Int32) * x4)) ((48 : Int32) + (row_c ((8 : Int32) + x4).toNatClampNeg))).bind fun r8 =>
    if r8.1 = 0 then
    (M_L_made_b165 (fun (row_c' : (Nat → Int32)) (S' : x_S) (x3' : Int32) (x4' : Int32) => M_L_made_b58 n row_c' S' x3' x4') row_c r8.2 x4)
    else
    (if inb ((14 : Int32) + x4) 38 then
    (M_L_sign r8.2 ((4 : Int32) + ((4 : Int32) * x4)) ((48 : Int32) + (row_c ((14 : Int32) + x4).toNatClampNeg))).bind fun r12 =>
    if r12.1 = 0 then
    (M_L_made_b165 (fun (row_c' : (Nat → Int32)) (S' : x_S) (x3' : Int32) (x4' : Int32) => M_L_made_b58 n row_c' S' x3' x4') row_c r12.2 x4)
    else
    (if inb ((20 : Int32) + x4) 38 then
    (M_L_sign r12.2 ((5 : Int32) + ((4 : Int32) * x4)) ((48 : Int32) + (row_c ((20 : Int32) + x4).toNatClampNeg))).bind fun r16 =>
    if r16.1 = 0 then
    (M_L_made_b165 (fun (row_c' : (Nat → Int32)) (S' : x_S) (x3' : Int32) (x4' : Int32) => M_L_made_b58 n row_c' S' x3' x4') row_c r16.2 x4)
    else
    (M_L_made_b166 (fun (row_c' : (Nat → Int32)) (S' : x_S) (x3' : Int32) (x4' : Int32) => M_L_made_b58 n row_c' S' x3' x4') row_c r16.2 x4 (1 : Int32))
    else none)
    else none)
    else none)
    else none))
set_option maxHeartbeats 4000000 in
set_option maxRecDepth 100000 in
theorem w_L_made_b58 {G : x_G} {l : Launch} {a : Nat → Nat} {ar : Nat → Nat} {al : Nat → Nat} {af : Nat → Nat} {ax : Nat → Nat} {ad : Nat → Nat} {aq : Nat → Nat} {a_row : Nat → Nat} {res : Int32 × (Nat → Int32) × x_S} : ∀ (n : Nat) (row_c : (Nat → Int32)) (S : x_S) (x3 : Int32) (x4 : Int32), M_L_made_b58 n row_c S x3 x4 = some res → X G l RL cL_made 6 (x_R 7 0 0) (x_Cm G (some .boolean) false (x_is (some (.int res.1)) ((WArr G a_row 38 res.2.1) ++ (WLR G a ar al af ax ad aq res.2.2))) 0 0) 0 0 58 [(0, .ref (a 0)), (1, .ref (a_row 0)), (3, .int x3), (4, .int x4)] [] ((WArr G a_row 38 row_c) ++ (WLR G a ar al af ax ad aq S)) := by
  intro n
  induction n with
  | zero =>
    intro _ _ _ _ h
    cases h
  | succ n ih =>
    intro row_c S x3 x4 h
    rw [M_L_made_b58] at h
    refine x_iload dL_made_58 3 rfl ?_
    refine x_aload_n dL_made_60 1 rfl rfl ?_
    refine x_iconst 0 dL_made_61 (by decide) ?_
    refine x_iald 0 (q0 := 0) dL_made_62 (by decide) rfl (by decide) ?_
    refine x_icmp_ge 173 dL_made_63 (by decide) (fun c1 => ?_) (fun c1 => ?_)
    · have h := x_pos c1 h
      refine x_iconst 0 dL_made_173 (by decide) ?_
      refine x_istore [(4, .int (0 : Int32)), (0, .ref (a 0)), (1, .ref (a_row 0)), (3, .int x3)] dL_made_174 (by decide) rfl ?_
      refine x_lv [1, 2, 3, 0] rfl ?_
      exact w_L_made_b176  _ _ _ _ _ h
    · have h := x_neg c1 h
      refine x_iload_n dL_made_66 2 rfl rfl ?_
      refine x_if_eq 165 dL_made_67 (by decide) (fun c2 => ?_) (fun c2 => ?_)
      · have h := x_pos c2 h
        refine x_lv [0, 1, 3] rfl ?_
        exact w_L_made_b165 (fun row_c' S' x3' x4' h => ih row_c' S' x3' x4' h) _ _ _ h
      · have h := x_neg c2 h
        refine x_aload_n dL_made_70 0 rfl rfl ?_
        refine x_iconst 2 dL_made_71 (by decide) ?_
        refine x_iconst 4 dL_made_72 (by decide) ?_
        refine x_iload dL_made_73 3 rfl ?_
        refine x_imul dL_made_75 ?_
        refine x_iadd dL_made_76 ?_
        refine x_aload_n dL_made_77 1 rfl rfl ?_
        refine x_iconst 2 dL_made_78 (by decide) ?_
        refine x_iload dL_made_79 3 rfl ?_
        refine x_iadd dL_made_81 ?_
        obtain ⟨b3, h⟩ := x_guard h
        refine x_iald ((2 : Int32) + x4).toNatClampNeg (q0 := 0) dL_made_82 rfl rfl b3 ?_
        refine x_cS (As := [.int (row_c ((2 : Int32) + x4).toNatClampNeg)]) (wc := ([] : va_W)) (w1 := ([] : va_W)) (pre := []) (post := ((WArr G a_row 38 row_c) ++ (WLR G a ar al af ax ad aq S))) (rest := [.int ((2 : Int32) + ((4 : Int32) * x4)), .ref (a 0)]) (st1 := [.int (M_L_letter (row_c ((2 : Int32) + x4).toNatClampNeg)), .int ((2 : Int32) + ((4 : Int32) * x4)), .ref (a 0)]) (ws1 := ((WArr G a_row 38 row_c) ++ (WLR G a ar al af ax ad aq S))) dL_made_83 (c_L_letter rfl) pk_L_letter ml_L_32 rfl rfl rfl rfl rfl rfl rfl ?_
        obtain ⟨r4, e5, h⟩ := x_bind h
        refine x_cS (As := [.ref (a 0), .int ((2 : Int32) + ((4 : Int32) * x4)), .int (M_L_letter (row_c ((2 : Int32) + x4).toNatClampNeg))]) (wc := (WLR G a ar al af ax ad aq S)) (w1 := (WLR G a ar al af ax ad aq r4.2)) (pre := (WArr G a_row 38 row_c)) (post := ([] : va_W)) (rest := []) (st1 := [.int r4.1]) (ws1 := ((WArr G a_row 38 row_c) ++ (WLR G a ar al af ax ad aq r4.2))) dL_made_86 (c_L_sign (a := a) e5) pk_L_sign ml_L_28 (by simp only [List.append_assoc, List.append_nil, List.nil_append]) rfl rfl rfl rfl rfl (by simp only [List.append_assoc, List.append_nil, List.nil_append]) ?_
        refine x_if_eq 165 dL_made_89 (by decide) (fun c6 => ?_) (fun c6 => ?_)
        · have h := x_pos c6 h
          refine x_lv [0, 1, 3] rfl ?_
          exact w_L_made_b165 (fun row_c' S' x3' x4' h => ih row_c' S' x3' x4' h) _ _ _ h
        · have h := x_neg c6 h
          refine x_aload_n dL_made_92 0 rfl rfl ?_
          refine x_iconst 3 dL_made_93 (by decide) ?_
          refine x_iconst 4 dL_made_94 (by decide) ?_
          refine x_iload dL_made_95 3 rfl ?_
          refine x_imul dL_made_97 ?_
          refine x_iadd dL_made_98 ?_
          refine x_bipush 48 dL_made_99 (by decide) ?_
          refine x_aload_n dL_made_101 1 rfl rfl ?_
          refine x_bipush 8 dL_made_102 (by decide) ?_
          refine x_iload dL_made_104 3 rfl ?_
          refine x_iadd dL_made_106 ?_
          obtain ⟨b7, h⟩ := x_guard h
          refine x_iald ((8 : Int32) + x4).toNatClampNeg (q0 := 0) dL_made_107 rfl rfl b7 ?_
          refine x_iadd dL_made_108 ?_
          obtain ⟨r8, e9, h⟩ := x_bind h
          refine x_cS (As := [.ref (a 0), .int ((3 : Int32) + ((4 : Int32) * x4)), .int ((48 : Int32) + (row_c ((8 : Int32) + x4).toNatClampNeg))]) (wc := (WLR G a ar al af ax ad aq r4.2)) (w1 := (WLR G a ar al af ax ad aq r8.2)) (pre := (WArr G a_row 38 row_c)) (post := ([] : va_W)) (rest := []) (st1 := [.int r8.1]) (ws1 := ((WArr G a_row 38 row_c) ++ (WLR G a ar al af ax ad aq r8.2))) dL_made_109 (c_L_sign (a := a) e9) pk_L_sign ml_L_28 (by simp only [List.append_assoc, List.append_nil, List.nil_append]) rfl rfl rfl rfl rfl (by simp only [List.append_assoc, List.append_nil, List.nil_append]) ?_
          refine x_if_eq 165 dL_made_112 (by decide) (fun c10 => ?_) (fun c10 => ?_)
          · have h := x_pos c10 h
            refine x_lv [0, 1, 3] rfl ?_
            exact w_L_made_b165 (fun row_c' S' x3' x4' h => ih row_c' S' x3' x4' h) _ _ _ h
          · have h := x_neg c10 h
            refine x_aload_n dL_made_115 0 rfl rfl ?_
            refine x_iconst 4 dL_made_116 (by decide) ?_
            refine x_iconst 4 dL_made_117 (by decide) ?_
            refine x_iload dL_made_118 3 rfl ?_
            refine x_imul dL_made_120 ?_
            refine x_iadd dL_made_121 ?_
            refine x_bipush 48 dL_made_122 (by decide) ?_
            refine x_aload_n dL_made_124 1 rfl rfl ?_
            refine x_bipush 14 dL_made_125 (by decide) ?_
            refine x_iload dL_made_127 3 rfl ?_
            refine x_iadd dL_made_129 ?_
            obtain ⟨b11, h⟩ := x_guard h
            refine x_iald ((14 : Int32) + x4).toNatClampNeg (q0 := 0) dL_made_130 rfl rfl b11 ?_
            refine x_iadd dL_made_131 ?_
            obtain ⟨r12, e13, h⟩ := x_bind h
            refine x_cS (As := [.ref (a 0), .int ((4 : Int32) + ((4 : Int32) * x4)), .int ((48 : Int32) + (row_c ((14 : Int32) + x4).toNatClampNeg))]) (wc := (WLR G a ar al af ax ad aq r8.2)) (w1 := (WLR G a ar al af ax ad aq r12.2)) (pre := (WArr G a_row 38 row_c)) (post := ([] : va_W)) (rest := []) (st1 := [.int r12.1]) (ws1 := ((WArr G a_row 38 row_c) ++ (WLR G a ar al af ax ad aq r12.2))) dL_made_132 (c_L_sign (a := a) e13) pk_L_sign ml_L_28 (by simp only [List.append_assoc, List.append_nil, List.nil_append]) rfl rfl rfl rfl rfl (by simp only [List.append_assoc, List.append_nil, List.nil_append]) ?_
            refine x_if_eq 165 dL_made_135 (by decide) (fun c14 => ?_) (fun c14 => ?_)
            · have h := x_pos c14 h
              refine x_lv [0, 1, 3] rfl ?_
              exact w_L_made_b165 (fun row_c' S' x3' x4' h => ih row_c' S' x3' x4' h) _ _ _ h
            · have h := x_neg c14 h
              refine x_aload_n dL_made_138 0 rfl rfl ?_
              refine x_iconst 5 dL_made_139 (by decide) ?_
              refine x_iconst 4 dL_made_140 (by decide) ?_
              refine x_iload dL_made_141 3 rfl ?_
              refine x_imul dL_made_143 ?_
              refine x_iadd dL_made_144 ?_
              refine x_bipush 48 dL_made_145 (by decide) ?_
              refine x_aload_n dL_made_147 1 rfl rfl ?_
              refine x_bipush 20 dL_made_148 (by decide) ?_
              refine x_iload dL_made_150 3 rfl ?_
              refine x_iadd dL_made_152 ?_
              obtain ⟨b15, h⟩ := x_guard h
              refine x_iald ((20 : Int32) + x4).toNatClampNeg (q0 := 0) dL_made_153 rfl rfl b15 ?_
              refine x_iadd dL_made_154 ?_
              obtain ⟨r16, e17, h⟩ := x_bind h
              refine x_cS (As := [.ref (a 0), .int ((5 : Int32) + ((4 : Int32) * x4)), .int ((48 : Int32) + (row_c ((20 : Int32) + x4).toNatClampNeg))]) (wc := (WLR G a ar al af ax ad aq r12.2)) (w1 := (WLR G a ar al af ax ad aq r16.2)) (pre := (WArr G a_row 38 row_c)) (post := ([] : va_W)) (rest := []) (st1 := [.int r16.1]) (ws1 := ((WArr G a_row 38 row_c) ++ (WLR G a ar al af ax ad aq r16.2))) dL_made_155 (c_L_sign (a := a) e17) pk_L_sign ml_L_28 (by simp only [List.append_assoc, List.append_nil, List.nil_append]) rfl rfl rfl rfl rfl (by simp only [List.append_assoc, List.append_nil, List.nil_append]) ?_
              refine x_if_eq 165 dL_made_158 (by decide) (fun c18 => ?_) (fun c18 => ?_)
              · have h := x_pos c18 h
                refine x_lv [0, 1, 3] rfl ?_
                exact w_L_made_b165 (fun row_c' S' x3' x4' h => ih row_c' S' x3' x4' h) _ _ _ h
              · have h := x_neg c18 h
                refine x_iconst 1 dL_made_161 (by decide) ?_
                refine x_goto 166 dL_made_162 (by decide) ?_
                refine x_lv [0, 1, 3] rfl ?_
                exact w_L_made_b166 (fun row_c' S' x3' x4' h => ih row_c' S' x3' x4' h) _ _ _ _ h
def M_L_made_b54 (row_c : (Nat → Int32)) (S : x_S) (s0 : Int32) : Option (Int32 × (Nat → Int32) × x_S) :=
  M_L_made_b58 x_fuel row_c S s0 (0 : Int32)
set_option maxHeartbeats 4000000 in
set_option maxRecDepth 100000 in
theorem w_L_made_b54 {G : x_G} {l : Launch} {a : Nat → Nat} {ar : Nat → Nat} {al : Nat → Nat} {af : Nat → Nat} {ax : Nat → Nat} {ad : Nat → Nat} {aq : Nat → Nat} {a_row : Nat → Nat} {res : Int32 × (Nat → Int32) × x_S} (row_c : (Nat → Int32)) (S : x_S) (s0 : Int32) (h : M_L_made_b54 row_c S s0 = some res) : X G l RL cL_made 6 (x_R 7 0 0) (x_Cm G (some .boolean) false (x_is (some (.int res.1)) ((WArr G a_row 38 res.2.1) ++ (WLR G a ar al af ax ad aq res.2.2))) 0 0) 0 0 54 [(0, .ref (a 0)), (1, .ref (a_row 0))] [.int s0] ((WArr G a_row 38 row_c) ++ (WLR G a ar al af ax ad aq S)) := by
  unfold M_L_made_b54 at h
  refine x_istore_n [(3, .int s0), (0, .ref (a 0)), (1, .ref (a_row 0))] dL_made_54 rfl (by decide) rfl ?_
  refine x_iconst 0 dL_made_55 (by decide) ?_
  refine x_istore [(4, .int (0 : Int32)), (3, .int s0), (0, .ref (a 0)), (1, .ref (a_row 0))] dL_made_56 (by decide) rfl ?_
  refine x_lv [2, 3, 1, 0] rfl ?_
  exact w_L_made_b58  _ _ _ _ _ h
def M_L_made_b53 (row_c : (Nat → Int32)) (S : x_S) : Option (Int32 × (Nat → Int32) × x_S) :=
  M_L_made_b54 row_c S (0 : Int32)
set_option maxHeartbeats 4000000 in
set_option maxRecDepth 100000 in
theorem w_L_made_b53 {G : x_G} {l : Launch} {a : Nat → Nat} {ar : Nat → Nat} {al : Nat → Nat} {af : Nat → Nat} {ax : Nat → Nat} {ad : Nat → Nat} {aq : Nat → Nat} {a_row : Nat → Nat} {res : Int32 × (Nat → Int32) × x_S} (row_c : (Nat → Int32)) (S : x_S) (h : M_L_made_b53 row_c S = some res) : X G l RL cL_made 6 (x_R 7 0 0) (x_Cm G (some .boolean) false (x_is (some (.int res.1)) ((WArr G a_row 38 res.2.1) ++ (WLR G a ar al af ax ad aq res.2.2))) 0 0) 0 0 53 [(0, .ref (a 0)), (1, .ref (a_row 0))] [] ((WArr G a_row 38 row_c) ++ (WLR G a ar al af ax ad aq S)) := by
  unfold M_L_made_b53 at h
  refine x_iconst 0 dL_made_53 (by decide) ?_
  exact w_L_made_b54  _ _ _ h
def M_L_made (row_c : (Nat → Int32)) (S : x_S) : Option (Int32 × (Nat → Int32) × x_S) :=
  (M_LR_text S (0 : Int32) (((2 : Int32) + ((4 : Int32) * (row_c 0))) + ((5 : Int32) * (row_c 1)))).bind fun r47 =>
  if r47.1 = (((2 : Int32) + ((4 : Int32) * (row_c 0))) + ((5 : Int32) * (row_c 1))) then
  ((M_L_sign r47.2 (0 : Int32) (104 : Int32)).bind fun r50 =>
  if r50.1 = 0 then
  (M_L_made_b53 row_c r50.2)
  else
  ((M_L_sign r50.2 (1 : Int32) ((48 : Int32) + (row_c 26))).bind fun r53 =>
  if r53.1 = 0 then
  (M_L_made_b53 row_c r53.2)
  else
  (M_L_made_b54 row_c r53.2 (1 : Int32))))
  else
  (M_L_made_b53 row_c r47.2)
set_option maxHeartbeats 4000000 in
set_option maxRecDepth 100000 in
theorem c_L_made {G : x_G} {l : Launch} {a : Nat → Nat} {ar : Nat → Nat} {al : Nat → Nat} {af : Nat → Nat} {ax : Nat → Nat} {ad : Nat → Nat} {aq : Nat → Nat} {a_row : Nat → Nat} {row_c : (Nat → Int32)} {S : x_S} {res : Int32 × (Nat → Int32) × x_S} (h : M_L_made row_c S = some res) : x_M G l yL_made cL_made 6 (some .boolean) (7) 0 0 [.ref (a 0), .ref (a_row 0)] ((WArr G a_row 38 row_c) ++ (WLR G a ar al af ax ad aq S)) (x_is (some (.int res.1)) ((WArr G a_row 38 res.2.1) ++ (WLR G a ar al af ax ad aq res.2.2))) := by
  unfold M_L_made at h
  refine x_enter (ini := false) (by decide) rfl (by decide) rfl (Nat.le_of_ble_eq_true rfl) ?_
  refine x_iconst 2 dL_made_0 (by decide) ?_
  refine x_iconst 4 dL_made_1 (by decide) ?_
  refine x_aload_n dL_made_2 1 rfl rfl ?_
  refine x_iconst 0 dL_made_3 (by decide) ?_
  refine x_iald 0 (q0 := 0) dL_made_4 (by decide) rfl (by decide) ?_
  refine x_imul dL_made_5 ?_
  refine x_iadd dL_made_6 ?_
  refine x_iconst 5 dL_made_7 (by decide) ?_
  refine x_aload_n dL_made_8 1 rfl rfl ?_
  refine x_iconst 1 dL_made_9 (by decide) ?_
  refine x_iald 1 (q0 := 0) dL_made_10 (by decide) rfl (by decide) ?_
  refine x_imul dL_made_11 ?_
  refine x_iadd dL_made_12 ?_
  refine x_istore_n [(2, .int (((2 : Int32) + ((4 : Int32) * (row_c 0))) + ((5 : Int32) * (row_c 1)))), (0, .ref (a 0)), (1, .ref (a_row 0))] dL_made_13 rfl (by decide) rfl ?_
  refine x_aload_n dL_made_14 1 rfl rfl ?_
  refine x_iconst 0 dL_made_15 (by decide) ?_
  refine x_iload_n dL_made_16 0 rfl rfl ?_
  obtain ⟨r47, e48, h⟩ := x_bind h
  refine x_cV (As := [.int (0 : Int32), .int (((2 : Int32) + ((4 : Int32) * (row_c 0))) + ((5 : Int32) * (row_c 1)))]) (wc := (WLR G a ar al af ax ad aq S)) (w1 := (WLR G a ar al af ax ad aq r47.2)) (pre := (WArr G a_row 38 row_c)) (post := ([] : va_W)) (rest := []) (st1 := [.int r47.1]) (ws1 := ((WArr G a_row 38 row_c) ++ (WLR G a ar al af ax ad aq r47.2))) (ci := 4) 0 dL_made_17 (c_LR_text (a := a) e48) pk_X6_text ml_L_25 (by simp only [List.append_assoc, List.append_nil, List.nil_append]) rfl rfl rfl rfl rfl rfl rfl rfl (by simp only [List.append_assoc, List.append_nil, List.nil_append]) ?_
  refine x_iload_n dL_made_20 0 rfl rfl ?_
  refine x_icmp_ne 53 dL_made_21 (by decide) (fun c49 => ?_) (fun c49 => ?_)
  · have h := x_neg c49 h
    refine x_lv [1, 2] rfl ?_
    exact w_L_made_b53  _ _ h
  · have h := x_pos c49 h
    refine x_aload_n dL_made_24 1 rfl rfl ?_
    refine x_iconst 0 dL_made_25 (by decide) ?_
    refine x_bipush 104 dL_made_26 (by decide) ?_
    obtain ⟨r50, e51, h⟩ := x_bind h
    refine x_cS (As := [.ref (a 0), .int (0 : Int32), .int (104 : Int32)]) (wc := (WLR G a ar al af ax ad aq r47.2)) (w1 := (WLR G a ar al af ax ad aq r50.2)) (pre := (WArr G a_row 38 row_c)) (post := ([] : va_W)) (rest := []) (st1 := [.int r50.1]) (ws1 := ((WArr G a_row 38 row_c) ++ (WLR G a ar al af ax ad aq r50.2))) dL_made_28 (c_L_sign (a := a) e51) pk_L_sign ml_L_28 (by simp only [List.append_assoc, List.append_nil, List.nil_append]) rfl rfl rfl rfl rfl (by simp only [List.append_assoc, List.append_nil, List.nil_append]) ?_
    refine x_if_eq 53 dL_made_31 (by decide) (fun c52 => ?_) (fun c52 => ?_)
    · have h := x_pos c52 h
      refine x_lv [1, 2] rfl ?_
      exact w_L_made_b53  _ _ h
    · have h := x_neg c52 h
      refine x_aload_n dL_made_34 1 rfl rfl ?_
      refine x_iconst 1 dL_made_35 (by decide) ?_
      refine x_bipush 48 dL_made_36 (by decide) ?_
      refine x_aload_n dL_made_38 2 rfl rfl ?_
      refine x_bipush 26 dL_made_39 (by decide) ?_
      refine x_iald 26 (q0 := 0) dL_made_41 (by decide) rfl (by decide) ?_
      refine x_iadd dL_made_42 ?_
      obtain ⟨r53, e54, h⟩ := x_bind h
      refine x_cS (As := [.ref (a 0), .int (1 : Int32), .int ((48 : Int32) + (row_c 26))]) (wc := (WLR G a ar al af ax ad aq r50.2)) (w1 := (WLR G a ar al af ax ad aq r53.2)) (pre := (WArr G a_row 38 row_c)) (post := ([] : va_W)) (rest := []) (st1 := [.int r53.1]) (ws1 := ((WArr G a_row 38 row_c) ++ (WLR G a ar al af ax ad aq r53.2))) dL_made_43 (c_L_sign (a := a) e54) pk_L_sign ml_L_28 (by simp only [List.append_assoc, List.append_nil, List.nil_append]) rfl rfl rfl rfl rfl (by simp only [List.append_assoc, List.append_nil, List.nil_append]) ?_
      refine x_if_eq 53 dL_made_46 (by decide) (fun c55 => ?_) (fun c55 => ?_)
      · have h := x_pos c55 h
        refine x_lv [1, 2] rfl ?_
        exact w_L_made_b53  _ _ h
      · have h := x_neg c55 h
        refine x_iconst 1 dL_made_49 (by decide) ?_
        refine x_goto 54 dL_made_50 (by decide) ?_
        refine x_lv [1, 2] rfl ?_
        exact w_L_made_b54  _ _ _ h
theorem pk_L_bits : x_ps yL_bits cL_bits 3 (some .int) 1 := ⟨⟨co_L_bits, ni_L, by decide, by decide +kernel⟩, sm_L_bits⟩
def M_L_bits_b4 : Nat → Int32 → Int32 → Option (Int32)
  | 0, _, _ => none
  | n + 1, x1, x2 =>
    if x2 ≤ 0 then
    (some (x1))
    else
    (M_L_bits_b4 n (x1 + (x2 &&& (1 : Int32))) (x2 >>> ((1 : Int32) &&& (31 : Int32))))
set_option maxHeartbeats 4000000 in
set_option maxRecDepth 100000 in
theorem w_L_bits_b4 {G : x_G} {l : Launch} {res : Int32} : ∀ (n : Nat) (x1 : Int32) (x2 : Int32), M_L_bits_b4 n x1 x2 = some res → X G l RL cL_bits 3 (x_R 0 0 0) (x_Cm G (some .int) false (x_is (some (.int res)) ([] : va_W)) 0 0) 0 0 4 [(1, .int x1), (2, .int x2)] [] ([] : va_W) := by
  intro n
  induction n with
  | zero =>
    intro _ _ h
    cases h
  | succ n ih =>
    intro x1 x2 h
    rw [M_L_bits_b4] at h
    refine x_iload_n dL_bits_4 1 rfl rfl ?_
    refine x_if_le 21 dL_bits_5 (by decide) (fun c1 => ?_) (fun c1 => ?_)
    · have h := x_pos c1 h
      refine x_iload_n dL_bits_21 0 rfl rfl ?_
      cases h
      exact x_ireturn dL_bits_22 rfl (x_is.rf _ _)
    · have h := x_neg c1 h
      refine x_iload_n dL_bits_8 0 rfl rfl ?_
      refine x_iload_n dL_bits_9 1 rfl rfl ?_
      refine x_iconst 1 dL_bits_10 (by decide) ?_
      refine x_iand dL_bits_11 ?_
      refine x_iadd dL_bits_12 ?_
      refine x_istore_n [(1, .int (x1 + (x2 &&& (1 : Int32)))), (2, .int x2)] dL_bits_13 rfl (by decide) rfl ?_
      refine x_iload_n dL_bits_14 1 rfl rfl ?_
      refine x_iconst 1 dL_bits_15 (by decide) ?_
      refine x_ishr dL_bits_16 ?_
      refine x_istore_n [(2, .int (x2 >>> ((1 : Int32) &&& (31 : Int32)))), (1, .int (x1 + (x2 &&& (1 : Int32))))] dL_bits_17 rfl (by decide) rfl ?_
      refine x_goto 4 dL_bits_18 (by decide) ?_
      refine x_lv [1, 0] rfl ?_
      exact ih _ _ h
def M_L_bits (x0 : Int32) : Option (Int32) :=
  M_L_bits_b4 x_fuel (0 : Int32) x0
set_option maxHeartbeats 4000000 in
set_option maxRecDepth 100000 in
theorem c_L_bits {G : x_G} {l : Launch} {x0 : Int32} {res : Int32} (h : M_L_bits x0 = some res) : x_M G l yL_bits cL_bits 3 (some .int) (0) 0 0 [.int x0] ([] : va_W) (x_is (some (.int res)) ([] : va_W)) := by
  unfold M_L_bits at h
  refine x_enter (ini := false) (by decide) rfl (by decide) rfl (Nat.le_of_ble_eq_true rfl) ?_
  refine x_iconst 0 dL_bits_0 (by decide) ?_
  refine x_istore_n [(1, .int (0 : Int32)), (0, .int x0)] dL_bits_1 rfl (by decide) rfl ?_
  refine x_iload_n dL_bits_2 1 rfl rfl ?_
  refine x_istore_n [(2, .int x0), (1, .int (0 : Int32)), (0, .int x0)] dL_bits_3 rfl (by decide) rfl ?_
  refine x_lv [1, 0] rfl ?_
  exact w_L_bits_b4  _ _ _ h
theorem pk_L_told : x_ps yL_told cL_told 3 (some .int) 3 := ⟨⟨co_L_told, ni_L, by decide, by decide +kernel⟩, sm_L_told⟩
def M_L_told (S : x_S) (x1 : Int32) (x2 : Int32) : Option (Int32 × x_S) :=
  (M_LR_rope S x1 x2).bind fun r1 =>
  if r1.1 = (1 : Int32) then
  ((M_LR_asked r1.2).bind fun r4 =>
  some (r4, r1.2))
  else
  (some ((-100 : Int32), r1.2))
set_option maxHeartbeats 4000000 in
set_option maxRecDepth 100000 in
theorem c_L_told {G : x_G} {l : Launch} {a : Nat → Nat} {ar : Nat → Nat} {al : Nat → Nat} {af : Nat → Nat} {ax : Nat → Nat} {ad : Nat → Nat} {aq : Nat → Nat} {S : x_S} {x1 : Int32} {x2 : Int32} {res : Int32 × x_S} (h : M_L_told S x1 x2 = some res) : x_M G l yL_told cL_told 3 (some .int) (5) 0 0 [.ref (a 0), .int x1, .int x2] (WLR G a ar al af ax ad aq S) (x_is (some (.int res.1)) (WLR G a ar al af ax ad aq res.2)) := by
  unfold M_L_told at h
  refine x_enter (ini := false) (by decide) rfl (by decide) rfl (Nat.le_of_ble_eq_true rfl) ?_
  refine x_aload_n dL_told_0 0 rfl rfl ?_
  refine x_iload_n dL_told_1 1 rfl rfl ?_
  refine x_iload_n dL_told_2 2 rfl rfl ?_
  obtain ⟨r1, e2, h⟩ := x_bind h
  refine x_cV (As := [.int x1, .int x2]) (wc := (WLR G a ar al af ax ad aq S)) (w1 := (WLR G a ar al af ax ad aq r1.2)) (pre := []) (post := []) (rest := []) (st1 := [.int r1.1]) (ws1 := (WLR G a ar al af ax ad aq r1.2)) (ci := 4) 0 dL_told_3 (c_LR_rope (a := a) e2) pk_X6_rope ml_L_39 (x_full _) rfl rfl rfl rfl rfl rfl rfl rfl (x_full _).symm ?_
  refine x_iconst 1 dL_told_6 (by decide) ?_
  refine x_icmp_ne 17 dL_told_7 (by decide) (fun c3 => ?_) (fun c3 => ?_)
  · have h := x_neg c3 h
    refine x_bipush (-100 : Int32) dL_told_17 (by decide) ?_
    cases h
    exact x_ireturn dL_told_19 rfl (x_is.rf _ _)
  · have h := x_pos c3 h
    refine x_aload_n dL_told_10 0 rfl rfl ?_
    obtain ⟨r4, e5, h⟩ := x_bind h
    refine x_cV (As := []) (wc := (WLR G a ar al af ax ad aq r1.2)) (w1 := (WLR G a ar al af ax ad aq r1.2)) (pre := []) (post := []) (rest := []) (st1 := [.int r4]) (ws1 := (WLR G a ar al af ax ad aq r1.2)) (ci := 4) 0 dL_told_11 (c_LR_asked (a := a) e5) pk_X6_asked ml_L_42 (x_full _) rfl rfl rfl rfl rfl rfl rfl rfl (x_full _).symm ?_
    refine x_goto 19 dL_told_14 (by decide) ?_
    cases h
    exact x_ireturn dL_told_19 rfl (x_is.rf _ _)
