def M_L_law_b269 (xs : Nat → Int32) (L : Nat) (k139 : (Nat → Int32) → x_S → (Nat → Int32) → Int32 → Int32 → Int32 → Int32 → Int32 → Int32 → Int32 → Int32 → Int32 → Int32 → Option (Unit)) (row_c : (Nat → Int32)) (S : x_S) (strains_c : (Nat → Int32)) (x3 : Int32) (x4 : Int32) (x5 : Int32) (x6 : Int32) (x7 : Int32) (x8 : Int32) (x9 : Int32) (x10 : Int32) (x12 : Int32) (x13 : Int32) (s0 : Int32) (s1 : Int32) : Option (Unit) :=
  if s0 = s1 then
  ((M_L_told S x13 (4 : Int32)).bind fun r59 =>
  if r59.1 = ((1 : Int32) - ((x8 >>> (x13 &&& (31 : Int32))) &&& (1 : Int32))) then
  ((M_L_told r59.2 x13 (5 : Int32)).bind fun r62 =>
  if r62.1 = ((x9 >>> (x13 &&& (31 : Int32))) &&& (1 : Int32)) then
  (k139 row_c r62.2 strains_c x3 x4 x5 x6 x7 x8 x9 x10 x12 (x13 + (1 : Int32)))
  else
  (none))
  else
  (none))
  else
  (none)
set_option maxHeartbeats 4000000 in
set_option maxRecDepth 100000 in
theorem w_L_law_b269 {sb : Nat} {xs : Nat → Int32} {G : x_G} {l : Launch} {a : Nat → Nat} {ar : Nat → Nat} {al : Nat → Nat} {af : Nat → Nat} {ax : Nat → Nat} {ad : Nat → Nat} {aq : Nat → Nat} {a_row : Nat → Nat} {a_strains : Nat → Nat} {L : Nat} {k139 : (Nat → Int32) → x_S → (Nat → Int32) → Int32 → Int32 → Int32 → Int32 → Int32 → Int32 → Int32 → Int32 → Int32 → Int32 → Option (Unit)} {res : Unit} (hk139 : ∀ (row_c : (Nat → Int32)) (S : x_S) (strains_c : (Nat → Int32)) (x3 : Int32) (x4 : Int32) (x5 : Int32) (x6 : Int32) (x7 : Int32) (x8 : Int32) (x9 : Int32) (x10 : Int32) (x12 : Int32) (x13 : Int32), k139 row_c S strains_c x3 x4 x5 x6 x7 x8 x9 x10 x12 x13 = some res → X G l RL cL_law 38 room_1 (x_CL sb L xs) 42 883 139 [(0, .ref sb), (1, .ref (a 0)), (2, .ref (a_row 0)), (3, .int x3), (4, .int x4), (5, .int x5), (6, .int x6), (7, .int x7), (8, .int x8), (9, .int x9), (10, .int x10), (11, .ref (a_strains 0)), (12, .int x12), (13, .int x13)] [] ((WArr G a_row 38 row_c) ++ ((WLR G a ar al af ax ad aq S) ++ (WArr G a_strains 6 strains_c)))) (row_c : (Nat → Int32)) (S : x_S) (strains_c : (Nat → Int32)) (x3 : Int32) (x4 : Int32) (x5 : Int32) (x6 : Int32) (x7 : Int32) (x8 : Int32) (x9 : Int32) (x10 : Int32) (x12 : Int32) (x13 : Int32) (s0 : Int32) (s1 : Int32) (h : M_L_law_b269 xs L k139 row_c S strains_c x3 x4 x5 x6 x7 x8 x9 x10 x12 x13 s0 s1 = some res) : X G l RL cL_law 38 room_1 (x_CL sb L xs) 42 883 269 [(0, .ref sb), (1, .ref (a 0)), (2, .ref (a_row 0)), (3, .int x3), (4, .int x4), (5, .int x5), (6, .int x6), (7, .int x7), (8, .int x8), (9, .int x9), (10, .int x10), (11, .ref (a_strains 0)), (12, .int x12), (13, .int x13)] [.int s1, .int s0] ((WArr G a_row 38 row_c) ++ ((WLR G a ar al af ax ad aq S) ++ (WArr G a_strains 6 strains_c))) := by
  unfold M_L_law_b269 at h
  refine x_icmp_ne 308 dL_law_269 (by decide) (fun c58 => ?_) (fun c58 => ?_)
  · have h := x_neg c58 h
    refine x_iconst 0 dL_law_308 (by decide) ?_
    cases h
  · have h := x_pos c58 h
    refine x_aload_n dL_law_272 1 rfl rfl ?_
    refine x_iload dL_law_273 13 rfl ?_
    refine x_iconst 4 dL_law_275 (by decide) ?_
    obtain ⟨r59, e60, h⟩ := x_bind h
    refine x_cS (As := [.ref (a 0), .int x13, .int (4 : Int32)]) (wc := (WLR G a ar al af ax ad aq S)) (w1 := (WLR G a ar al af ax ad aq r59.2)) (pre := (WArr G a_row 38 row_c)) (post := (WArr G a_strains 6 strains_c)) (rest := []) (st1 := [.int r59.1]) (ws1 := ((WArr G a_row 38 row_c) ++ ((WLR G a ar al af ax ad aq r59.2) ++ (WArr G a_strains 6 strains_c)))) dL_law_276 (c_L_told (a := a) e60) pk_L_told ml_L_68 (by simp only [List.append_assoc, List.append_nil, List.nil_append]) rfl rfl rfl rfl rfl (by simp only [List.append_assoc, List.append_nil, List.nil_append]) ?_
    refine x_iconst 1 dL_law_279 (by decide) ?_
    refine x_iload dL_law_280 8 rfl ?_
    refine x_iload dL_law_282 13 rfl ?_
    refine x_ishr dL_law_284 ?_
    refine x_iconst 1 dL_law_285 (by decide) ?_
    refine x_iand dL_law_286 ?_
    refine x_isub dL_law_287 ?_
    refine x_icmp_ne 308 dL_law_288 (by decide) (fun c61 => ?_) (fun c61 => ?_)
    · have h := x_neg c61 h
      refine x_iconst 0 dL_law_308 (by decide) ?_
      cases h
    · have h := x_pos c61 h
      refine x_aload_n dL_law_291 1 rfl rfl ?_
      refine x_iload dL_law_292 13 rfl ?_
      refine x_iconst 5 dL_law_294 (by decide) ?_
      obtain ⟨r62, e63, h⟩ := x_bind h
      refine x_cS (As := [.ref (a 0), .int x13, .int (5 : Int32)]) (wc := (WLR G a ar al af ax ad aq r59.2)) (w1 := (WLR G a ar al af ax ad aq r62.2)) (pre := (WArr G a_row 38 row_c)) (post := (WArr G a_strains 6 strains_c)) (rest := []) (st1 := [.int r62.1]) (ws1 := ((WArr G a_row 38 row_c) ++ ((WLR G a ar al af ax ad aq r62.2) ++ (WArr G a_strains 6 strains_c)))) dL_law_295 (c_L_told (a := a) e63) pk_L_told ml_L_68 (by simp only [List.append_assoc, List.append_nil, List.nil_append]) rfl rfl rfl rfl rfl (by simp only [List.append_assoc, List.append_nil, List.nil_append]) ?_
      refine x_iload dL_law_298 9 rfl ?_
      refine x_iload dL_law_300 13 rfl ?_
      refine x_ishr dL_law_302 ?_
      refine x_iconst 1 dL_law_303 (by decide) ?_
      refine x_iand dL_law_304 ?_
      refine x_icmp_eq 310 dL_law_305 (by decide) (fun c64 => ?_) (fun c64 => ?_)
      · have h := x_pos c64 h
        refine x_iinc (j := 13) (1 : Int32) [(13, .int (x13 + (1 : Int32))), (0, .ref sb), (1, .ref (a 0)), (2, .ref (a_row 0)), (3, .int x3), (4, .int x4), (5, .int x5), (6, .int x6), (7, .int x7), (8, .int x8), (9, .int x9), (10, .int x10), (11, .ref (a_strains 0)), (12, .int x12)] dL_law_310 (by decide) rfl (by decide) rfl ?_
        refine x_goto 139 dL_law_313 (by decide) ?_
        refine x_lv [1, 2, 3, 4, 5, 6, 7, 8, 9, 10, 11, 12, 13, 0] rfl ?_
        exact hk139 _ _ _ _ _ _ _ _ _ _ _ _ _ h
      · have h := x_neg c64 h
        refine x_iconst 0 dL_law_308 (by decide) ?_
        cases h
def M_L_law_b253 (xs : Nat → Int32) (L : Nat) (k139 : (Nat → Int32) → x_S → (Nat → Int32) → Int32 → Int32 → Int32 → Int32 → Int32 → Int32 → Int32 → Int32 → Int32 → Int32 → Option (Unit)) (row_c : (Nat → Int32)) (S : x_S) (strains_c : (Nat → Int32)) (x3 : Int32) (x4 : Int32) (x5 : Int32) (x6 : Int32) (x7 : Int32) (x8 : Int32) (x9 : Int32) (x10 : Int32) (x12 : Int32) (x13 : Int32) (s0 : Int32) : Option (Unit) :=
  if ((x7 >>> (x13 &&& (31 : Int32))) &&& (1 : Int32)) = (1 : Int32) then
  (M_L_law_b269 xs L k139 row_c S strains_c x3 x4 x5 x6 x7 x8 x9 x10 x12 x13 s0 (1 : Int32))
  else
  (M_L_law_b269 xs L k139 row_c S strains_c x3 x4 x5 x6 x7 x8 x9 x10 x12 x13 s0 (0 : Int32))
set_option maxHeartbeats 4000000 in
set_option maxRecDepth 100000 in
theorem w_L_law_b253 {sb : Nat} {xs : Nat → Int32} {G : x_G} {l : Launch} {a : Nat → Nat} {ar : Nat → Nat} {al : Nat → Nat} {af : Nat → Nat} {ax : Nat → Nat} {ad : Nat → Nat} {aq : Nat → Nat} {a_row : Nat → Nat} {a_strains : Nat → Nat} {L : Nat} {k139 : (Nat → Int32) → x_S → (Nat → Int32) → Int32 → Int32 → Int32 → Int32 → Int32 → Int32 → Int32 → Int32 → Int32 → Int32 → Option (Unit)} {res : Unit} (hk139 : ∀ (row_c : (Nat → Int32)) (S : x_S) (strains_c : (Nat → Int32)) (x3 : Int32) (x4 : Int32) (x5 : Int32) (x6 : Int32) (x7 : Int32) (x8 : Int32) (x9 : Int32) (x10 : Int32) (x12 : Int32) (x13 : Int32), k139 row_c S strains_c x3 x4 x5 x6 x7 x8 x9 x10 x12 x13 = some res → X G l RL cL_law 38 room_1 (x_CL sb L xs) 42 883 139 [(0, .ref sb), (1, .ref (a 0)), (2, .ref (a_row 0)), (3, .int x3), (4, .int x4), (5, .int x5), (6, .int x6), (7, .int x7), (8, .int x8), (9, .int x9), (10, .int x10), (11, .ref (a_strains 0)), (12, .int x12), (13, .int x13)] [] ((WArr G a_row 38 row_c) ++ ((WLR G a ar al af ax ad aq S) ++ (WArr G a_strains 6 strains_c)))) (row_c : (Nat → Int32)) (S : x_S) (strains_c : (Nat → Int32)) (x3 : Int32) (x4 : Int32) (x5 : Int32) (x6 : Int32) (x7 : Int32) (x8 : Int32) (x9 : Int32) (x10 : Int32) (x12 : Int32) (x13 : Int32) (s0 : Int32) (h : M_L_law_b253 xs L k139 row_c S strains_c x3 x4 x5 x6 x7 x8 x9 x10 x12 x13 s0 = some res) : X G l RL cL_law 38 room_1 (x_CL sb L xs) 42 883 253 [(0, .ref sb), (1, .ref (a 0)), (2, .ref (a_row 0)), (3, .int x3), (4, .int x4), (5, .int x5), (6, .int x6), (7, .int x7), (8, .int x8), (9, .int x9), (10, .int x10), (11, .ref (a_strains 0)), (12, .int x12), (13, .int x13)] [.int s0] ((WArr G a_row 38 row_c) ++ ((WLR G a ar al af ax ad aq S) ++ (WArr G a_strains 6 strains_c))) := by
  unfold M_L_law_b253 at h
  refine x_iload dL_law_253 7 rfl ?_
  refine x_iload dL_law_255 13 rfl ?_
  refine x_ishr dL_law_257 ?_
  refine x_iconst 1 dL_law_258 (by decide) ?_
  refine x_iand dL_law_259 ?_
  refine x_iconst 1 dL_law_260 (by decide) ?_
  refine x_icmp_ne 268 dL_law_261 (by decide) (fun c57 => ?_) (fun c57 => ?_)
  · have h := x_neg c57 h
    refine x_iconst 0 dL_law_268 (by decide) ?_
    exact w_L_law_b269 hk139 _ _ _ _ _ _ _ _ _ _ _ _ _ _ _ h
  · have h := x_pos c57 h
    refine x_iconst 1 dL_law_264 (by decide) ?_
    refine x_goto 269 dL_law_265 (by decide) ?_
    exact w_L_law_b269 hk139 _ _ _ _ _ _ _ _ _ _ _ _ _ _ _ h
def M_L_law_b240 (xs : Nat → Int32) (L : Nat) (k139 : (Nat → Int32) → x_S → (Nat → Int32) → Int32 → Int32 → Int32 → Int32 → Int32 → Int32 → Int32 → Int32 → Int32 → Int32 → Option (Unit)) (row_c : (Nat → Int32)) (S : x_S) (strains_c : (Nat → Int32)) (x3 : Int32) (x4 : Int32) (x5 : Int32) (x6 : Int32) (x7 : Int32) (x8 : Int32) (x9 : Int32) (x10 : Int32) (x12 : Int32) (x13 : Int32) : Option (Unit) :=
  if inb x13 6 then
  if (strains_c x13.toNatClampNeg) ≤ 0 then
  (M_L_law_b253 xs L k139 row_c S strains_c x3 x4 x5 x6 x7 x8 x9 x10 x12 x13 (0 : Int32))
  else
  (M_L_law_b253 xs L k139 row_c S strains_c x3 x4 x5 x6 x7 x8 x9 x10 x12 x13 (1 : Int32))
  else none
set_option maxHeartbeats 4000000 in
set_option maxRecDepth 100000 in
theorem w_L_law_b240 {sb : Nat} {xs : Nat → Int32} {G : x_G} {l : Launch} {a : Nat → Nat} {ar : Nat → Nat} {al : Nat → Nat} {af : Nat → Nat} {ax : Nat → Nat} {ad : Nat → Nat} {aq : Nat → Nat} {a_row : Nat → Nat} {a_strains : Nat → Nat} {L : Nat} {k139 : (Nat → Int32) → x_S → (Nat → Int32) → Int32 → Int32 → Int32 → Int32 → Int32 → Int32 → Int32 → Int32 → Int32 → Int32 → Option (Unit)} {res : Unit} (hk139 : ∀ (row_c : (Nat → Int32)) (S : x_S) (strains_c : (Nat → Int32)) (x3 : Int32) (x4 : Int32) (x5 : Int32) (x6 : Int32) (x7 : Int32) (x8 : Int32) (x9 : Int32) (x10 : Int32) (x12 : Int32) (x13 : Int32), k139 row_c S strains_c x3 x4 x5 x6 x7 x8 x9 x10 x12 x13 = some res → X G l RL cL_law 38 room_1 (x_CL sb L xs) 42 883 139 [(0, .ref sb), (1, .ref (a 0)), (2, .ref (a_row 0)), (3, .int x3), (4, .int x4), (5, .int x5), (6, .int x6), (7, .int x7), (8, .int x8), (9, .int x9), (10, .int x10), (11, .ref (a_strains 0)), (12, .int x12), (13, .int x13)] [] ((WArr G a_row 38 row_c) ++ ((WLR G a ar al af ax ad aq S) ++ (WArr G a_strains 6 strains_c)))) (row_c : (Nat → Int32)) (S : x_S) (strains_c : (Nat → Int32)) (x3 : Int32) (x4 : Int32) (x5 : Int32) (x6 : Int32) (x7 : Int32) (x8 : Int32) (x9 : Int32) (x10 : Int32) (x12 : Int32) (x13 : Int32) (h : M_L_law_b240 xs L k139 row_c S strains_c x3 x4 x5 x6 x7 x8 x9 x10 x12 x13 = some res) : X G l RL cL_law 38 room_1 (x_CL sb L xs) 42 883 240 [(0, .ref sb), (1, .ref (a 0)), (2, .ref (a_row 0)), (3, .int x3), (4, .int x4), (5, .int x5), (6, .int x6), (7, .int x7), (8, .int x8), (9, .int x9), (10, .int x10), (11, .ref (a_strains 0)), (12, .int x12), (13, .int x13)] [] ((WArr G a_row 38 row_c) ++ ((WLR G a ar al af ax ad aq S) ++ (WArr G a_strains 6 strains_c))) := by
  unfold M_L_law_b240 at h
  refine x_aload dL_law_240 11 rfl ?_
  refine x_iload dL_law_242 13 rfl ?_
  obtain ⟨b55, h⟩ := x_guard h
  refine x_iald x13.toNatClampNeg (q0 := 41) dL_law_244 rfl rfl b55 ?_
  refine x_if_le 252 dL_law_245 (by decide) (fun c56 => ?_) (fun c56 => ?_)
  · have h := x_pos c56 h
    refine x_iconst 0 dL_law_252 (by decide) ?_
    exact w_L_law_b253 hk139 _ _ _ _ _ _ _ _ _ _ _ _ _ _ h
  · have h := x_neg c56 h
    refine x_iconst 1 dL_law_248 (by decide) ?_
    refine x_goto 253 dL_law_249 (by decide) ?_
    exact w_L_law_b253 hk139 _ _ _ _ _ _ _ _ _ _ _ _ _ _ h
def M_L_law_b223 (xs : Nat → Int32) (L : Nat) (k139 : (Nat → Int32) → x_S → (Nat → Int32) → Int32 → Int32 → Int32 → Int32 → Int32 → Int32 → Int32 → Int32 → Int32 → Int32 → Option (Unit)) (row_c : (Nat → Int32)) (S : x_S) (strains_c : (Nat → Int32)) (x3 : Int32) (x4 : Int32) (x5 : Int32) (x6 : Int32) (x7 : Int32) (x8 : Int32) (x9 : Int32) (x10 : Int32) (x12 : Int32) (x13 : Int32) (x14 : Int32) (s0 : Int32) (s1 : Int32) (s2 : Int32) : Option (Unit) :=
  if (s1 + s2) < s0 then
  (none)
  else
  (if x14 = 0 then
  (M_L_law_b240 xs L k139 row_c S strains_c x3 x4 x5 x6 x7 x8 x9 x10 x12 x13)
  else
  (if inb x13 6 then
  if (strains_c x13.toNatClampNeg) = 0 then
  (M_L_law_b240 xs L k139 row_c S strains_c x3 x4 x5 x6 x7 x8 x9 x10 x12 x13)
  else
  (none)
  else none))
set_option maxHeartbeats 4000000 in
set_option maxRecDepth 100000 in
theorem w_L_law_b223 {sb : Nat} {xs : Nat → Int32} {G : x_G} {l : Launch} {a : Nat → Nat} {ar : Nat → Nat} {al : Nat → Nat} {af : Nat → Nat} {ax : Nat → Nat} {ad : Nat → Nat} {aq : Nat → Nat} {a_row : Nat → Nat} {a_strains : Nat → Nat} {L : Nat} {k139 : (Nat → Int32) → x_S → (Nat → Int32) → Int32 → Int32 → Int32 → Int32 → Int32 → Int32 → Int32 → Int32 → Int32 → Int32 → Option (Unit)} {res : Unit} (hk139 : ∀ (row_c : (Nat → Int32)) (S : x_S) (strains_c : (Nat → Int32)) (x3 : Int32) (x4 : Int32) (x5 : Int32) (x6 : Int32) (x7 : Int32) (x8 : Int32) (x9 : Int32) (x10 : Int32) (x12 : Int32) (x13 : Int32), k139 row_c S strains_c x3 x4 x5 x6 x7 x8 x9 x10 x12 x13 = some res → X G l RL cL_law 38 room_1 (x_CL sb L xs) 42 883 139 [(0, .ref sb), (1, .ref (a 0)), (2, .ref (a_row 0)), (3, .int x3), (4, .int x4), (5, .int x5), (6, .int x6), (7, .int x7), (8, .int x8), (9, .int x9), (10, .int x10), (11, .ref (a_strains 0)), (12, .int x12), (13, .int x13)] [] ((WArr G a_row 38 row_c) ++ ((WLR G a ar al af ax ad aq S) ++ (WArr G a_strains 6 strains_c)))) (row_c : (Nat → Int32)) (S : x_S) (strains_c : (Nat → Int32)) (x3 : Int32) (x4 : Int32) (x5 : Int32) (x6 : Int32) (x7 : Int32) (x8 : Int32) (x9 : Int32) (x10 : Int32) (x12 : Int32) (x13 : Int32) (x14 : Int32) (s0 : Int32) (s1 : Int32) (s2 : Int32) (h : M_L_law_b223 xs L k139 row_c S strains_c x3 x4 x5 x6 x7 x8 x9 x10 x12 x13 x14 s0 s1 s2 = some res) : X G l RL cL_law 38 room_1 (x_CL sb L xs) 42 883 223 [(0, .ref sb), (1, .ref (a 0)), (2, .ref (a_row 0)), (3, .int x3), (4, .int x4), (5, .int x5), (6, .int x6), (7, .int x7), (8, .int x8), (9, .int x9), (10, .int x10), (11, .ref (a_strains 0)), (12, .int x12), (13, .int x13), (14, .int x14)] [.int s2, .int s1, .int s0] ((WArr G a_row 38 row_c) ++ ((WLR G a ar al af ax ad aq S) ++ (WArr G a_strains 6 strains_c))) := by
  unfold M_L_law_b223 at h
  refine x_iadd dL_law_223 ?_
  refine x_icmp_gt 308 dL_law_224 (by decide) (fun c51 => ?_) (fun c51 => ?_)
  · have h := x_pos c51 h
    refine x_iconst 0 dL_law_308 (by decide) ?_
    cases h
  · have h := x_neg c51 h
    refine x_iload dL_law_227 14 rfl ?_
    refine x_if_eq 240 dL_law_229 (by decide) (fun c52 => ?_) (fun c52 => ?_)
    · have h := x_pos c52 h
      refine x_lv [0, 1, 2, 3, 4, 5, 6, 7, 8, 9, 10, 11, 12, 13] rfl ?_
      exact w_L_law_b240 hk139 _ _ _ _ _ _ _ _ _ _ _ _ _ h
    · have h := x_neg c52 h
      refine x_aload dL_law_232 11 rfl ?_
      refine x_iload dL_law_234 13 rfl ?_
      obtain ⟨b53, h⟩ := x_guard h
      refine x_iald x13.toNatClampNeg (q0 := 41) dL_law_236 rfl rfl b53 ?_
      refine x_if_ne 308 dL_law_237 (by decide) (fun c54 => ?_) (fun c54 => ?_)
      · have h := x_neg c54 h
        refine x_iconst 0 dL_law_308 (by decide) ?_
        cases h
      · have h := x_pos c54 h
        refine x_lv [0, 1, 2, 3, 4, 5, 6, 7, 8, 9, 10, 11, 12, 13] rfl ?_
        exact w_L_law_b240 hk139 _ _ _ _ _ _ _ _ _ _ _ _ _ h
def M_L_law_b186 (xs : Nat → Int32) (L : Nat) (k139 : (Nat → Int32) → x_S → (Nat → Int32) → Int32 → Int32 → Int32 → Int32 → Int32 → Int32 → Int32 → Int32 → Int32 → Int32 → Option (Unit)) (row_c : (Nat → Int32)) (S : x_S) (strains_c : (Nat → Int32)) (x3 : Int32) (x4 : Int32) (x5 : Int32) (x6 : Int32) (x7 : Int32) (x8 : Int32) (x9 : Int32) (x10 : Int32) (x12 : Int32) (x13 : Int32) (s0 : Int32) : Option (Unit) :=
  if inb x13 6 then
  if (strains_c x13.toNatClampNeg) < 0 then
  (none)
  else
  ((M_L_told S x13 (1 : Int32)).bind fun r47 =>
  if inb ((2 : Int32) + x13) 38 then
  if (row_c ((2 : Int32) + x13).toNatClampNeg) = (2 : Int32) then
  (M_L_law_b223 xs L k139 row_c r47.2 strains_c x3 x4 x5 x6 x7 x8 x9 x10 x12 x13 s0 (strains_c x13.toNatClampNeg) r47.1 (1 : Int32))
  else
  (M_L_law_b223 xs L k139 row_c r47.2 strains_c x3 x4 x5 x6 x7 x8 x9 x10 x12 x13 s0 (strains_c x13.toNatClampNeg) r47.1 (0 : Int32))
  else none)
  else none
set_option maxHeartbeats 4000000 in
set_option maxRecDepth 100000 in
theorem w_L_law_b186 {sb : Nat} {xs : Nat → Int32} {G : x_G} {l : Launch} {a : Nat → Nat} {ar : Nat → Nat} {al : Nat → Nat} {af : Nat → Nat} {ax : Nat → Nat} {ad : Nat → Nat} {aq : Nat → Nat} {a_row : Nat → Nat} {a_strains : Nat → Nat} {L : Nat} {k139 : (Nat → Int32) → x_S → (Nat → Int32) → Int32 → Int32 → Int32 → Int32 → Int32 → Int32 → Int32 → Int32 → Int32 → Int32 → Option (Unit)} {res : Unit} (hk139 : ∀ (row_c : (Nat → Int32)) (S : x_S) (strains_c : (Nat → Int32)) (x3 : Int32) (x4 : Int32) (x5 : Int32) (x6 : Int32) (x7 : Int32) (x8 : Int32) (x9 : Int32) (x10 : Int32) (x12 : Int32) (x13 : Int32), k139 row_c S strains_c x3 x4 x5 x6 x7 x8 x9 x10 x12 x13 = some res → X G l RL cL_law 38 room_1 (x_CL sb L xs) 42 883 139 [(0, .ref sb), (1, .ref (a 0)), (2, .ref (a_row 0)), (3, .int x3), (4, .int x4), (5, .int x5), (6, .int x6), (7, .int x7), (8, .int x8), (9, .int x9), (10, .int x10), (11, .ref (a_strains 0)), (12, .int x12), (13, .int x13)] [] ((WArr G a_row 38 row_c) ++ ((WLR G a ar al af ax ad aq S) ++ (WArr G a_strains 6 strains_c)))) (row_c : (Nat → Int32)) (S : x_S) (strains_c : (Nat → Int32)) (x3 : Int32) (x4 : Int32) (x5 : Int32) (x6 : Int32) (x7 : Int32) (x8 : Int32) (x9 : Int32) (x10 : Int32) (x12 : Int32) (x13 : Int32) (s0 : Int32) (h : M_L_law_b186 xs L k139 row_c S strains_c x3 x4 x5 x6 x7 x8 x9 x10 x12 x13 s0 = some res) : X G l RL cL_law 38 room_1 (x_CL sb L xs) 42 883 186 [(0, .ref sb), (1, .ref (a 0)), (2, .ref (a_row 0)), (3, .int x3), (4, .int x4), (5, .int x5), (6, .int x6), (7, .int x7), (8, .int x8), (9, .int x9), (10, .int x10), (11, .ref (a_strains 0)), (12, .int x12), (13, .int x13)] [.int s0] ((WArr G a_row 38 row_c) ++ ((WLR G a ar al af ax ad aq S) ++ (WArr G a_strains 6 strains_c))) := by
  unfold M_L_law_b186 at h
  refine x_istore [(14, .int s0), (0, .ref sb), (1, .ref (a 0)), (2, .ref (a_row 0)), (3, .int x3), (4, .int x4), (5, .int x5), (6, .int x6), (7, .int x7), (8, .int x8), (9, .int x9), (10, .int x10), (11, .ref (a_strains 0)), (12, .int x12), (13, .int x13)] dL_law_186 (by decide) rfl ?_
  refine x_aload dL_law_188 12 rfl ?_
  refine x_iload dL_law_190 14 rfl ?_
  obtain ⟨b45, h⟩ := x_guard h
  refine x_iald x13.toNatClampNeg (q0 := 41) dL_law_192 rfl rfl b45 ?_
  refine x_if_lt 308 dL_law_193 (by decide) (fun c46 => ?_) (fun c46 => ?_)
  · have h := x_pos c46 h
    refine x_iconst 0 dL_law_308 (by decide) ?_
    cases h
  · have h := x_neg c46 h
    refine x_aload dL_law_196 12 rfl ?_
    refine x_iload dL_law_198 14 rfl ?_
    refine x_iald x13.toNatClampNeg (q0 := 41) dL_law_200 rfl rfl b45 ?_
    refine x_aload_n dL_law_201 2 rfl rfl ?_
    refine x_iload dL_law_202 14 rfl ?_
    refine x_iconst 1 dL_law_204 (by decide) ?_
    obtain ⟨r47, e48, h⟩ := x_bind h
    refine x_cS (As := [.ref (a 0), .int x13, .int (1 : Int32)]) (wc := (WLR G a ar al af ax ad aq S)) (w1 := (WLR G a ar al af ax ad aq r47.2)) (pre := (WArr G a_row 38 row_c)) (post := (WArr G a_strains 6 strains_c)) (rest := [.int (strains_c x13.toNatClampNeg)]) (st1 := [.int r47.1, .int (strains_c x13.toNatClampNeg)]) (ws1 := ((WArr G a_row 38 row_c) ++ ((WLR G a ar al af ax ad aq r47.2) ++ (WArr G a_strains 6 strains_c)))) dL_law_205 (c_L_told (a := a) e48) pk_L_told ml_L_68 (by simp only [List.append_assoc, List.append_nil, List.nil_append]) rfl rfl rfl rfl rfl (by simp only [List.append_assoc, List.append_nil, List.nil_append]) ?_
    refine x_aload_n dL_law_208 3 rfl rfl ?_
    refine x_iconst 2 dL_law_209 (by decide) ?_
    refine x_iload dL_law_210 14 rfl ?_
    refine x_iadd dL_law_212 ?_
    obtain ⟨b49, h⟩ := x_guard h
    refine x_iald ((2 : Int32) + x13).toNatClampNeg (q0 := 0) dL_law_213 rfl rfl b49 ?_
    refine x_iconst 2 dL_law_214 (by decide) ?_
    refine x_icmp_ne 222 dL_law_215 (by decide) (fun c50 => ?_) (fun c50 => ?_)
    · have h := x_neg c50 h
      refine x_iconst 0 dL_law_222 (by decide) ?_
      refine x_lv [1, 2, 3, 4, 5, 6, 7, 8, 9, 10, 11, 12, 13, 14, 0] rfl ?_
      exact w_L_law_b223 hk139 _ _ _ _ _ _ _ _ _ _ _ _ _ _ _ _ _ h
    · have h := x_pos c50 h
      refine x_iconst 1 dL_law_218 (by decide) ?_
      refine x_goto 223 dL_law_219 (by decide) ?_
      refine x_lv [1, 2, 3, 4, 5, 6, 7, 8, 9, 10, 11, 12, 13, 14, 0] rfl ?_
      exact w_L_law_b223 hk139 _ _ _ _ _ _ _ _ _ _ _ _ _ _ _ _ _ h
def M_L_law_b424 (xs : Nat → Int32) (L : Nat) (k346 : (Nat → Int32) → x_S → (Nat → Int32) → Int32 → Int32 → Int32 → Int32 → Int32 → Int32 → Int32 → Int32 → Int32 → Option (Unit)) (row_c : (Nat → Int32)) (S : x_S) (strains_c : (Nat → Int32)) (x3 : Int32) (x4 : Int32) (x5 : Int32) (x6 : Int32) (x7 : Int32) (x8 : Int32) (x9 : Int32) (x10 : Int32) (x13 : Int32) (s0 : Int32) (s1 : Int32) : Option (Unit) :=
  if s0 = s1 then
  (k346 row_c S strains_c x3 x4 x5 x6 x7 x8 x9 x10 (x13 + (1 : Int32)))
  else
  (none)
set_option maxHeartbeats 4000000 in
set_option maxRecDepth 100000 in
theorem w_L_law_b424 {sb : Nat} {xs : Nat → Int32} {G : x_G} {l : Launch} {a : Nat → Nat} {ar : Nat → Nat} {al : Nat → Nat} {af : Nat → Nat} {ax : Nat → Nat} {ad : Nat → Nat} {aq : Nat → Nat} {a_row : Nat → Nat} {a_strains : Nat → Nat} {L : Nat} {k346 : (Nat → Int32) → x_S → (Nat → Int32) → Int32 → Int32 → Int32 → Int32 → Int32 → Int32 → Int32 → Int32 → Int32 → Option (Unit)} {res : Unit} (hk346 : ∀ (row_c : (Nat → Int32)) (S : x_S) (strains_c : (Nat → Int32)) (x3 : Int32) (x4 : Int32) (x5 : Int32) (x6 : Int32) (x7 : Int32) (x8 : Int32) (x9 : Int32) (x10 : Int32) (x13 : Int32), k346 row_c S strains_c x3 x4 x5 x6 x7 x8 x9 x10 x13 = some res → X G l RL cL_law 38 room_1 (x_CL sb L xs) 42 883 346 [(0, .ref sb), (1, .ref (a 0)), (2, .ref (a_row 0)), (3, .int x3), (4, .int x4), (5, .int x5), (6, .int x6), (7, .int x7), (8, .int x8), (9, .int x9), (10, .int x10), (11, .ref (a_strains 0)), (13, .int x13)] [] ((WArr G a_row 38 row_c) ++ ((WLR G a ar al af ax ad aq S) ++ (WArr G a_strains 6 strains_c)))) (row_c : (Nat → Int32)) (S : x_S) (strains_c : (Nat → Int32)) (x3 : Int32) (x4 : Int32) (x5 : Int32) (x6 : Int32) (x7 : Int32) (x8 : Int32) (x9 : Int32) (x10 : Int32) (x13 : Int32) (s0 : Int32) (s1 : Int32) (h : M_L_law_b424 xs L k346 row_c S strains_c x3 x4 x5 x6 x7 x8 x9 x10 x13 s0 s1 = some res) : X G l RL cL_law 38 room_1 (x_CL sb L xs) 42 883 424 [(0, .ref sb), (1, .ref (a 0)), (2, .ref (a_row 0)), (3, .int x3), (4, .int x4), (5, .int x5), (6, .int x6), (7, .int x7), (8, .int x8), (9, .int x9), (10, .int x10), (11, .ref (a_strains 0)), (13, .int x13)] [.int s1, .int s0] ((WArr G a_row 38 row_c) ++ ((WLR G a ar al af ax ad aq S) ++ (WArr G a_strains 6 strains_c))) := by
  unfold M_L_law_b424 at h
  refine x_icmp_eq 429 dL_law_424 (by decide) (fun c71 => ?_) (fun c71 => ?_)
  · have h := x_pos c71 h
    refine x_iinc (j := 12) (1 : Int32) [(13, .int (x13 + (1 : Int32))), (0, .ref sb), (1, .ref (a 0)), (2, .ref (a_row 0)), (3, .int x3), (4, .int x4), (5, .int x5), (6, .int x6), (7, .int x7), (8, .int x8), (9, .int x9), (10, .int x10), (11, .ref (a_strains 0))] dL_law_429 (by decide) rfl (by decide) rfl ?_
    refine x_goto 346 dL_law_432 (by decide) ?_
    refine x_lv [1, 2, 3, 4, 5, 6, 7, 8, 9, 10, 11, 12, 0] rfl ?_
    exact hk346 _ _ _ _ _ _ _ _ _ _ _ _ h
  · have h := x_neg c71 h
    refine x_iconst 0 dL_law_427 (by decide) ?_
    cases h
def M_L_law_b404 (xs : Nat → Int32) (L : Nat) (k346 : (Nat → Int32) → x_S → (Nat → Int32) → Int32 → Int32 → Int32 → Int32 → Int32 → Int32 → Int32 → Int32 → Int32 → Option (Unit)) (row_c : (Nat → Int32)) (S : x_S) (strains_c : (Nat → Int32)) (x3 : Int32) (x4 : Int32) (x5 : Int32) (x6 : Int32) (x7 : Int32) (x8 : Int32) (x9 : Int32) (x10 : Int32) (x13 : Int32) (s0 : Int32) : Option (Unit) :=
  if ((x10 >>> (x13 &&& (31 : Int32))) &&& (1 : Int32)) = (1 : Int32) then
  (M_L_law_b424 xs L k346 row_c S strains_c x3 x4 x5 x6 x7 x8 x9 x10 x13 s0 (1 : Int32))
  else
  (M_L_law_b424 xs L k346 row_c S strains_c x3 x4 x5 x6 x7 x8 x9 x10 x13 s0 (0 : Int32))
set_option maxHeartbeats 4000000 in
set_option maxRecDepth 100000 in
theorem w_L_law_b404 {sb : Nat} {xs : Nat → Int32} {G : x_G} {l : Launch} {a : Nat → Nat} {ar : Nat → Nat} {al : Nat → Nat} {af : Nat → Nat} {ax : Nat → Nat} {ad : Nat → Nat} {aq : Nat → Nat} {a_row : Nat → Nat} {a_strains : Nat → Nat} {L : Nat} {k346 : (Nat → Int32) → x_S → (Nat → Int32) → Int32 → Int32 → Int32 → Int32 → Int32 → Int32 → Int32 → Int32 → Int32 → Option (Unit)} {res : Unit} (hk346 : ∀ (row_c : (Nat → Int32)) (S : x_S) (strains_c : (Nat → Int32)) (x3 : Int32) (x4 : Int32) (x5 : Int32) (x6 : Int32) (x7 : Int32) (x8 : Int32) (x9 : Int32) (x10 : Int32) (x13 : Int32), k346 row_c S strains_c x3 x4 x5 x6 x7 x8 x9 x10 x13 = some res → X G l RL cL_law 38 room_1 (x_CL sb L xs) 42 883 346 [(0, .ref sb), (1, .ref (a 0)), (2, .ref (a_row 0)), (3, .int x3), (4, .int x4), (5, .int x5), (6, .int x6), (7, .int x7), (8, .int x8), (9, .int x9), (10, .int x10), (11, .ref (a_strains 0)), (13, .int x13)] [] ((WArr G a_row 38 row_c) ++ ((WLR G a ar al af ax ad aq S) ++ (WArr G a_strains 6 strains_c)))) (row_c : (Nat → Int32)) (S : x_S) (strains_c : (Nat → Int32)) (x3 : Int32) (x4 : Int32) (x5 : Int32) (x6 : Int32) (x7 : Int32) (x8 : Int32) (x9 : Int32) (x10 : Int32) (x13 : Int32) (s0 : Int32) (h : M_L_law_b404 xs L k346 row_c S strains_c x3 x4 x5 x6 x7 x8 x9 x10 x13 s0 = some res) : X G l RL cL_law 38 room_1 (x_CL sb L xs) 42 883 404 [(0, .ref sb), (1, .ref (a 0)), (2, .ref (a_row 0)), (3, .int x3), (4, .int x4), (5, .int x5), (6, .int x6), (7, .int x7), (8, .int x8), (9, .int x9), (10, .int x10), (11, .ref (a_strains 0)), (13, .int x13)] [.int s0] ((WArr G a_row 38 row_c) ++ ((WLR G a ar al af ax ad aq S) ++ (WArr G a_strains 6 strains_c))) := by
  unfold M_L_law_b404 at h
  refine x_istore [(15, .int s0), (0, .ref sb), (1, .ref (a 0)), (2, .ref (a_row 0)), (3, .int x3), (4, .int x4), (5, .int x5), (6, .int x6), (7, .int x7), (8, .int x8), (9, .int x9), (10, .int x10), (11, .ref (a_strains 0)), (13, .int x13)] dL_law_404 (by decide) rfl ?_
  refine x_iload dL_law_406 0 rfl ?_
  refine x_iload dL_law_408 11 rfl ?_
  refine x_iload dL_law_410 13 rfl ?_
  refine x_ishr dL_law_412 ?_
  refine x_iconst 1 dL_law_413 (by decide) ?_
  refine x_iand dL_law_414 ?_
  refine x_iconst 1 dL_law_415 (by decide) ?_
  refine x_icmp_ne 423 dL_law_416 (by decide) (fun c70 => ?_) (fun c70 => ?_)
  · have h := x_neg c70 h
    refine x_iconst 0 dL_law_423 (by decide) ?_
    refine x_lv [1, 2, 3, 4, 5, 6, 7, 8, 9, 10, 11, 12, 13] rfl ?_
    exact w_L_law_b424 hk346 _ _ _ _ _ _ _ _ _ _ _ _ _ _ h
  · have h := x_pos c70 h
    refine x_iconst 1 dL_law_419 (by decide) ?_
    refine x_goto 424 dL_law_420 (by decide) ?_
    refine x_lv [1, 2, 3, 4, 5, 6, 7, 8, 9, 10, 11, 12, 13] rfl ?_
    exact w_L_law_b424 hk346 _ _ _ _ _ _ _ _ _ _ _ _ _ _ h
def M_L_law_b403 (xs : Nat → Int32) (L : Nat) (k346 : (Nat → Int32) → x_S → (Nat → Int32) → Int32 → Int32 → Int32 → Int32 → Int32 → Int32 → Int32 → Int32 → Int32 → Option (Unit)) (row_c : (Nat → Int32)) (S : x_S) (strains_c : (Nat → Int32)) (x3 : Int32) (x4 : Int32) (x5 : Int32) (x6 : Int32) (x7 : Int32) (x8 : Int32) (x9 : Int32) (x10 : Int32) (x13 : Int32) : Option (Unit) :=
  M_L_law_b404 xs L k346 row_c S strains_c x3 x4 x5 x6 x7 x8 x9 x10 x13 (0 : Int32)
set_option maxHeartbeats 4000000 in
set_option maxRecDepth 100000 in
theorem w_L_law_b403 {sb : Nat} {xs : Nat → Int32} {G : x_G} {l : Launch} {a : Nat → Nat} {ar : Nat → Nat} {al : Nat → Nat} {af : Nat → Nat} {ax : Nat → Nat} {ad : Nat → Nat} {aq : Nat → Nat} {a_row : Nat → Nat} {a_strains : Nat → Nat} {L : Nat} {k346 : (Nat → Int32) → x_S → (Nat → Int32) → Int32 → Int32 → Int32 → Int32 → Int32 → Int32 → Int32 → Int32 → Int32 → Option (Unit)} {res : Unit} (hk346 : ∀ (row_c : (Nat → Int32)) (S : x_S) (strains_c : (Nat → Int32)) (x3 : Int32) (x4 : Int32) (x5 : Int32) (x6 : Int32) (x7 : Int32) (x8 : Int32) (x9 : Int32) (x10 : Int32) (x13 : Int32), k346 row_c S strains_c x3 x4 x5 x6 x7 x8 x9 x10 x13 = some res → X G l RL cL_law 38 room_1 (x_CL sb L xs) 42 883 346 [(0, .ref sb), (1, .ref (a 0)), (2, .ref (a_row 0)), (3, .int x3), (4, .int x4), (5, .int x5), (6, .int x6), (7, .int x7), (8, .int x8), (9, .int x9), (10, .int x10), (11, .ref (a_strains 0)), (13, .int x13)] [] ((WArr G a_row 38 row_c) ++ ((WLR G a ar al af ax ad aq S) ++ (WArr G a_strains 6 strains_c)))) (row_c : (Nat → Int32)) (S : x_S) (strains_c : (Nat → Int32)) (x3 : Int32) (x4 : Int32) (x5 : Int32) (x6 : Int32) (x7 : Int32) (x8 : Int32) (x9 : Int32) (x10 : Int32) (x13 : Int32) (h : M_L_law_b403 xs L k346 row_c S strains_c x3 x4 x5 x6 x7 x8 x9 x10 x13 = some res) : X G l RL cL_law 38 room_1 (x_CL sb L xs) 42 883 403 [(0, .ref sb), (1, .ref (a 0)), (2, .ref (a_row 0)), (3, .int x3), (4, .int x4), (5, .int x5), (6, .int x6), (7, .int x7), (8, .int x8), (9, .int x9), (10, .int x10), (11, .ref (a_strains 0)), (13, .int x13)] [] ((WArr G a_row 38 row_c) ++ ((WLR G a ar al af ax ad aq S) ++ (WArr G a_strains 6 strains_c))) := by
  unfold M_L_law_b403 at h
  refine x_iconst 0 dL_law_403 (by decide) ?_
  exact w_L_law_b404 hk346 _ _ _ _ _ _ _ _ _ _ _ _ _ h
def M_L_law_b739 (xs : Nat → Int32) (L : Nat) (k438 : (Nat → Int32) → x_S → (Nat → Int32) → Int32 → Int32 → Int32 → Int32 → Int32 → Int32 → Int32 → Int32 → Int32 → Option (Unit)) (k638 : (Nat → Int32) → x_S → (Nat → Int32) → Int32 → Int32 → Int32 → Int32 → Int32 → Int32 → Int32 → Int32 → Int32 → Int32 → Int32 → Int32 → Int32 → Int32 → Option (Unit)) (row_c : (Nat → Int32)) (S : x_S) (strains_c : (Nat → Int32)) (x3 : Int32) (x4 : Int32) (x5 : Int32) (x6 : Int32) (x7 : Int32) (x8 : Int32) (x9 : Int32) (x10 : Int32) (x13 : Int32) (x15 : Int32) (x16 : Int32) (x17 : Int32) (x19 : Int32) (x20 : Int32) : Option (Unit) :=
  k638 row_c S strains_c x3 x4 x5 x6 x7 x8 x9 x10 x13 x15 x16 x17 x19 (x20 + (1 : Int32))
set_option maxHeartbeats 4000000 in
set_option maxRecDepth 100000 in
theorem w_L_law_b739 {sb : Nat} {xs : Nat → Int32} {G : x_G} {l : Launch} {a : Nat → Nat} {ar : Nat → Nat} {al : Nat → Nat} {af : Nat → Nat} {ax : Nat → Nat} {ad : Nat → Nat} {aq : Nat → Nat} {a_row : Nat → Nat} {a_strains : Nat → Nat} {L : Nat} {k438 : (Nat → Int32) → x_S → (Nat → Int32) → Int32 → Int32 → Int32 → Int32 → Int32 → Int32 → Int32 → Int32 → Int32 → Option (Unit)} {k638 : (Nat → Int32) → x_S → (Nat → Int32) → Int32 → Int32 → Int32 → Int32 → Int32 → Int32 → Int32 → Int32 → Int32 → Int32 → Int32 → Int32 → Int32 → Int32 → Option (Unit)} {res : Unit} (hk438 : ∀ (row_c : (Nat → Int32)) (S : x_S) (strains_c : (Nat → Int32)) (x3 : Int32) (x4 : Int32) (x5 : Int32) (x6 : Int32) (x7 : Int32) (x8 : Int32) (x9 : Int32) (x10 : Int32) (x13 : Int32), k438 row_c S strains_c x3 x4 x5 x6 x7 x8 x9 x10 x13 = some res → X G l RL cL_law 38 room_1 (x_CL sb L xs) 42 883 438 [(0, .ref sb), (1, .ref (a 0)), (2, .ref (a_row 0)), (3, .int x3), (4, .int x4), (5, .int x5), (6, .int x6), (7, .int x7), (8, .int x8), (9, .int x9), (10, .int x10), (11, .ref (a_strains 0)), (13, .int x13)] [] ((WArr G a_row 38 row_c) ++ ((WLR G a ar al af ax ad aq S) ++ (WArr G a_strains 6 strains_c)))) (hk638 : ∀ (row_c : (Nat → Int32)) (S : x_S) (strains_c : (Nat → Int32)) (x3 : Int32) (x4 : Int32) (x5 : Int32) (x6 : Int32) (x7 : Int32) (x8 : Int32) (x9 : Int32) (x10 : Int32) (x13 : Int32) (x15 : Int32) (x16 : Int32) (x17 : Int32) (x19 : Int32) (x20 : Int32), k638 row_c S strains_c x3 x4 x5 x6 x7 x8 x9 x10 x13 x15 x16 x17 x19 x20 = some res → X G l RL cL_law 38 room_1 (x_CL sb L xs) 42 883 638 [(0, .ref sb), (1, .ref (a 0)), (2, .ref (a_row 0)), (3, .int x3), (4, .int x4), (5, .int x5), (6, .int x6), (7, .int x7), (8, .int x8), (9, .int x9), (10, .int x10), (11, .ref (a_strains 0)), (13, .int x13), (15, .int x15), (16, .int x16), (17, .int x17), (19, .int x19), (20, .int x20)] [] ((WArr G a_row 38 row_c) ++ ((WLR G a ar al af ax ad aq S) ++ (WArr G a_strains 6 strains_c)))) (row_c : (Nat → Int32)) (S : x_S) (strains_c : (Nat → Int32)) (x3 : Int32) (x4 : Int32) (x5 : Int32) (x6 : Int32) (x7 : Int32) (x8 : Int32) (x9 : Int32) (x10 : Int32) (x13 : Int32) (x15 : Int32) (x16 : Int32) (x17 : Int32) (x19 : Int32) (x20 : Int32) (h : M_L_law_b739 xs L k438 k638 row_c S strains_c x3 x4 x5 x6 x7 x8 x9 x10 x13 x15 x16 x17 x19 x20 = some res) : X G l RL cL_law 38 room_1 (x_CL sb L xs) 42 883 739 [(0, .ref sb), (1, .ref (a 0)), (2, .ref (a_row 0)), (3, .int x3), (4, .int x4), (5, .int x5), (6, .int x6), (7, .int x7), (8, .int x8), (9, .int x9), (10, .int x10), (11, .ref (a_strains 0)), (13, .int x13), (15, .int x15), (16, .int x16), (17, .int x17), (19, .int x19), (20, .int x20)] [] ((WArr G a_row 38 row_c) ++ ((WLR G a ar al af ax ad aq S) ++ (WArr G a_strains 6 strains_c))) := by
  unfold M_L_law_b739 at h
  refine x_iinc (j := 17) (1 : Int32) [(20, .int (x20 + (1 : Int32))), (0, .ref sb), (1, .ref (a 0)), (2, .ref (a_row 0)), (3, .int x3), (4, .int x4), (5, .int x5), (6, .int x6), (7, .int x7), (8, .int x8), (9, .int x9), (10, .int x10), (11, .ref (a_strains 0)), (13, .int x13), (15, .int x15), (16, .int x16), (17, .int x17), (19, .int x19)] dL_law_739 (by decide) rfl (by decide) rfl ?_
  refine x_goto 638 dL_law_742 (by decide) ?_
  refine x_lv [1, 2, 3, 4, 5, 6, 7, 8, 9, 10, 11, 12, 13, 14, 15, 16, 17, 0] rfl ?_
  exact hk638 _ _ _ _ _ _ _ _ _ _ _ _ _ _ _ _ _ h
def M_L_law_b709 (xs : Nat → Int32) (L : Nat) (k438 : (Nat → Int32) → x_S → (Nat → Int32) → Int32 → Int32 → Int32 → Int32 → Int32 → Int32 → Int32 → Int32 → Int32 → Option (Unit)) (k638 : (Nat → Int32) → x_S → (Nat → Int32) → Int32 → Int32 → Int32 → Int32 → Int32 → Int32 → Int32 → Int32 → Int32 → Int32 → Int32 → Int32 → Int32 → Int32 → Option (Unit)) (row_c : (Nat → Int32)) (S : x_S) (strains_c : (Nat → Int32)) (x3 : Int32) (x4 : Int32) (x5 : Int32) (x6 : Int32) (x7 : Int32) (x8 : Int32) (x9 : Int32) (x10 : Int32) (x13 : Int32) (x15 : Int32) (x16 : Int32) (x17 : Int32) (x19 : Int32) (x20 : Int32) (x21 : Int32) : Option (Unit) :=
  if ((x16 >>> (x20 &&& (31 : Int32))) &&& (1 : Int32)) = (1 : Int32) then
  (if x20 = x17 then
  (M_L_law_b739 xs L k438 k638 row_c S strains_c x3 x4 x5 x6 x7 x8 x9 x10 x13 x15 x16 x17 x19 x20)
  else
  (if inb x20 6 then
  if (strains_c x20.toNatClampNeg) < x21 then
  (M_L_law_b739 xs L k438 k638 row_c S strains_c x3 x4 x5 x6 x7 x8 x9 x10 x13 x15 x16 x17 x19 x20)
  else
  (none)
  else none))
  else
  (M_L_law_b739 xs L k438 k638 row_c S strains_c x3 x4 x5 x6 x7 x8 x9 x10 x13 x15 x16 x17 x19 x20)
set_option maxHeartbeats 4000000 in
set_option maxRecDepth 100000 in
theorem w_L_law_b709 {sb : Nat} {xs : Nat → Int32} {G : x_G} {l : Launch} {a : Nat → Nat} {ar : Nat → Nat} {al : Nat → Nat} {af : Nat → Nat} {ax : Nat → Nat} {ad : Nat → Nat} {aq : Nat → Nat} {a_row : Nat → Nat} {a_strains : Nat → Nat} {L : Nat} {k438 : (Nat → Int32) → x_S → (Nat → Int32) → Int32 → Int32 → Int32 → Int32 → Int32 → Int32 → Int32 → Int32 → Int32 → Option (Unit)} {k638 : (Nat → Int32) → x_S → (Nat → Int32) → Int32 → Int32 → Int32 → Int32 → Int32 → Int32 → Int32 → Int32 → Int32 → Int32 → Int32 → Int32 → Int32 → Int32 → Option (Unit)} {res : Unit} (hk438 : ∀ (row_c : (Nat → Int32)) (S : x_S) (strains_c : (Nat → Int32)) (x3 : Int32) (x4 : Int32) (x5 : Int32) (x6 : Int32) (x7 : Int32) (x8 : Int32) (x9 : Int32) (x10 : Int32) (x13 : Int32), k438 row_c S strains_c x3 x4 x5 x6 x7 x8 x9 x10 x13 = some res → X G l RL cL_law 38 room_1 (x_CL sb L xs) 42 883 438 [(0, .ref sb), (1, .ref (a 0)), (2, .ref (a_row 0)), (3, .int x3), (4, .int x4), (5, .int x5), (6, .int x6), (7, .int x7), (8, .int x8), (9, .int x9), (10, .int x10), (11, .ref (a_strains 0)), (13, .int x13)] [] ((WArr G a_row 38 row_c) ++ ((WLR G a ar al af ax ad aq S) ++ (WArr G a_strains 6 strains_c)))) (hk638 : ∀ (row_c : (Nat → Int32)) (S : x_S) (strains_c : (Nat → Int32)) (x3 : Int32) (x4 : Int32) (x5 : Int32) (x6 : Int32) (x7 : Int32) (x8 : Int32) (x9 : Int32) (x10 : Int32) (x13 : Int32) (x15 : Int32) (x16 : Int32) (x17 : Int32) (x19 : Int32) (x20 : Int32), k638 row_c S strains_c x3 x4 x5 x6 x7 x8 x9 x10 x13 x15 x16 x17 x19 x20 = some res → X G l RL cL_law 38 room_1 (x_CL sb L xs) 42 883 638 [(0, .ref sb), (1, .ref (a 0)), (2, .ref (a_row 0)), (3, .int x3), (4, .int x4), (5, .int x5), (6, .int x6), (7, .int x7), (8, .int x8), (9, .int x9), (10, .int x10), (11, .ref (a_strains 0)), (13, .int x13), (15, .int x15), (16, .int x16), (17, .int x17), (19, .int x19), (20, .int x20)] [] ((WArr G a_row 38 row_c) ++ ((WLR G a ar al af ax ad aq S) ++ (WArr G a_strains 6 strains_c)))) (row_c : (Nat → Int32)) (S : x_S) (strains_c : (Nat → Int32)) (x3 : Int32) (x4 : Int32) (x5 : Int32) (x6 : Int32) (x7 : Int32) (x8 : Int32) (x9 : Int32) (x10 : Int32) (x13 : Int32) (x15 : Int32) (x16 : Int32) (x17 : Int32) (x19 : Int32) (x20 : Int32) (x21 : Int32) (h : M_L_law_b709 xs L k438 k638 row_c S strains_c x3 x4 x5 x6 x7 x8 x9 x10 x13 x15 x16 x17 x19 x20 x21 = some res) : X G l RL cL_law 38 room_1 (x_CL sb L xs) 42 883 709 [(0, .ref sb), (1, .ref (a 0)), (2, .ref (a_row 0)), (3, .int x3), (4, .int x4), (5, .int x5), (6, .int x6), (7, .int x7), (8, .int x8), (9, .int x9), (10, .int x10), (11, .ref (a_strains 0)), (13, .int x13), (15, .int x15), (16, .int x16), (17, .int x17), (19, .int x19), (20, .int x20), (21, .int x21)] [] ((WArr G a_row 38 row_c) ++ ((WLR G a ar al af ax ad aq S) ++ (WArr G a_strains 6 strains_c))) := by
  unfold M_L_law_b709 at h
  refine x_iload dL_law_709 14 rfl ?_
  refine x_iload dL_law_711 17 rfl ?_
  refine x_ishr dL_law_713 ?_
  refine x_iconst 1 dL_law_714 (by decide) ?_
  refine x_iand dL_law_715 ?_
  refine x_iconst 1 dL_law_716 (by decide) ?_
  refine x_icmp_ne 739 dL_law_717 (by decide) (fun c124 => ?_) (fun c124 => ?_)
  · have h := x_neg c124 h
    refine x_lv [0, 1, 2, 3, 4, 5, 6, 7, 8, 9, 10, 11, 12, 13, 14, 15, 16, 17] rfl ?_
    exact w_L_law_b739 hk438 hk638 _ _ _ _ _ _ _ _ _ _ _ _ _ _ _ _ _ h
  · have h := x_pos c124 h
    refine x_iload dL_law_720 17 rfl ?_
    refine x_iload dL_law_722 15 rfl ?_
    refine x_icmp_eq 739 dL_law_724 (by decide) (fun c125 => ?_) (fun c125 => ?_)
    · have h := x_pos c125 h
      refine x_lv [0, 1, 2, 3, 4, 5, 6, 7, 8, 9, 10, 11, 12, 13, 14, 15, 16, 17] rfl ?_
      exact w_L_law_b739 hk438 hk638 _ _ _ _ _ _ _ _ _ _ _ _ _ _ _ _ _ h
    · have h := x_neg c125 h
      refine x_iload dL_law_727 18 rfl ?_
      refine x_aload dL_law_729 11 rfl ?_
      refine x_iload dL_law_731 17 rfl ?_
      obtain ⟨b126, h⟩ := x_guard h
      refine x_iald x20.toNatClampNeg (q0 := 41) dL_law_733 rfl rfl b126 ?_
      refine x_icmp_gt 739 dL_law_734 (by decide) (fun c127 => ?_) (fun c127 => ?_)
      · have h := x_pos c127 h
        refine x_lv [0, 1, 2, 3, 4, 5, 6, 7, 8, 9, 10, 11, 12, 13, 14, 15, 16, 17] rfl ?_
        exact w_L_law_b739 hk438 hk638 _ _ _ _ _ _ _ _ _ _ _ _ _ _ _ _ _ h
      · have h := x_neg c127 h
        refine x_iconst 0 dL_law_737 (by decide) ?_
        cases h
def M_L_law_b697 (xs : Nat → Int32) (L : Nat) (k438 : (Nat → Int32) → x_S → (Nat → Int32) → Int32 → Int32 → Int32 → Int32 → Int32 → Int32 → Int32 → Int32 → Int32 → Option (Unit)) (k638 : (Nat → Int32) → x_S → (Nat → Int32) → Int32 → Int32 → Int32 → Int32 → Int32 → Int32 → Int32 → Int32 → Int32 → Int32 → Int32 → Int32 → Int32 → Int32 → Option (Unit)) (row_c : (Nat → Int32)) (S : x_S) (strains_c : (Nat → Int32)) (x3 : Int32) (x4 : Int32) (x5 : Int32) (x6 : Int32) (x7 : Int32) (x8 : Int32) (x9 : Int32) (x10 : Int32) (x13 : Int32) (x15 : Int32) (x16 : Int32) (x17 : Int32) (x19 : Int32) (x20 : Int32) (x21 : Int32) : Option (Unit) :=
  if x20 = x17 then
  (if x21 = 0 then
  (M_L_law_b709 xs L k438 k638 row_c S strains_c x3 x4 x5 x6 x7 x8 x9 x10 x13 x15 x16 x17 x19 x20 x21)
  else
  (none))
  else
  (M_L_law_b709 xs L k438 k638 row_c S strains_c x3 x4 x5 x6 x7 x8 x9 x10 x13 x15 x16 x17 x19 x20 x21)
set_option maxHeartbeats 4000000 in
set_option maxRecDepth 100000 in
theorem w_L_law_b697 {sb : Nat} {xs : Nat → Int32} {G : x_G} {l : Launch} {a : Nat → Nat} {ar : Nat → Nat} {al : Nat → Nat} {af : Nat → Nat} {ax : Nat → Nat} {ad : Nat → Nat} {aq : Nat → Nat} {a_row : Nat → Nat} {a_strains : Nat → Nat} {L : Nat} {k438 : (Nat → Int32) → x_S → (Nat → Int32) → Int32 → Int32 → Int32 → Int32 → Int32 → Int32 → Int32 → Int32 → Int32 → Option (Unit)} {k638 : (Nat → Int32) → x_S → (Nat → Int32) → Int32 → Int32 → Int32 → Int32 → Int32 → Int32 → Int32 → Int32 → Int32 → Int32 → Int32 → Int32 → Int32 → Int32 → Option (Unit)} {res : Unit} (hk438 : ∀ (row_c : (Nat → Int32)) (S : x_S) (strains_c : (Nat → Int32)) (x3 : Int32) (x4 : Int32) (x5 : Int32) (x6 : Int32) (x7 : Int32) (x8 : Int32) (x9 : Int32) (x10 : Int32) (x13 : Int32), k438 row_c S strains_c x3 x4 x5 x6 x7 x8 x9 x10 x13 = some res → X G l RL cL_law 38 room_1 (x_CL sb L xs) 42 883 438 [(0, .ref sb), (1, .ref (a 0)), (2, .ref (a_row 0)), (3, .int x3), (4, .int x4), (5, .int x5), (6, .int x6), (7, .int x7), (8, .int x8), (9, .int x9), (10, .int x10), (11, .ref (a_strains 0)), (13, .int x13)] [] ((WArr G a_row 38 row_c) ++ ((WLR G a ar al af ax ad aq S) ++ (WArr G a_strains 6 strains_c)))) (hk638 : ∀ (row_c : (Nat → Int32)) (S : x_S) (strains_c : (Nat → Int32)) (x3 : Int32) (x4 : Int32) (x5 : Int32) (x6 : Int32) (x7 : Int32) (x8 : Int32) (x9 : Int32) (x10 : Int32) (x13 : Int32) (x15 : Int32) (x16 : Int32) (x17 : Int32) (x19 : Int32) (x20 : Int32), k638 row_c S strains_c x3 x4 x5 x6 x7 x8 x9 x10 x13 x15 x16 x17 x19 x20 = some res → X G l RL cL_law 38 room_1 (x_CL sb L xs) 42 883 638 [(0, .ref sb), (1, .ref (a 0)), (2, .ref (a_row 0)), (3, .int x3), (4, .int x4), (5, .int x5), (6, .int x6), (7, .int x7), (8, .int x8), (9, .int x9), (10, .int x10), (11, .ref (a_strains 0)), (13, .int x13), (15, .int x15), (16, .int x16), (17, .int x17), (19, .int x19), (20, .int x20)] [] ((WArr G a_row 38 row_c) ++ ((WLR G a ar al af ax ad aq S) ++ (WArr G a_strains 6 strains_c)))) (row_c : (Nat → Int32)) (S : x_S) (strains_c : (Nat → Int32)) (x3 : Int32) (x4 : Int32) (x5 : Int32) (x6 : Int32) (x7 : Int32) (x8 : Int32) (x9 : Int32) (x10 : Int32) (x13 : Int32) (x15 : Int32) (x16 : Int32) (x17 : Int32) (x19 : Int32) (x20 : Int32) (x21 : Int32) (h : M_L_law_b697 xs L k438 k638 row_c S strains_c x3 x4 x5 x6 x7 x8 x9 x10 x13 x15 x16 x17 x19 x20 x21 = some res) : X G l RL cL_law 38 room_1 (x_CL sb L xs) 42 883 697 [(0, .ref sb), (1, .ref (a 0)), (2, .ref (a_row 0)), (3, .int x3), (4, .int x4), (5, .int x5), (6, .int x6), (7, .int x7), (8, .int x8), (9, .int x9), (10, .int x10), (11, .ref (a_strains 0)), (13, .int x13), (15, .int x15), (16, .int x16), (17, .int x17), (19, .int x19), (20, .int x20), (21, .int x21)] [] ((WArr G a_row 38 row_c) ++ ((WLR G a ar al af ax ad aq S) ++ (WArr G a_strains 6 strains_c))) := by
  unfold M_L_law_b697 at h
  refine x_iload dL_law_697 17 rfl ?_
  refine x_iload dL_law_699 15 rfl ?_
  refine x_icmp_ne 709 dL_law_701 (by decide) (fun c122 => ?_) (fun c122 => ?_)
  · have h := x_neg c122 h
    exact w_L_law_b709 hk438 hk638 _ _ _ _ _ _ _ _ _ _ _ _ _ _ _ _ _ _ h
  · have h := x_pos c122 h
    refine x_iload dL_law_704 18 rfl ?_
    refine x_if_ne 737 dL_law_706 (by decide) (fun c123 => ?_) (fun c123 => ?_)
    · have h := x_neg c123 h
      refine x_iconst 0 dL_law_737 (by decide) ?_
      cases h
    · have h := x_pos c123 h
      exact w_L_law_b709 hk438 hk638 _ _ _ _ _ _ _ _ _ _ _ _ _ _ _ _ _ _ h
def M_L_law_b674 (xs : Nat → Int32) (L : Nat) (k438 : (Nat → Int32) → x_S → (Nat → Int32) → Int32 → Int32 → Int32 → Int32 → Int32 → Int32 → Int32 → Int32 → Int32 → Option (Unit)) (k638 : (Nat → Int32) → x_S → (Nat → Int32) → Int32 → Int32 → Int32 → Int32 → Int32 → Int32 → Int32 → Int32 → Int32 → Int32 → Int32 → Int32 → Int32 → Int32 → Option (Unit)) (row_c : (Nat → Int32)) (S : x_S) (strains_c : (Nat → Int32)) (x3 : Int32) (x4 : Int32) (x5 : Int32) (x6 : Int32) (x7 : Int32) (x8 : Int32) (x9 : Int32) (x10 : Int32) (x13 : Int32) (x15 : Int32) (x16 : Int32) (x17 : Int32) (x20 : Int32) (x21 : Int32) (s0 : Int32) (s1 : Int32) : Option (Unit) :=
  if ((x16 >>> (x20 &&& (31 : Int32))) &&& (1 : Int32)) = 0 then
  (if inb x20 6 then
  if x21 = (strains_c x20.toNatClampNeg) then
  (M_L_law_b697 xs L k438 k638 row_c S strains_c x3 x4 x5 x6 x7 x8 x9 x10 x13 x15 x16 x17 (s0 + s1) x20 x21)
  else
  (none)
  else none)
  else
  (M_L_law_b697 xs L k438 k638 row_c S strains_c x3 x4 x5 x6 x7 x8 x9 x10 x13 x15 x16 x17 (s0 + s1) x20 x21)
set_option maxHeartbeats 4000000 in
set_option maxRecDepth 100000 in
theorem w_L_law_b674 {sb : Nat} {xs : Nat → Int32} {G : x_G} {l : Launch} {a : Nat → Nat} {ar : Nat → Nat} {al : Nat → Nat} {af : Nat → Nat} {ax : Nat → Nat} {ad : Nat → Nat} {aq : Nat → Nat} {a_row : Nat → Nat} {a_strains : Nat → Nat} {L : Nat} {k438 : (Nat → Int32) → x_S → (Nat → Int32) → Int32 → Int32 → Int32 → Int32 → Int32 → Int32 → Int32 → Int32 → Int32 → Option (Unit)} {k638 : (Nat → Int32) → x_S → (Nat → Int32) → Int32 → Int32 → Int32 → Int32 → Int32 → Int32 → Int32 → Int32 → Int32 → Int32 → Int32 → Int32 → Int32 → Int32 → Option (Unit)} {res : Unit} (hk438 : ∀ (row_c : (Nat → Int32)) (S : x_S) (strains_c : (Nat → Int32)) (x3 : Int32) (x4 : Int32) (x5 : Int32) (x6 : Int32) (x7 : Int32) (x8 : Int32) (x9 : Int32) (x10 : Int32) (x13 : Int32), k438 row_c S strains_c x3 x4 x5 x6 x7 x8 x9 x10 x13 = some res → X G l RL cL_law 38 room_1 (x_CL sb L xs) 42 883 438 [(0, .ref sb), (1, .ref (a 0)), (2, .ref (a_row 0)), (3, .int x3), (4, .int x4), (5, .int x5), (6, .int x6), (7, .int x7), (8, .int x8), (9, .int x9), (10, .int x10), (11, .ref (a_strains 0)), (13, .int x13)] [] ((WArr G a_row 38 row_c) ++ ((WLR G a ar al af ax ad aq S) ++ (WArr G a_strains 6 strains_c)))) (hk638 : ∀ (row_c : (Nat → Int32)) (S : x_S) (strains_c : (Nat → Int32)) (x3 : Int32) (x4 : Int32) (x5 : Int32) (x6 : Int32) (x7 : Int32) (x8 : Int32) (x9 : Int32) (x10 : Int32) (x13 : Int32) (x15 : Int32) (x16 : Int32) (x17 : Int32) (x19 : Int32) (x20 : Int32), k638 row_c S strains_c x3 x4 x5 x6 x7 x8 x9 x10 x13 x15 x16 x17 x19 x20 = some res → X G l RL cL_law 38 room_1 (x_CL sb L xs) 42 883 638 [(0, .ref sb), (1, .ref (a 0)), (2, .ref (a_row 0)), (3, .int x3), (4, .int x4), (5, .int x5), (6, .int x6), (7, .int x7), (8, .int x8), (9, .int x9), (10, .int x10), (11, .ref (a_strains 0)), (13, .int x13), (15, .int x15), (16, .int x16), (17, .int x17), (19, .int x19), (20, .int x20)] [] ((WArr G a_row 38 row_c) ++ ((WLR G a ar al af ax ad aq S) ++ (WArr G a_strains 6 strains_c)))) (row_c : (Nat → Int32)) (S : x_S) (strains_c : (Nat → Int32)) (x3 : Int32) (x4 : Int32) (x5 : Int32) (x6 : Int32) (x7 : Int32) (x8 : Int32) (x9 : Int32) (x10 : Int32) (x13 : Int32) (x15 : Int32) (x16 : Int32) (x17 : Int32) (x20 : Int32) (x21 : Int32) (s0 : Int32) (s1 : Int32) (h : M_L_law_b674 xs L k438 k638 row_c S strains_c x3 x4 x5 x6 x7 x8 x9 x10 x13 x15 x16 x17 x20 x21 s0 s1 = some res) : X G l RL cL_law 38 room_1 (x_CL sb L xs) 42 883 674 [(0, .ref sb), (1, .ref (a 0)), (2, .ref (a_row 0)), (3, .int x3), (4, .int x4), (5, .int x5), (6, .int x6), (7, .int x7), (8, .int x8), (9, .int x9), (10, .int x10), (11, .ref (a_strains 0)), (13, .int x13), (15, .int x15), (16, .int x16), (17, .int x17), (20, .int x20), (21, .int x21)] [.int s1, .int s0] ((WArr G a_row 38 row_c) ++ ((WLR G a ar al af ax ad aq S) ++ (WArr G a_strains 6 strains_c))) := by
  unfold M_L_law_b674 at h
  refine x_iadd dL_law_674 ?_
  refine x_istore [(19, .int (s0 + s1)), (0, .ref sb), (1, .ref (a 0)), (2, .ref (a_row 0)), (3, .int x3), (4, .int x4), (5, .int x5), (6, .int x6), (7, .int x7), (8, .int x8), (9, .int x9), (10, .int x10), (11, .ref (a_strains 0)), (13, .int x13), (15, .int x15), (16, .int x16), (17, .int x17), (20, .int x20), (21, .int x21)] dL_law_675 (by decide) rfl ?_
  refine x_iload dL_law_677 15 rfl ?_
  refine x_iload dL_law_679 17 rfl ?_
  refine x_ishr dL_law_681 ?_
  refine x_iconst 1 dL_law_682 (by decide) ?_
  refine x_iand dL_law_683 ?_
  refine x_if_ne 697 dL_law_684 (by decide) (fun c119 => ?_) (fun c119 => ?_)
  · have h := x_neg c119 h
    refine x_lv [1, 2, 3, 4, 5, 6, 7, 8, 9, 10, 11, 12, 13, 14, 15, 16, 0, 17, 18] rfl ?_
    exact w_L_law_b697 hk438 hk638 _ _ _ _ _ _ _ _ _ _ _ _ _ _ _ _ _ _ h
  · have h := x_pos c119 h
    refine x_iload dL_law_687 18 rfl ?_
    refine x_aload dL_law_689 12 rfl ?_
    refine x_iload dL_law_691 17 rfl ?_
    obtain ⟨b120, h⟩ := x_guard h
    refine x_iald x20.toNatClampNeg (q0 := 41) dL_law_693 rfl rfl b120 ?_
    refine x_icmp_ne 737 dL_law_694 (by decide) (fun c121 => ?_) (fun c121 => ?_)
    · have h := x_neg c121 h
      refine x_iconst 0 dL_law_737 (by decide) ?_
      cases h
    · have h := x_pos c121 h
      refine x_lv [1, 2, 3, 4, 5, 6, 7, 8, 9, 10, 11, 12, 13, 14, 15, 16, 0, 17, 18] rfl ?_
      exact w_L_law_b697 hk438 hk638 _ _ _ _ _ _ _ _ _ _ _ _ _ _ _ _ _ _ h
def M_L_law_b926 (xs : Nat → Int32) (L : Nat) (k438 : (Nat → Int32) → x_S → (Nat → Int32) → Int32 → Int32 → Int32 → Int32 → Int32 → Int32 → Int32 → Int32 → Int32 → Option (Unit)) (row_c : (Nat → Int32)) (S : x_S) (strains_c : (Nat → Int32)) (x3 : Int32) (x4 : Int32) (x5 : Int32) (x6 : Int32) (x7 : Int32) (x8 : Int32) (x9 : Int32) (x10 : Int32) (x13 : Int32) : Option (Unit) :=
  k438 row_c S strains_c x3 x4 x5 x6 x7 x8 x9 x10 (x13 + (1 : Int32))
set_option maxHeartbeats 4000000 in
set_option maxRecDepth 100000 in
theorem w_L_law_b926 {sb : Nat} {xs : Nat → Int32} {G : x_G} {l : Launch} {a : Nat → Nat} {ar : Nat → Nat} {al : Nat → Nat} {af : Nat → Nat} {ax : Nat → Nat} {ad : Nat → Nat} {aq : Nat → Nat} {a_row : Nat → Nat} {a_strains : Nat → Nat} {L : Nat} {k438 : (Nat → Int32) → x_S → (Nat → Int32) → Int32 → Int32 → Int32 → Int32 → Int32 → Int32 → Int32 → Int32 → Int32 → Option (Unit)} {res : Unit} (hk438 : ∀ (row_c : (Nat → Int32)) (S : x_S) (strains_c : (Nat → Int32)) (x3 : Int32) (x4 : Int32) (x5 : Int32) (x6 : Int32) (x7 : Int32) (x8 : Int32) (x9 : Int32) (x10 : Int32) (x13 : Int32), k438 row_c S strains_c x3 x4 x5 x6 x7 x8 x9 x10 x13 = some res → X G l RL cL_law 38 room_1 (x_CL sb L xs) 42 883 438 [(0, .ref sb), (1, .ref (a 0)), (2, .ref (a_row 0)), (3, .int x3), (4, .int x4), (5, .int x5), (6, .int x6), (7, .int x7), (8, .int x8), (9, .int x9), (10, .int x10), (11, .ref (a_strains 0)), (13, .int x13)] [] ((WArr G a_row 38 row_c) ++ ((WLR G a ar al af ax ad aq S) ++ (WArr G a_strains 6 strains_c)))) (row_c : (Nat → Int32)) (S : x_S) (strains_c : (Nat → Int32)) (x3 : Int32) (x4 : Int32) (x5 : Int32) (x6 : Int32) (x7 : Int32) (x8 : Int32) (x9 : Int32) (x10 : Int32) (x13 : Int32) (h : M_L_law_b926 xs L k438 row_c S strains_c x3 x4 x5 x6 x7 x8 x9 x10 x13 = some res) : X G l RL cL_law 38 room_1 (x_CL sb L xs) 42 883 926 [(0, .ref sb), (1, .ref (a 0)), (2, .ref (a_row 0)), (3, .int x3), (4, .int x4), (5, .int x5), (6, .int x6), (7, .int x7), (8, .int x8), (9, .int x9), (10, .int x10), (11, .ref (a_strains 0)), (13, .int x13)] [] ((WArr G a_row 38 row_c) ++ ((WLR G a ar al af ax ad aq S) ++ (WArr G a_strains 6 strains_c))) := by
  unfold M_L_law_b926 at h
  refine x_iinc (j := 12) (1 : Int32) [(13, .int (x13 + (1 : Int32))), (0, .ref sb), (1, .ref (a 0)), (2, .ref (a_row 0)), (3, .int x3), (4, .int x4), (5, .int x5), (6, .int x6), (7, .int x7), (8, .int x8), (9, .int x9), (10, .int x10), (11, .ref (a_strains 0))] dL_law_926 (by decide) rfl (by decide) rfl ?_
  refine x_goto 438 dL_law_929 (by decide) ?_
  refine x_lv [1, 2, 3, 4, 5, 6, 7, 8, 9, 10, 11, 12, 0] rfl ?_
  exact hk438 _ _ _ _ _ _ _ _ _ _ _ _ h
def M_L_law_b888 (xs : Nat → Int32) (L : Nat) (k438 : (Nat → Int32) → x_S → (Nat → Int32) → Int32 → Int32 → Int32 → Int32 → Int32 → Int32 → Int32 → Int32 → Int32 → Option (Unit)) (row_c : (Nat → Int32)) (S : x_S) (strains_c : (Nat → Int32)) (x3 : Int32) (x4 : Int32) (x5 : Int32) (x6 : Int32) (x7 : Int32) (x8 : Int32) (x9 : Int32) (x10 : Int32) (x13 : Int32) (x20 : Int32) : Option (Unit) :=
  if x20 ≤ (1 : Int32) then
  (M_L_law_b926 xs L k438 row_c S strains_c x3 x4 x5 x6 x7 x8 x9 x10 x13)
  else
  (if (11 : Int32) ≤ x20 then
  (M_L_law_b926 xs L k438 row_c S strains_c x3 x4 x5 x6 x7 x8 x9 x10 x13)
  else
  ((M_LR_haul S x13 (x20 - (1 : Int32))).bind fun r157 =>
  if r157.1 = 0 then
  ((M_LR_undo r157.2 x5).bind fun r160 =>
  if r160.1 = (1 : Int32) then
  (M_L_law_b926 xs L k438 row_c r160.2 strains_c x3 x4 x5 x6 x7 x8 x9 x10 x13)
  else
  (none))
  else
  (none)))
set_option maxHeartbeats 4000000 in
set_option maxRecDepth 100000 in
theorem w_L_law_b888 {sb : Nat} {xs : Nat → Int32} {G : x_G} {l : Launch} {a : Nat → Nat} {ar : Nat → Nat} {al : Nat → Nat} {af : Nat → Nat} {ax : Nat → Nat} {ad : Nat → Nat} {aq : Nat → Nat} {a_row : Nat → Nat} {a_strains : Nat → Nat} {L : Nat} {k438 : (Nat → Int32) → x_S → (Nat → Int32) → Int32 → Int32 → Int32 → Int32 → Int32 → Int32 → Int32 → Int32 → Int32 → Option (Unit)} {res : Unit} (hk438 : ∀ (row_c : (Nat → Int32)) (S : x_S) (strains_c : (Nat → Int32)) (x3 : Int32) (x4 : Int32) (x5 : Int32) (x6 : Int32) (x7 : Int32) (x8 : Int32) (x9 : Int32) (x10 : Int32) (x13 : Int32), k438 row_c S strains_c x3 x4 x5 x6 x7 x8 x9 x10 x13 = some res → X G l RL cL_law 38 room_1 (x_CL sb L xs) 42 883 438 [(0, .ref sb), (1, .ref (a 0)), (2, .ref (a_row 0)), (3, .int x3), (4, .int x4), (5, .int x5), (6, .int x6), (7, .int x7), (8, .int x8), (9, .int x9), (10, .int x10), (11, .ref (a_strains 0)), (13, .int x13)] [] ((WArr G a_row 38 row_c) ++ ((WLR G a ar al af ax ad aq S) ++ (WArr G a_strains 6 strains_c)))) (row_c : (Nat → Int32)) (S : x_S) (strains_c : (Nat → Int32)) (x3 : Int32) (x4 : Int32) (x5 : Int32) (x6 : Int32) (x7 : Int32) (x8 : Int32) (x9 : Int32) (x10 : Int32) (x13 : Int32) (x20 : Int32) (h : M_L_law_b888 xs L k438 row_c S strains_c x3 x4 x5 x6 x7 x8 x9 x10 x13 x20 = some res) : X G l RL cL_law 38 room_1 (x_CL sb L xs) 42 883 888 [(0, .ref sb), (1, .ref (a 0)), (2, .ref (a_row 0)), (3, .int x3), (4, .int x4), (5, .int x5), (6, .int x6), (7, .int x7), (8, .int x8), (9, .int x9), (10, .int x10), (11, .ref (a_strains 0)), (13, .int x13), (20, .int x20)] [] ((WArr G a_row 38 row_c) ++ ((WLR G a ar al af ax ad aq S) ++ (WArr G a_strains 6 strains_c))) := by
  unfold M_L_law_b888 at h
  refine x_iload dL_law_888 13 rfl ?_
  refine x_iconst 1 dL_law_890 (by decide) ?_
  refine x_icmp_le 926 dL_law_891 (by decide) (fun c155 => ?_) (fun c155 => ?_)
  · have h := x_pos c155 h
    refine x_lv [0, 1, 2, 3, 4, 5, 6, 7, 8, 9, 10, 11, 12] rfl ?_
    exact w_L_law_b926 hk438 _ _ _ _ _ _ _ _ _ _ _ _ h
  · have h := x_neg c155 h
    refine x_iload dL_law_894 13 rfl ?_
    refine x_bipush 11 dL_law_896 (by decide) ?_
    refine x_icmp_ge 926 dL_law_898 (by decide) (fun c156 => ?_) (fun c156 => ?_)
    · have h := x_pos c156 h
      refine x_lv [0, 1, 2, 3, 4, 5, 6, 7, 8, 9, 10, 11, 12] rfl ?_
      exact w_L_law_b926 hk438 _ _ _ _ _ _ _ _ _ _ _ _ h
    · have h := x_neg c156 h
      refine x_aload_n dL_law_901 1 rfl rfl ?_
      refine x_iload dL_law_902 12 rfl ?_
      refine x_iload dL_law_904 13 rfl ?_
      refine x_iconst 1 dL_law_906 (by decide) ?_
      refine x_isub dL_law_907 ?_
      obtain ⟨r157, e158, h⟩ := x_bind h
      refine x_cV (As := [.int x13, .int (x20 - (1 : Int32))]) (wc := (WLR G a ar al af ax ad aq S)) (w1 := (WLR G a ar al af ax ad aq r157.2)) (pre := (WArr G a_row 38 row_c)) (post := (WArr G a_strains 6 strains_c)) (rest := []) (st1 := [.int r157.1]) (ws1 := ((WArr G a_row 38 row_c) ++ ((WLR G a ar al af ax ad aq r157.2) ++ (WArr G a_strains 6 strains_c)))) (ci := 4) 0 dL_law_908 (c_LR_haul (a := a) e158) pk_X6_haul ml_L_75 (by simp only [List.append_assoc, List.append_nil, List.nil_append]) rfl rfl rfl rfl rfl rfl rfl rfl (by simp only [List.append_assoc, List.append_nil, List.nil_append]) ?_
      refine x_if_ne 924 dL_law_911 (by decide) (fun c159 => ?_) (fun c159 => ?_)
      · have h := x_neg c159 h
        refine x_iconst 0 dL_law_924 (by decide) ?_
        cases h
      · have h := x_pos c159 h
        refine x_aload_n dL_law_914 1 rfl rfl ?_
        refine x_iload dL_law_915 5 rfl ?_
        obtain ⟨r160, e161, h⟩ := x_bind h
        refine x_cV (As := [.int x5]) (wc := (WLR G a ar al af ax ad aq r157.2)) (w1 := (WLR G a ar al af ax ad aq r160.2)) (pre := (WArr G a_row 38 row_c)) (post := (WArr G a_strains 6 strains_c)) (rest := []) (st1 := [.int r160.1]) (ws1 := ((WArr G a_row 38 row_c) ++ ((WLR G a ar al af ax ad aq r160.2) ++ (WArr G a_strains 6 strains_c)))) (ci := 4) 0 dL_law_917 (c_LR_undo (a := a) e161) pk_X6_undo ml_L_81 (by simp only [List.append_assoc, List.append_nil, List.nil_append]) rfl rfl rfl rfl rfl rfl rfl rfl (by simp only [List.append_assoc, List.append_nil, List.nil_append]) ?_
        refine x_iconst 1 dL_law_920 (by decide) ?_
        refine x_icmp_eq 926 dL_law_921 (by decide) (fun c162 => ?_) (fun c162 => ?_)
        · have h := x_pos c162 h
          refine x_lv [0, 1, 2, 3, 4, 5, 6, 7, 8, 9, 10, 11, 12] rfl ?_
          exact w_L_law_b926 hk438 _ _ _ _ _ _ _ _ _ _ _ _ h
        · have h := x_neg c162 h
          refine x_iconst 0 dL_law_924 (by decide) ?_
          cases h
def M_L_law_b837 (xs : Nat → Int32) (L : Nat) (k438 : (Nat → Int32) → x_S → (Nat → Int32) → Int32 → Int32 → Int32 → Int32 → Int32 → Int32 → Int32 → Int32 → Int32 → Option (Unit)) (row_c : (Nat → Int32)) (S : x_S) (strains_c : (Nat → Int32)) (x3 : Int32) (x4 : Int32) (x5 : Int32) (x6 : Int32) (x7 : Int32) (x8 : Int32) (x9 : Int32) (x10 : Int32) (x13 : Int32) (x20 : Int32) (x21 : Int32) : Option (Unit) :=
  if x20 ≤ 0 then
  (M_L_law_b888 xs L k438 row_c S strains_c x3 x4 x5 x6 x7 x8 x9 x10 x13 x20)
  else
  (if (10 : Int32) ≤ x20 then
  (M_L_law_b888 xs L k438 row_c S strains_c x3 x4 x5 x6 x7 x8 x9 x10 x13 x20)
  else
  ((M_LR_haul S x13 x20).bind fun r146 =>
  if r146.1 = (1 : Int32) then
  ((M_LR_count r146.2 (6 : Int32)).bind fun r149 =>
  if ((r149 >>> (x21 &&& (31 : Int32))) &&& (1 : Int32)) = (1 : Int32) then
  ((M_LR_undo r146.2 x5).bind fun r152 =>
  if r152.1 = (1 : Int32) then
  (M_L_law_b888 xs L k438 row_c r152.2 strains_c x3 x4 x5 x6 x7 x8 x9 x10 x13 x20)
  else
  (none))
  else
  (none))
  else
  (none)))
set_option maxHeartbeats 4000000 in
set_option maxRecDepth 100000 in
theorem w_L_law_b837 {sb : Nat} {xs : Nat → Int32} {G : x_G} {l : Launch} {a : Nat → Nat} {ar : Nat → Nat} {al : Nat → Nat} {af : Nat → Nat} {ax : Nat → Nat} {ad : Nat → Nat} {aq : Nat → Nat} {a_row : Nat → Nat} {a_strains : Nat → Nat} {L : Nat} {k438 : (Nat → Int32) → x_S → (Nat → Int32) → Int32 → Int32 → Int32 → Int32 → Int32 → Int32 → Int32 → Int32 → Int32 → Option (Unit)} {res : Unit} (hk438 : ∀ (row_c : (Nat → Int32)) (S : x_S) (strains_c : (Nat → Int32)) (x3 : Int32) (x4 : Int32) (x5 : Int32) (x6 : Int32) (x7 : Int32) (x8 : Int32) (x9 : Int32) (x10 : Int32) (x13 : Int32), k438 row_c S strains_c x3 x4 x5 x6 x7 x8 x9 x10 x13 = some res → X G l RL cL_law 38 room_1 (x_CL sb L xs) 42 883 438 [(0, .ref sb), (1, .ref (a 0)), (2, .ref (a_row 0)), (3, .int x3), (4, .int x4), (5, .int x5), (6, .int x6), (7, .int x7), (8, .int x8), (9, .int x9), (10, .int x10), (11, .ref (a_strains 0)), (13, .int x13)] [] ((WArr G a_row 38 row_c) ++ ((WLR G a ar al af ax ad aq S) ++ (WArr G a_strains 6 strains_c)))) (row_c : (Nat → Int32)) (S : x_S) (strains_c : (Nat → Int32)) (x3 : Int32) (x4 : Int32) (x5 : Int32) (x6 : Int32) (x7 : Int32) (x8 : Int32) (x9 : Int32) (x10 : Int32) (x13 : Int32) (x20 : Int32) (x21 : Int32) (h : M_L_law_b837 xs L k438 row_c S strains_c x3 x4 x5 x6 x7 x8 x9 x10 x13 x20 x21 = some res) : X G l RL cL_law 38 room_1 (x_CL sb L xs) 42 883 837 [(0, .ref sb), (1, .ref (a 0)), (2, .ref (a_row 0)), (3, .int x3), (4, .int x4), (5, .int x5), (6, .int x6), (7, .int x7), (8, .int x8), (9, .int x9), (10, .int x10), (11, .ref (a_strains 0)), (13, .int x13), (20, .int x20), (21, .int x21)] [] ((WArr G a_row 38 row_c) ++ ((WLR G a ar al af ax ad aq S) ++ (WArr G a_strains 6 strains_c))) := by
  unfold M_L_law_b837 at h
  refine x_iload dL_law_837 13 rfl ?_
  refine x_if_le 888 dL_law_839 (by decide) (fun c144 => ?_) (fun c144 => ?_)
  · have h := x_pos c144 h
    refine x_lv [0, 1, 2, 3, 4, 5, 6, 7, 8, 9, 10, 11, 12, 13] rfl ?_
    exact w_L_law_b888 hk438 _ _ _ _ _ _ _ _ _ _ _ _ _ h
  · have h := x_neg c144 h
    refine x_iload dL_law_842 13 rfl ?_
    refine x_bipush 10 dL_law_844 (by decide) ?_
    refine x_icmp_ge 888 dL_law_846 (by decide) (fun c145 => ?_) (fun c145 => ?_)
    · have h := x_pos c145 h
      refine x_lv [0, 1, 2, 3, 4, 5, 6, 7, 8, 9, 10, 11, 12, 13] rfl ?_
      exact w_L_law_b888 hk438 _ _ _ _ _ _ _ _ _ _ _ _ _ h
    · have h := x_neg c145 h
      refine x_aload_n dL_law_849 1 rfl rfl ?_
      refine x_iload dL_law_850 12 rfl ?_
      refine x_iload dL_law_852 13 rfl ?_
      obtain ⟨r146, e147, h⟩ := x_bind h
      refine x_cV (As := [.int x13, .int x20]) (wc := (WLR G a ar al af ax ad aq S)) (w1 := (WLR G a ar al af ax ad aq r146.2)) (pre := (WArr G a_row 38 row_c)) (post := (WArr G a_strains 6 strains_c)) (rest := []) (st1 := [.int r146.1]) (ws1 := ((WArr G a_row 38 row_c) ++ ((WLR G a ar al af ax ad aq r146.2) ++ (WArr G a_strains 6 strains_c)))) (ci := 4) 0 dL_law_854 (c_LR_haul (a := a) e147) pk_X6_haul ml_L_75 (by simp only [List.append_assoc, List.append_nil, List.nil_append]) rfl rfl rfl rfl rfl rfl rfl rfl (by simp only [List.append_assoc, List.append_nil, List.nil_append]) ?_
      refine x_iconst 1 dL_law_857 (by decide) ?_
      refine x_icmp_ne 886 dL_law_858 (by decide) (fun c148 => ?_) (fun c148 => ?_)
      · have h := x_neg c148 h
        refine x_iconst 0 dL_law_886 (by decide) ?_
        cases h
      · have h := x_pos c148 h
        refine x_aload_n dL_law_861 1 rfl rfl ?_
        refine x_bipush 6 dL_law_862 (by decide) ?_
        obtain ⟨r149, e150, h⟩ := x_bind h
        refine x_cV (As := [.int (6 : Int32)]) (wc := (WLR G a ar al af ax ad aq r146.2)) (w1 := (WLR G a ar al af ax ad aq r146.2)) (pre := (WArr G a_row 38 row_c)) (post := (WArr G a_strains 6 strains_c)) (rest := []) (st1 := [.int r149]) (ws1 := ((WArr G a_row 38 row_c) ++ ((WLR G a ar al af ax ad aq r146.2) ++ (WArr G a_strains 6 strains_c)))) (ci := 4) 0 dL_law_864 (c_LR_count (a := a) e150) pk_X6_count ml_L_62 (by simp only [List.append_assoc, List.append_nil, List.nil_append]) rfl rfl rfl rfl rfl rfl rfl rfl (by simp only [List.append_assoc, List.append_nil, List.nil_append]) ?_
        refine x_iload dL_law_867 14 rfl ?_
        refine x_ishr dL_law_869 ?_
        refine x_iconst 1 dL_law_870 (by decide) ?_
        refine x_iand dL_law_871 ?_
        refine x_iconst 1 dL_law_872 (by decide) ?_
        refine x_icmp_ne 886 dL_law_873 (by decide) (fun c151 => ?_) (fun c151 => ?_)
        · have h := x_neg c151 h
          refine x_iconst 0 dL_law_886 (by decide) ?_
          cases h
        · have h := x_pos c151 h
          refine x_aload_n dL_law_876 1 rfl rfl ?_
          refine x_iload dL_law_877 5 rfl ?_
          obtain ⟨r152, e153, h⟩ := x_bind h
          refine x_cV (As := [.int x5]) (wc := (WLR G a ar al af ax ad aq r146.2)) (w1 := (WLR G a ar al af ax ad aq r152.2)) (pre := (WArr G a_row 38 row_c)) (post := (WArr G a_strains 6 strains_c)) (rest := []) (st1 := [.int r152.1]) (ws1 := ((WArr G a_row 38 row_c) ++ ((WLR G a ar al af ax ad aq r152.2) ++ (WArr G a_strains 6 strains_c)))) (ci := 4) 0 dL_law_879 (c_LR_undo (a := a) e153) pk_X6_undo ml_L_81 (by simp only [List.append_assoc, List.append_nil, List.nil_append]) rfl rfl rfl rfl rfl rfl rfl rfl (by simp only [List.append_assoc, List.append_nil, List.nil_append]) ?_
          refine x_iconst 1 dL_law_882 (by decide) ?_
          refine x_icmp_eq 888 dL_law_883 (by decide) (fun c154 => ?_) (fun c154 => ?_)
          · have h := x_pos c154 h
            refine x_lv [0, 1, 2, 3, 4, 5, 6, 7, 8, 9, 10, 11, 12, 13] rfl ?_
            exact w_L_law_b888 hk438 _ _ _ _ _ _ _ _ _ _ _ _ _ h
          · have h := x_neg c154 h
            refine x_iconst 0 dL_law_886 (by decide) ?_
            cases h
def M_L_law_b824 (xs : Nat → Int32) (L : Nat) (k438 : (Nat → Int32) → x_S → (Nat → Int32) → Int32 → Int32 → Int32 → Int32 → Int32 → Int32 → Int32 → Int32 → Int32 → Option (Unit)) (row_c : (Nat → Int32)) (S : x_S) (strains_c : (Nat → Int32)) (x3 : Int32) (x4 : Int32) (x5 : Int32) (x6 : Int32) (x7 : Int32) (x8 : Int32) (x9 : Int32) (x10 : Int32) (x13 : Int32) (x20 : Int32) (x21 : Int32) : Option (Unit) :=
  if x21 < 0 then
  (none)
  else
  (if x21 < x3 then
  (M_L_law_b837 xs L k438 row_c S strains_c x3 x4 x5 x6 x7 x8 x9 x10 x13 x20 x21)
  else
  (none))
set_option maxHeartbeats 4000000 in
set_option maxRecDepth 100000 in
theorem w_L_law_b824 {sb : Nat} {xs : Nat → Int32} {G : x_G} {l : Launch} {a : Nat → Nat} {ar : Nat → Nat} {al : Nat → Nat} {af : Nat → Nat} {ax : Nat → Nat} {ad : Nat → Nat} {aq : Nat → Nat} {a_row : Nat → Nat} {a_strains : Nat → Nat} {L : Nat} {k438 : (Nat → Int32) → x_S → (Nat → Int32) → Int32 → Int32 → Int32 → Int32 → Int32 → Int32 → Int32 → Int32 → Int32 → Option (Unit)} {res : Unit} (hk438 : ∀ (row_c : (Nat → Int32)) (S : x_S) (strains_c : (Nat → Int32)) (x3 : Int32) (x4 : Int32) (x5 : Int32) (x6 : Int32) (x7 : Int32) (x8 : Int32) (x9 : Int32) (x10 : Int32) (x13 : Int32), k438 row_c S strains_c x3 x4 x5 x6 x7 x8 x9 x10 x13 = some res → X G l RL cL_law 38 room_1 (x_CL sb L xs) 42 883 438 [(0, .ref sb), (1, .ref (a 0)), (2, .ref (a_row 0)), (3, .int x3), (4, .int x4), (5, .int x5), (6, .int x6), (7, .int x7), (8, .int x8), (9, .int x9), (10, .int x10), (11, .ref (a_strains 0)), (13, .int x13)] [] ((WArr G a_row 38 row_c) ++ ((WLR G a ar al af ax ad aq S) ++ (WArr G a_strains 6 strains_c)))) (row_c : (Nat → Int32)) (S : x_S) (strains_c : (Nat → Int32)) (x3 : Int32) (x4 : Int32) (x5 : Int32) (x6 : Int32) (x7 : Int32) (x8 : Int32) (x9 : Int32) (x10 : Int32) (x13 : Int32) (x20 : Int32) (x21 : Int32) (h : M_L_law_b824 xs L k438 row_c S strains_c x3 x4 x5 x6 x7 x8 x9 x10 x13 x20 x21 = some res) : X G l RL cL_law 38 room_1 (x_CL sb L xs) 42 883 824 [(0, .ref sb), (1, .ref (a 0)), (2, .ref (a_row 0)), (3, .int x3), (4, .int x4), (5, .int x5), (6, .int x6), (7, .int x7), (8, .int x8), (9, .int x9), (10, .int x10), (11, .ref (a_strains 0)), (13, .int x13), (20, .int x20), (21, .int x21)] [] ((WArr G a_row 38 row_c) ++ ((WLR G a ar al af ax ad aq S) ++ (WArr G a_strains 6 strains_c))) := by
  unfold M_L_law_b824 at h
  refine x_iload dL_law_824 14 rfl ?_
  refine x_if_lt 835 dL_law_826 (by decide) (fun c142 => ?_) (fun c142 => ?_)
  · have h := x_pos c142 h
    refine x_iconst 0 dL_law_835 (by decide) ?_
    cases h
  · have h := x_neg c142 h
    refine x_iload dL_law_829 14 rfl ?_
    refine x_iload_n dL_law_831 3 rfl rfl ?_
    refine x_icmp_lt 837 dL_law_832 (by decide) (fun c143 => ?_) (fun c143 => ?_)
    · have h := x_pos c143 h
      exact w_L_law_b837 hk438 _ _ _ _ _ _ _ _ _ _ _ _ _ _ h
    · have h := x_neg c143 h
      refine x_iconst 0 dL_law_835 (by decide) ?_
      cases h
def M_L_law_b807 (xs : Nat → Int32) (L : Nat) (k438 : (Nat → Int32) → x_S → (Nat → Int32) → Int32 → Int32 → Int32 → Int32 → Int32 → Int32 → Int32 → Int32 → Int32 → Option (Unit)) (row_c : (Nat → Int32)) (S : x_S) (strains_c : (Nat → Int32)) (x3 : Int32) (x4 : Int32) (x5 : Int32) (x6 : Int32) (x7 : Int32) (x8 : Int32) (x9 : Int32) (x10 : Int32) (x13 : Int32) (x15 : Int32) (x17 : Int32) (x20 : Int32) (x21 : Int32) : Option (Unit) :=
  if x20 ≤ 0 then
  (M_L_law_b837 xs L k438 row_c S strains_c x3 x4 x5 x6 x7 x8 x9 x10 x13 x20 x21)
  else
  (if x20 ≤ x15 then
  (M_L_law_b824 xs L k438 row_c S strains_c x3 x4 x5 x6 x7 x8 x9 x10 x13 x20 x21)
  else
  (if 0 ≤ x17 then
  (none)
  else
  (M_L_law_b824 xs L k438 row_c S strains_c x3 x4 x5 x6 x7 x8 x9 x10 x13 x20 x21)))
set_option maxHeartbeats 4000000 in
set_option maxRecDepth 100000 in
theorem w_L_law_b807 {sb : Nat} {xs : Nat → Int32} {G : x_G} {l : Launch} {a : Nat → Nat} {ar : Nat → Nat} {al : Nat → Nat} {af : Nat → Nat} {ax : Nat → Nat} {ad : Nat → Nat} {aq : Nat → Nat} {a_row : Nat → Nat} {a_strains : Nat → Nat} {L : Nat} {k438 : (Nat → Int32) → x_S → (Nat → Int32) → Int32 → Int32 → Int32 → Int32 → Int32 → Int32 → Int32 → Int32 → Int32 → Option (Unit)} {res : Unit} (hk438 : ∀ (row_c : (Nat → Int32)) (S : x_S) (strains_c : (Nat → Int32)) (x3 : Int32) (x4 : Int32) (x5 : Int32) (x6 : Int32) (x7 : Int32) (x8 : Int32) (x9 : Int32) (x10 : Int32) (x13 : Int32), k438 row_c S strains_c x3 x4 x5 x6 x7 x8 x9 x10 x13 = some res → X G l RL cL_law 38 room_1 (x_CL sb L xs) 42 883 438 [(0, .ref sb), (1, .ref (a 0)), (2, .ref (a_row 0)), (3, .int x3), (4, .int x4), (5, .int x5), (6, .int x6), (7, .int x7), (8, .int x8), (9, .int x9), (10, .int x10), (11, .ref (a_strains 0)), (13, .int x13)] [] ((WArr G a_row 38 row_c) ++ ((WLR G a ar al af ax ad aq S) ++ (WArr G a_strains 6 strains_c)))) (row_c : (Nat → Int32)) (S : x_S) (strains_c : (Nat → Int32)) (x3 : Int32) (x4 : Int32) (x5 : Int32) (x6 : Int32) (x7 : Int32) (x8 : Int32) (x9 : Int32) (x10 : Int32) (x13 : Int32) (x15 : Int32) (x17 : Int32) (x20 : Int32) (x21 : Int32) (h : M_L_law_b807 xs L k438 row_c S strains_c x3 x4 x5 x6 x7 x8 x9 x10 x13 x15 x17 x20 x21 = some res) : X G l RL cL_law 38 room_1 (x_CL sb L xs) 42 883 807 [(0, .ref sb), (1, .ref (a 0)), (2, .ref (a_row 0)), (3, .int x3), (4, .int x4), (5, .int x5), (6, .int x6), (7, .int x7), (8, .int x8), (9, .int x9), (10, .int x10), (11, .ref (a_strains 0)), (13, .int x13), (15, .int x15), (17, .int x17), (20, .int x20), (21, .int x21)] [] ((WArr G a_row 38 row_c) ++ ((WLR G a ar al af ax ad aq S) ++ (WArr G a_strains 6 strains_c))) := by
  unfold M_L_law_b807 at h
  refine x_iload dL_law_807 15 rfl ?_
  refine x_if_le 837 dL_law_809 (by decide) (fun c139 => ?_) (fun c139 => ?_)
  · have h := x_pos c139 h
    refine x_lv [0, 1, 2, 3, 4, 5, 6, 7, 8, 9, 10, 11, 12, 15, 16] rfl ?_
    exact w_L_law_b837 hk438 _ _ _ _ _ _ _ _ _ _ _ _ _ _ h
  · have h := x_neg c139 h
    refine x_iload dL_law_812 15 rfl ?_
    refine x_iload dL_law_814 13 rfl ?_
    refine x_icmp_le 824 dL_law_816 (by decide) (fun c140 => ?_) (fun c140 => ?_)
    · have h := x_pos c140 h
      refine x_lv [0, 1, 2, 3, 4, 5, 6, 7, 8, 9, 10, 11, 12, 15, 16] rfl ?_
      exact w_L_law_b824 hk438 _ _ _ _ _ _ _ _ _ _ _ _ _ _ h
    · have h := x_neg c140 h
      refine x_iload dL_law_819 14 rfl ?_
      refine x_if_ge 835 dL_law_821 (by decide) (fun c141 => ?_) (fun c141 => ?_)
      · have h := x_pos c141 h
        refine x_iconst 0 dL_law_835 (by decide) ?_
        cases h
      · have h := x_neg c141 h
        refine x_lv [0, 1, 2, 3, 4, 5, 6, 7, 8, 9, 10, 11, 12, 15, 16] rfl ?_
        exact w_L_law_b824 hk438 _ _ _ _ _ _ _ _ _ _ _ _ _ _ h
def M_L_law_b757 (xs : Nat → Int32) (L : Nat) (k438 : (Nat → Int32) → x_S → (Nat → Int32) → Int32 → Int32 → Int32 → Int32 → Int32 → Int32 → Int32 → Int32 → Int32 → Option (Unit)) (row_c : (Nat → Int32)) (S : x_S) (strains_c : (Nat → Int32)) (x3 : Int32) (x4 : Int32) (x5 : Int32) (x6 : Int32) (x7 : Int32) (x8 : Int32) (x9 : Int32) (x10 : Int32) (x13 : Int32) (x15 : Int32) (x17 : Int32) : Option (Unit) :=
  (M_LR_undo S x5).bind fun r128 =>
  if r128.1 = (1 : Int32) then
  ((M_LR_parts r128.2 x13).bind fun r131 =>
  (M_LR_asked r131.2).bind fun r133 =>
  if r131.1 = 0 then
  (none)
  else
  (if (20 : Int32) < r131.1 then
  (none)
  else
  (if r131.1 = (-9 : Int32) then
  (if 0 ≤ x17 then
  (none)
  else
  (M_L_law_b807 xs L k438 row_c r131.2 strains_c x3 x4 x5 x6 x7 x8 x9 x10 x13 x15 x17 r131.1 r133))
  else
  (M_L_law_b807 xs L k438 row_c r131.2 strains_c x3 x4 x5 x6 x7 x8 x9 x10 x13 x15 x17 r131.1 r133))))
  else
  (none)
set_option maxHeartbeats 4000000 in
set_option maxRecDepth 100000 in
theorem w_L_law_b757 {sb : Nat} {xs : Nat → Int32} {G : x_G} {l : Launch} {a : Nat → Nat} {ar : Nat → Nat} {al : Nat → Nat} {af : Nat → Nat} {ax : Nat → Nat} {ad : Nat → Nat} {aq : Nat → Nat} {a_row : Nat → Nat} {a_strains : Nat → Nat} {L : Nat} {k438 : (Nat → Int32) → x_S → (Nat → Int32) → Int32 → Int32 → Int32 → Int32 → Int32 → Int32 → Int32 → Int32 → Int32 → Option (Unit)} {res : Unit} (hk438 : ∀ (row_c : (Nat → Int32)) (S : x_S) (strains_c : (Nat → Int32)) (x3 : Int32) (x4 : Int32) (x5 : Int32) (x6 : Int32) (x7 : Int32) (x8 : Int32) (x9 : Int32) (x10 : Int32) (x13 : Int32), k438 row_c S strains_c x3 x4 x5 x6 x7 x8 x9 x10 x13 = some res → X G l RL cL_law 38 room_1 (x_CL sb L xs) 42 883 438 [(0, .ref sb), (1, .ref (a 0)), (2, .ref (a_row 0)), (3, .int x3), (4, .int x4), (5, .int x5), (6, .int x6), (7, .int x7), (8, .int x8), (9, .int x9), (10, .int x10), (11, .ref (a_strains 0)), (13, .int x13)] [] ((WArr G a_row 38 row_c) ++ ((WLR G a ar al af ax ad aq S) ++ (WArr G a_strains 6 strains_c)))) (row_c : (Nat → Int32)) (S : x_S) (strains_c : (Nat → Int32)) (x3 : Int32) (x4 : Int32) (x5 : Int32) (x6 : Int32) (x7 : Int32) (x8 : Int32) (x9 : Int32) (x10 : Int32) (x13 : Int32) (x15 : Int32) (x17 : Int32) (h : M_L_law_b757 xs L k438 row_c S strains_c x3 x4 x5 x6 x7 x8 x9 x10 x13 x15 x17 = some res) : X G l RL cL_law 38 room_1 (x_CL sb L xs) 42 883 757 [(0, .ref sb), (1, .ref (a 0)), (2, .ref (a_row 0)), (3, .int x3), (4, .int x4), (5, .int x5), (6, .int x6), (7, .int x7), (8, .int x8), (9, .int x9), (10, .int x10), (11, .ref (a_strains 0)), (13, .int x13), (15, .int x15), (17, .int x17)] [] ((WArr G a_row 38 row_c) ++ ((WLR G a ar al af ax ad aq S) ++ (WArr G a_strains 6 strains_c))) := by
  unfold M_L_law_b757 at h
  refine x_aload_n dL_law_757 1 rfl rfl ?_
  refine x_iload dL_law_758 5 rfl ?_
  obtain ⟨r128, e129, h⟩ := x_bind h
  refine x_cV (As := [.int x5]) (wc := (WLR G a ar al af ax ad aq S)) (w1 := (WLR G a ar al af ax ad aq r128.2)) (pre := (WArr G a_row 38 row_c)) (post := (WArr G a_strains 6 strains_c)) (rest := []) (st1 := [.int r128.1]) (ws1 := ((WArr G a_row 38 row_c) ++ ((WLR G a ar al af ax ad aq r128.2) ++ (WArr G a_strains 6 strains_c)))) (ci := 4) 0 dL_law_760 (c_LR_undo (a := a) e129) pk_X6_undo ml_L_81 (by simp only [List.append_assoc, List.append_nil, List.nil_append]) rfl rfl rfl rfl rfl rfl rfl rfl (by simp only [List.append_assoc, List.append_nil, List.nil_append]) ?_
  refine x_iconst 1 dL_law_763 (by decide) ?_
  refine x_icmp_eq 769 dL_law_764 (by decide) (fun c130 => ?_) (fun c130 => ?_)
  · have h := x_pos c130 h
    refine x_aload_n dL_law_769 1 rfl rfl ?_
    refine x_iload dL_law_770 12 rfl ?_
    obtain ⟨r131, e132, h⟩ := x_bind h
    refine x_cV (As := [.int x13]) (wc := (WLR G a ar al af ax ad aq r128.2)) (w1 := (WLR G a ar al af ax ad aq r131.2)) (pre := (WArr G a_row 38 row_c)) (post := (WArr G a_strains 6 strains_c)) (rest := []) (st1 := [.int r131.1]) (ws1 := ((WArr G a_row 38 row_c) ++ ((WLR G a ar al af ax ad aq r131.2) ++ (WArr G a_strains 6 strains_c)))) (ci := 4) 0 dL_law_772 (c_LR_parts (a := a) e132) pk_X6_parts ml_L_78 (by simp only [List.append_assoc, List.append_nil, List.nil_append]) rfl rfl rfl rfl rfl rfl rfl rfl (by simp only [List.append_assoc, List.append_nil, List.nil_append]) ?_
    refine x_istore [(20, .int r131.1), (0, .ref sb), (1, .ref (a 0)), (2, .ref (a_row 0)), (3, .int x3), (4, .int x4), (5, .int x5), (6, .int x6), (7, .int x7), (8, .int x8), (9, .int x9), (10, .int x10), (11, .ref (a_strains 0)), (13, .int x13), (15, .int x15), (17, .int x17)] dL_law_775 (by decide) rfl ?_
    refine x_aload_n dL_law_777 2 rfl rfl ?_
    obtain ⟨r133, e134, h⟩ := x_bind h
    refine x_cV (As := []) (wc := (WLR G a ar al af ax ad aq r131.2)) (w1 := (WLR G a ar al af ax ad aq r131.2)) (pre := (WArr G a_row 38 row_c)) (post := (WArr G a_strains 6 strains_c)) (rest := []) (st1 := [.int r133]) (ws1 := ((WArr G a_row 38 row_c) ++ ((WLR G a ar al af ax ad aq r131.2) ++ (WArr G a_strains 6 strains_c)))) (ci := 4) 0 dL_law_778 (c_LR_asked (a := a) e134) pk_X6_asked ml_L_42 (by simp only [List.append_assoc, List.append_nil, List.nil_append]) rfl rfl rfl rfl rfl rfl rfl rfl (by simp only [List.append_assoc, List.append_nil, List.nil_append]) ?_
    refine x_istore [(21, .int r133), (20, .int r131.1), (0, .ref sb), (1, .ref (a 0)), (2, .ref (a_row 0)), (3, .int x3), (4, .int x4), (5, .int x5), (6, .int x6), (7, .int x7), (8, .int x8), (9, .int x9), (10, .int x10), (11, .ref (a_strains 0)), (13, .int x13), (15, .int x15), (17, .int x17)] dL_law_781 (by decide) rfl ?_
    refine x_iload dL_law_783 1 rfl ?_
    refine x_if_eq 835 dL_law_785 (by decide) (fun c135 => ?_) (fun c135 => ?_)
    · have h := x_pos c135 h
      refine x_iconst 0 dL_law_835 (by decide) ?_
      cases h
    · have h := x_neg c135 h
      refine x_iload dL_law_788 1 rfl ?_
      refine x_bipush 20 dL_law_790 (by decide) ?_
      refine x_icmp_gt 835 dL_law_792 (by decide) (fun c136 => ?_) (fun c136 => ?_)
      · have h := x_pos c136 h
        refine x_iconst 0 dL_law_835 (by decide) ?_
        cases h
      · have h := x_neg c136 h
        refine x_iload dL_law_795 1 rfl ?_
        refine x_bipush (-9 : Int32) dL_law_797 (by decide) ?_
        refine x_icmp_ne 807 dL_law_799 (by decide) (fun c137 => ?_) (fun c137 => ?_)
        · have h := x_neg c137 h
          refine x_lv [2, 3, 4, 5, 6, 7, 8, 9, 10, 11, 12, 13, 14, 15, 16, 1, 0] rfl ?_
          exact w_L_law_b807 hk438 _ _ _ _ _ _ _ _ _ _ _ _ _ _ _ _ h
        · have h := x_pos c137 h
          refine x_iload dL_law_802 16 rfl ?_
          refine x_if_ge 835 dL_law_804 (by decide) (fun c138 => ?_) (fun c138 => ?_)
          · have h := x_pos c138 h
            refine x_iconst 0 dL_law_835 (by decide) ?_
            cases h
          · have h := x_neg c138 h
            refine x_lv [2, 3, 4, 5, 6, 7, 8, 9, 10, 11, 12, 13, 14, 15, 16, 1, 0] rfl ?_
            exact w_L_law_b807 hk438 _ _ _ _ _ _ _ _ _ _ _ _ _ _ _ _ h
  · have h := x_neg c130 h
    refine x_iconst 0 dL_law_767 (by decide) ?_
    cases h
def M_L_law_b638 (xs : Nat → Int32) (L : Nat) (k438 : (Nat → Int32) → x_S → (Nat → Int32) → Int32 → Int32 → Int32 → Int32 → Int32 → Int32 → Int32 → Int32 → Int32 → Option (Unit)) : Nat → (Nat → Int32) → x_S → (Nat → Int32) → Int32 → Int32 → Int32 → Int32 → Int32 → Int32 → Int32 → Int32 → Int32 → Int32 → Int32 → Int32 → Int32 → Int32 → Option (Unit)
  | 0, _, _, _, _, _, _, _, _, _, _, _, _, _, _, _, _, _ => none
  | n + 1, row_c, S, strains_c, x3, x4, x5, x6, x7, x8, x9, x10, x13, x15, x16, x17, x19, x20 =>
    if x3 ≤ x20 then
    (if 0 ≤ x17 then
    (M_L_law_b757 xs L k438 row_c S strains_c x3 x4 x5 x6 x7 x8 x9 x10 x13 x15 x17)
    else
    (if x19 < x15 then
    (none)
    else
    (M_L_law_b757 xs L k438 row_c S strains_c x3 x4 x5 x6 x7 x8 x9 x10 x13 x15 x17)))
    else
    ((M_L_told S x20 (3 : Int32)).bind fun r115 =>
    if x20 = x17 then
    (M_L_law_b674 xs L k438 (fun (row_c' : (Nat → Int32)) (S' : x_S) (strains_c' : (Nat → Int32)) (x3' : Int32) (x4' : Int32) (x5' : Int32) (x6' : Int32) (x7' : Int32) (x8' : Int32) (x9' : Int32) (x10' : Int32) (x13' : Int32) (x15' : Int32) (x16' : Int32) (x17' : Int32) (x19' : Int32) (x20' : Int32) => M_L_law_b638 xs L k438 n row_c' S' strains_c' x3' x4' x5' x6' x7' x8' x9' x10' x13' x15' x16' x17' x19' x20') row_c r115.2 strains_c x3 x4 x5 x6 x7 x8 x9 x10 x13 x15 x16 x17 x20 r115.1 x19 (0 : Int32))
    else
    (if inb x20 6 then
    M_L_law_b674 xs L k438 (fun (row_c' : (Nat → Int32)) (S' : x_S) (strains_c' : (Nat → Int32)) (x3' : Int32) (x4' : Int32) (x5' : Int32) (x6' : Int32) (x7' : Int32) (x8' : Int32) (x9' : Int32) (x10' : Int32) (x13' : Int32) (x15' : Int32) (x16' : Int32) (x17' : Int32) (x19' : Int32) (x20' : Int32) => M_L_law_b638 xs L k438 n row_c' S' strains_c' x3' x4' x5' x6' x7' x8' x9' x10' x13' x15' x16' x17' x19' x20') row_c r115.2 strains_c x3 x4 x5 x6 x7 x8 x9 x10 x13 x15 x16 x17 x20 r115.1 x19 (r115.1 - (strains_c x20.toNatClampNeg))
    else none))
set_option maxHeartbeats 4000000 in
set_option maxRecDepth 100000 in
theorem w_L_law_b638 {sb : Nat} {xs : Nat → Int32} {G : x_G} {l : Launch} {a : Nat → Nat} {ar : Nat → Nat} {al : Nat → Nat} {af : Nat → Nat} {ax : Nat → Nat} {ad : Nat → Nat} {aq : Nat → Nat} {a_row : Nat → Nat} {a_strains : Nat → Nat} {L : Nat} {k438 : (Nat → Int32) → x_S → (Nat → Int32) → Int32 → Int32 → Int32 → Int32 → Int32 → Int32 → Int32 → Int32 → Int32 → Option (Unit)} {res : Unit} (hk438 : ∀ (row_c : (Nat → Int32)) (S : x_S) (strains_c : (Nat → Int32)) (x3 : Int32) (x4 : Int32) (x5 : Int32) (x6 : Int32) (x7 : Int32) (x8 : Int32) (x9 : Int32) (x10 : Int32) (x13 : Int32), k438 row_c S strains_c x3 x4 x5 x6 x7 x8 x9 x10 x13 = some res → X G l RL cL_law 38 room_1 (x_CL sb L xs) 42 883 438 [(0, .ref sb), (1, .ref (a 0)), (2, .ref (a_row 0)), (3, .int x3), (4, .int x4), (5, .int x5), (6, .int x6), (7, .int x7), (8, .int x8), (9, .int x9), (10, .int x10), (11, .ref (a_strains 0)), (13, .int x13)] [] ((WArr G a_row 38 row_c) ++ ((WLR G a ar al af ax ad aq S) ++ (WArr G a_strains 6 strains_c)))) : ∀ (n : Nat) (row_c : (Nat → Int32)) (S : x_S) (strains_c : (Nat → Int32)) (x3 : Int32) (x4 : Int32) (x5 : Int32) (x6 : Int32) (x7 : Int32) (x8 : Int32) (x9 : Int32) (x10 : Int32) (x13 : Int32) (x15 : Int32) (x16 : Int32) (x17 : Int32) (x19 : Int32) (x20 : Int32), M_L_law_b638 xs L k438 n row_c S strains_c x3 x4 x5 x6 x7 x8 x9 x10 x13 x15 x16 x17 x19 x20 = some res → X G l RL cL_law 38 room_1 (x_CL sb L xs) 42 883 638 [(0, .ref sb), (1, .ref (a 0)), (2, .ref (a_row 0)), (3, .int x3), (4, .int x4), (5, .int x5), (6, .int x6), (7, .int x7), (8, .int x8), (9, .int x9), (10, .int x10), (11, .ref (a_strains 0)), (13, .int x13), (15, .int x15), (16, .int x16), (17, .int x17), (19, .int x19), (20, .int x20)] [] ((WArr G a_row 38 row_c) ++ ((WLR G a ar al af ax ad aq S) ++ (WArr G a_strains 6 strains_c))) := by
  intro n
  induction n with
  | zero =>
    intro _ _ _ _ _ _ _ _ _ _ _ _ _ _ _ _ _ h
    cases h
  | succ n ih =>
    intro row_c S strains_c x3 x4 x5 x6 x7 x8 x9 x10 x13 x15 x16 x17 x19 x20 h
    rw [M_L_law_b638] at h
    refine x_iload dL_law_638 17 rfl ?_
    refine x_iload_n dL_law_640 3 rfl rfl ?_
    refine x_icmp_ge 745 dL_law_641 (by decide) (fun c112 => ?_) (fun c112 => ?_)
    · have h := x_pos c112 h
      refine x_iload dL_law_745 15 rfl ?_
      refine x_if_ge 757 dL_law_747 (by decide) (fun c113 => ?_) (fun c113 => ?_)
      · have h := x_pos c113 h
        refine x_lv [0, 1, 2, 3, 4, 5, 6, 7, 8, 9, 10, 11, 12, 13, 15] rfl ?_
        exact w_L_law_b757 hk438 _ _ _ _ _ _ _ _ _ _ _ _ _ _ h
      · have h := x_neg c113 h
        refine x_iload dL_law_750 16 rfl ?_
        refine x_iload dL_law_752 13 rfl ?_
        refine x_icmp_lt 767 dL_law_754 (by decide) (fun c114 => ?_) (fun c114 => ?_)
        · have h := x_pos c114 h
          refine x_iconst 0 dL_law_767 (by decide) ?_
          cases h
        · have h := x_neg c114 h
          refine x_lv [0, 1, 2, 3, 4, 5, 6, 7, 8, 9, 10, 11, 12, 13, 15] rfl ?_
          exact w_L_law_b757 hk438 _ _ _ _ _ _ _ _ _ _ _ _ _ _ h
    · have h := x_neg c112 h
      refine x_aload_n dL_law_644 1 rfl rfl ?_
      refine x_iload dL_law_645 17 rfl ?_
      refine x_iconst 3 dL_law_647 (by decide) ?_
      obtain ⟨r115, e116, h⟩ := x_bind h
      refine x_cS (As := [.ref (a 0), .int x20, .int (3 : Int32)]) (wc := (WLR G a ar al af ax ad aq S)) (w1 := (WLR G a ar al af ax ad aq r115.2)) (pre := (WArr G a_row 38 row_c)) (post := (WArr G a_strains 6 strains_c)) (rest := []) (st1 := [.int r115.1]) (ws1 := ((WArr G a_row 38 row_c) ++ ((WLR G a ar al af ax ad aq r115.2) ++ (WArr G a_strains 6 strains_c)))) dL_law_648 (c_L_told (a := a) e116) pk_L_told ml_L_68 (by simp only [List.append_assoc, List.append_nil, List.nil_append]) rfl rfl rfl rfl rfl (by simp only [List.append_assoc, List.append_nil, List.nil_append]) ?_
      refine x_istore [(21, .int r115.1), (0, .ref sb), (1, .ref (a 0)), (2, .ref (a_row 0)), (3, .int x3), (4, .int x4), (5, .int x5), (6, .int x6), (7, .int x7), (8, .int x8), (9, .int x9), (10, .int x10), (11, .ref (a_strains 0)), (13, .int x13), (15, .int x15), (16, .int x16), (17, .int x17), (19, .int x19), (20, .int x20)] dL_law_651 (by decide) rfl ?_
      refine x_iload dL_law_653 17 rfl ?_
      refine x_iload dL_law_655 18 rfl ?_
      refine x_iload dL_law_657 16 rfl ?_
      refine x_icmp_ne 666 dL_law_659 (by decide) (fun c117 => ?_) (fun c117 => ?_)
      · have h := x_neg c117 h
        refine x_iload dL_law_666 0 rfl ?_
        refine x_aload dL_law_668 12 rfl ?_
        refine x_iload dL_law_670 18 rfl ?_
        obtain ⟨b118, h⟩ := x_guard h
        refine x_iald x20.toNatClampNeg (q0 := 41) dL_law_672 rfl rfl b118 ?_
        refine x_isub dL_law_673 ?_
        refine x_lv [1, 2, 3, 4, 5, 6, 7, 8, 9, 10, 11, 12, 13, 14, 15, 16, 18, 0] rfl ?_
        exact w_L_law_b674 hk438 (fun row_c' S' strains_c' x3' x4' x5' x6' x7' x8' x9' x10' x13' x15' x16' x17' x19' x20' h => ih row_c' S' strains_c' x3' x4' x5' x6' x7' x8' x9' x10' x13' x15' x16' x17' x19' x20' h) _ _ _ _ _ _ _ _ _ _ _ _ _ _ _ _ _ _ _ h
      · have h := x_pos c117 h
        refine x_iconst 0 dL_law_662 (by decide) ?_
        refine x_goto 674 dL_law_663 (by decide) ?_
        refine x_lv [1, 2, 3, 4, 5, 6, 7, 8, 9, 10, 11, 12, 13, 14, 15, 16, 18, 0] rfl ?_
        exact w_L_law_b674 hk438 (fun row_c' S' strains_c' x3' x4' x5' x6' x7' x8' x9' x10' x13' x15' x16' x17' x19' x20' h => ih row_c' S' strains_c' x3' x4' x5' x6' x7' x8' x9' x10' x13' x15' x16' x17' x19' x20' h) _ _ _ _ _ _ _ _ _ _ _ _ _ _ _ _ _ _ _ h
def M_L_law_b635 (xs : Nat → Int32) (L : Nat) (k438 : (Nat → Int32) → x_S → (Nat → Int32) → Int32 → Int32 → Int32 → Int32 → Int32 → Int32 → Int32 → Int32 → Int32 → Option (Unit)) (row_c : (Nat → Int32)) (S : x_S) (strains_c : (Nat → Int32)) (x3 : Int32) (x4 : Int32) (x5 : Int32) (x6 : Int32) (x7 : Int32) (x8 : Int32) (x9 : Int32) (x10 : Int32) (x13 : Int32) (x15 : Int32) (x16 : Int32) (x17 : Int32) (x19 : Int32) : Option (Unit) :=
  M_L_law_b638 xs L k438 x_fuel row_c S strains_c x3 x4 x5 x6 x7 x8 x9 x10 x13 x15 x16 x17 x19 (0 : Int32)
set_option maxHeartbeats 4000000 in
set_option maxRecDepth 100000 in
theorem w_L_law_b635 {sb : Nat} {xs : Nat → Int32} {G : x_G} {l : Launch} {a : Nat → Nat} {ar : Nat → Nat} {al : Nat → Nat} {af : Nat → Nat} {ax : Nat → Nat} {ad : Nat → Nat} {aq : Nat → Nat} {a_row : Nat → Nat} {a_strains : Nat → Nat} {L : Nat} {k438 : (Nat → Int32) → x_S → (Nat → Int32) → Int32 → Int32 → Int32 → Int32 → Int32 → Int32 → Int32 → Int32 → Int32 → Option (Unit)} {res : Unit} (hk438 : ∀ (row_c : (Nat → Int32)) (S : x_S) (strains_c : (Nat → Int32)) (x3 : Int32) (x4 : Int32) (x5 : Int32) (x6 : Int32) (x7 : Int32) (x8 : Int32) (x9 : Int32) (x10 : Int32) (x13 : Int32), k438 row_c S strains_c x3 x4 x5 x6 x7 x8 x9 x10 x13 = some res → X G l RL cL_law 38 room_1 (x_CL sb L xs) 42 883 438 [(0, .ref sb), (1, .ref (a 0)), (2, .ref (a_row 0)), (3, .int x3), (4, .int x4), (5, .int x5), (6, .int x6), (7, .int x7), (8, .int x8), (9, .int x9), (10, .int x10), (11, .ref (a_strains 0)), (13, .int x13)] [] ((WArr G a_row 38 row_c) ++ ((WLR G a ar al af ax ad aq S) ++ (WArr G a_strains 6 strains_c)))) (row_c : (Nat → Int32)) (S : x_S) (strains_c : (Nat → Int32)) (x3 : Int32) (x4 : Int32) (x5 : Int32) (x6 : Int32) (x7 : Int32) (x8 : Int32) (x9 : Int32) (x10 : Int32) (x13 : Int32) (x15 : Int32) (x16 : Int32) (x17 : Int32) (x19 : Int32) (h : M_L_law_b635 xs L k438 row_c S strains_c x3 x4 x5 x6 x7 x8 x9 x10 x13 x15 x16 x17 x19 = some res) : X G l RL cL_law 38 room_1 (x_CL sb L xs) 42 883 635 [(0, .ref sb), (1, .ref (a 0)), (2, .ref (a_row 0)), (3, .int x3), (4, .int x4), (5, .int x5), (6, .int x6), (7, .int x7), (8, .int x8), (9, .int x9), (10, .int x10), (11, .ref (a_strains 0)), (13, .int x13), (15, .int x15), (16, .int x16), (17, .int x17), (19, .int x19)] [] ((WArr G a_row 38 row_c) ++ ((WLR G a ar al af ax ad aq S) ++ (WArr G a_strains 6 strains_c))) := by
  unfold M_L_law_b635 at h
  refine x_iconst 0 dL_law_635 (by decide) ?_
  refine x_istore [(20, .int (0 : Int32)), (0, .ref sb), (1, .ref (a 0)), (2, .ref (a_row 0)), (3, .int x3), (4, .int x4), (5, .int x5), (6, .int x6), (7, .int x7), (8, .int x8), (9, .int x9), (10, .int x10), (11, .ref (a_strains 0)), (13, .int x13), (15, .int x15), (16, .int x16), (17, .int x17), (19, .int x19)] dL_law_636 (by decide) rfl ?_
  refine x_lv [1, 2, 3, 4, 5, 6, 7, 8, 9, 10, 11, 12, 13, 14, 15, 16, 17, 0] rfl ?_
  exact w_L_law_b638 hk438 _ _ _ _ _ _ _ _ _ _ _ _ _ _ _ _ _ _ h
def M_L_law_b603 (xs : Nat → Int32) (L : Nat) (k438 : (Nat → Int32) → x_S → (Nat → Int32) → Int32 → Int32 → Int32 → Int32 → Int32 → Int32 → Int32 → Int32 → Int32 → Option (Unit)) (row_c : (Nat → Int32)) (S : x_S) (strains_c : (Nat → Int32)) (x3 : Int32) (x4 : Int32) (x5 : Int32) (x6 : Int32) (x7 : Int32) (x8 : Int32) (x9 : Int32) (x10 : Int32) (x13 : Int32) (x15 : Int32) (x16 : Int32) (x17 : Int32) (x19 : Int32) (s0 : Int32) (s1 : Int32) : Option (Unit) :=
  if s0 = s1 then
  (if ((x16 >>> (x13 &&& (31 : Int32))) &&& (1 : Int32)) = (1 : Int32) then
  (if x17 < 0 then
  (M_L_law_b635 xs L k438 row_c S strains_c x3 x4 x5 x6 x7 x8 x9 x10 x13 x15 x16 x17 x19)
  else
  (if ((x16 >>> (x17 &&& (31 : Int32))) &&& (1 : Int32)) = (1 : Int32) then
  (M_L_law_b635 xs L k438 row_c S strains_c x3 x4 x5 x6 x7 x8 x9 x10 x13 x15 x16 x17 x19)
  else
  (none)))
  else
  (none))
  else
  (none)
set_option maxHeartbeats 4000000 in
set_option maxRecDepth 100000 in
theorem w_L_law_b603 {sb : Nat} {xs : Nat → Int32} {G : x_G} {l : Launch} {a : Nat → Nat} {ar : Nat → Nat} {al : Nat → Nat} {af : Nat → Nat} {ax : Nat → Nat} {ad : Nat → Nat} {aq : Nat → Nat} {a_row : Nat → Nat} {a_strains : Nat → Nat} {L : Nat} {k438 : (Nat → Int32) → x_S → (Nat → Int32) → Int32 → Int32 → Int32 → Int32 → Int32 → Int32 → Int32 → Int32 → Int32 → Option (Unit)} {res : Unit} (hk438 : ∀ (row_c : (Nat → Int32)) (S : x_S) (strains_c : (Nat → Int32)) (x3 : Int32) (x4 : Int32) (x5 : Int32) (x6 : Int32) (x7 : Int32) (x8 : Int32) (x9 : Int32) (x10 : Int32) (x13 : Int32), k438 row_c S strains_c x3 x4 x5 x6 x7 x8 x9 x10 x13 = some res → X G l RL cL_law 38 room_1 (x_CL sb L xs) 42 883 438 [(0, .ref sb), (1, .ref (a 0)), (2, .ref (a_row 0)), (3, .int x3), (4, .int x4), (5, .int x5), (6, .int x6), (7, .int x7), (8, .int x8), (9, .int x9), (10, .int x10), (11, .ref (a_strains 0)), (13, .int x13)] [] ((WArr G a_row 38 row_c) ++ ((WLR G a ar al af ax ad aq S) ++ (WArr G a_strains 6 strains_c)))) (row_c : (Nat → Int32)) (S : x_S) (strains_c : (Nat → Int32)) (x3 : Int32) (x4 : Int32) (x5 : Int32) (x6 : Int32) (x7 : Int32) (x8 : Int32) (x9 : Int32) (x10 : Int32) (x13 : Int32) (x15 : Int32) (x16 : Int32) (x17 : Int32) (x19 : Int32) (s0 : Int32) (s1 : Int32) (h : M_L_law_b603 xs L k438 row_c S strains_c x3 x4 x5 x6 x7 x8 x9 x10 x13 x15 x16 x17 x19 s0 s1 = some res) : X G l RL cL_law 38 room_1 (x_CL sb L xs) 42 883 603 [(0, .ref sb), (1, .ref (a 0)), (2, .ref (a_row 0)), (3, .int x3), (4, .int x4), (5, .int x5), (6, .int x6), (7, .int x7), (8, .int x8), (9, .int x9), (10, .int x10), (11, .ref (a_strains 0)), (13, .int x13), (15, .int x15), (16, .int x16), (17, .int x17), (19, .int x19)] [.int s1, .int s0] ((WArr G a_row 38 row_c) ++ ((WLR G a ar al af ax ad aq S) ++ (WArr G a_strains 6 strains_c))) := by
  unfold M_L_law_b603 at h
  refine x_icmp_ne 633 dL_law_603 (by decide) (fun c108 => ?_) (fun c108 => ?_)
  · have h := x_neg c108 h
    refine x_iconst 0 dL_law_633 (by decide) ?_
    cases h
  · have h := x_pos c108 h
    refine x_iload dL_law_606 14 rfl ?_
    refine x_iload dL_law_608 12 rfl ?_
    refine x_ishr dL_law_610 ?_
    refine x_iconst 1 dL_law_611 (by decide) ?_
    refine x_iand dL_law_612 ?_
    refine x_iconst 1 dL_law_613 (by decide) ?_
    refine x_icmp_ne 633 dL_law_614 (by decide) (fun c109 => ?_) (fun c109 => ?_)
    · have h := x_neg c109 h
      refine x_iconst 0 dL_law_633 (by decide) ?_
      cases h
    · have h := x_pos c109 h
      refine x_iload dL_law_617 15 rfl ?_
      refine x_if_lt 635 dL_law_619 (by decide) (fun c110 => ?_) (fun c110 => ?_)
      · have h := x_pos c110 h
        exact w_L_law_b635 hk438 _ _ _ _ _ _ _ _ _ _ _ _ _ _ _ _ h
      · have h := x_neg c110 h
        refine x_iload dL_law_622 14 rfl ?_
        refine x_iload dL_law_624 15 rfl ?_
        refine x_ishr dL_law_626 ?_
        refine x_iconst 1 dL_law_627 (by decide) ?_
        refine x_iand dL_law_628 ?_
        refine x_iconst 1 dL_law_629 (by decide) ?_
        refine x_icmp_eq 635 dL_law_630 (by decide) (fun c111 => ?_) (fun c111 => ?_)
        · have h := x_pos c111 h
          exact w_L_law_b635 hk438 _ _ _ _ _ _ _ _ _ _ _ _ _ _ _ _ h
        · have h := x_neg c111 h
          refine x_iconst 0 dL_law_633 (by decide) ?_
          cases h
def M_L_law_b577 (xs : Nat → Int32) (L : Nat) (k438 : (Nat → Int32) → x_S → (Nat → Int32) → Int32 → Int32 → Int32 → Int32 → Int32 → Int32 → Int32 → Int32 → Int32 → Option (Unit)) (row_c : (Nat → Int32)) (S : x_S) (strains_c : (Nat → Int32)) (x3 : Int32) (x4 : Int32) (x5 : Int32) (x6 : Int32) (x7 : Int32) (x8 : Int32) (x9 : Int32) (x10 : Int32) (x13 : Int32) (x15 : Int32) (x16 : Int32) (x17 : Int32) (x19 : Int32) (s0 : Int32) (s1 : Int32) : Option (Unit) :=
  if s0 = s1 then
  ((M_LR_count S (6 : Int32)).bind fun r105 =>
  if 0 ≤ x17 then
  (M_L_law_b603 xs L k438 row_c S strains_c x3 x4 x5 x6 x7 x8 x9 x10 x13 x15 x16 x17 x19 r105 (x9 ||| ((1 : Int32) <<< (x17 &&& (31 : Int32)))))
  else
  (M_L_law_b603 xs L k438 row_c S strains_c x3 x4 x5 x6 x7 x8 x9 x10 x13 x15 x16 x17 x19 r105 x9))
  else
  (none)
set_option maxHeartbeats 4000000 in
set_option maxRecDepth 100000 in
theorem w_L_law_b577 {sb : Nat} {xs : Nat → Int32} {G : x_G} {l : Launch} {a : Nat → Nat} {ar : Nat → Nat} {al : Nat → Nat} {af : Nat → Nat} {ax : Nat → Nat} {ad : Nat → Nat} {aq : Nat → Nat} {a_row : Nat → Nat} {a_strains : Nat → Nat} {L : Nat} {k438 : (Nat → Int32) → x_S → (Nat → Int32) → Int32 → Int32 → Int32 → Int32 → Int32 → Int32 → Int32 → Int32 → Int32 → Option (Unit)} {res : Unit} (hk438 : ∀ (row_c : (Nat → Int32)) (S : x_S) (strains_c : (Nat → Int32)) (x3 : Int32) (x4 : Int32) (x5 : Int32) (x6 : Int32) (x7 : Int32) (x8 : Int32) (x9 : Int32) (x10 : Int32) (x13 : Int32), k438 row_c S strains_c x3 x4 x5 x6 x7 x8 x9 x10 x13 = some res → X G l RL cL_law 38 room_1 (x_CL sb L xs) 42 883 438 [(0, .ref sb), (1, .ref (a 0)), (2, .ref (a_row 0)), (3, .int x3), (4, .int x4), (5, .int x5), (6, .int x6), (7, .int x7), (8, .int x8), (9, .int x9), (10, .int x10), (11, .ref (a_strains 0)), (13, .int x13)] [] ((WArr G a_row 38 row_c) ++ ((WLR G a ar al af ax ad aq S) ++ (WArr G a_strains 6 strains_c)))) (row_c : (Nat → Int32)) (S : x_S) (strains_c : (Nat → Int32)) (x3 : Int32) (x4 : Int32) (x5 : Int32) (x6 : Int32) (x7 : Int32) (x8 : Int32) (x9 : Int32) (x10 : Int32) (x13 : Int32) (x15 : Int32) (x16 : Int32) (x17 : Int32) (x19 : Int32) (s0 : Int32) (s1 : Int32) (h : M_L_law_b577 xs L k438 row_c S strains_c x3 x4 x5 x6 x7 x8 x9 x10 x13 x15 x16 x17 x19 s0 s1 = some res) : X G l RL cL_law 38 room_1 (x_CL sb L xs) 42 883 577 [(0, .ref sb), (1, .ref (a 0)), (2, .ref (a_row 0)), (3, .int x3), (4, .int x4), (5, .int x5), (6, .int x6), (7, .int x7), (8, .int x8), (9, .int x9), (10, .int x10), (11, .ref (a_strains 0)), (13, .int x13), (15, .int x15), (16, .int x16), (17, .int x17), (19, .int x19)] [.int s1, .int s0] ((WArr G a_row 38 row_c) ++ ((WLR G a ar al af ax ad aq S) ++ (WArr G a_strains 6 strains_c))) := by
  unfold M_L_law_b577 at h
  refine x_icmp_ne 633 dL_law_577 (by decide) (fun c104 => ?_) (fun c104 => ?_)
  · have h := x_neg c104 h
    refine x_iconst 0 dL_law_633 (by decide) ?_
    cases h
  · have h := x_pos c104 h
    refine x_aload_n dL_law_580 1 rfl rfl ?_
    refine x_bipush 6 dL_law_581 (by decide) ?_
    obtain ⟨r105, e106, h⟩ := x_bind h
    refine x_cV (As := [.int (6 : Int32)]) (wc := (WLR G a ar al af ax ad aq S)) (w1 := (WLR G a ar al af ax ad aq S)) (pre := (WArr G a_row 38 row_c)) (post := (WArr G a_strains 6 strains_c)) (rest := []) (st1 := [.int r105]) (ws1 := ((WArr G a_row 38 row_c) ++ ((WLR G a ar al af ax ad aq S) ++ (WArr G a_strains 6 strains_c)))) (ci := 4) 0 dL_law_583 (c_LR_count (a := a) e106) pk_X6_count ml_L_62 (by simp only [List.append_assoc, List.append_nil, List.nil_append]) rfl rfl rfl rfl rfl rfl rfl rfl (by simp only [List.append_assoc, List.append_nil, List.nil_append]) ?_
    refine x_iload dL_law_586 15 rfl ?_
    refine x_if_ge 596 dL_law_588 (by decide) (fun c107 => ?_) (fun c107 => ?_)
    · have h := x_pos c107 h
      refine x_iload dL_law_596 9 rfl ?_
      refine x_iconst 1 dL_law_598 (by decide) ?_
      refine x_iload dL_law_599 15 rfl ?_
      refine x_ishl dL_law_601 ?_
      refine x_ior dL_law_602 ?_
      exact w_L_law_b603 hk438 _ _ _ _ _ _ _ _ _ _ _ _ _ _ _ _ _ _ h
    · have h := x_neg c107 h
      refine x_iload dL_law_591 9 rfl ?_
      refine x_goto 603 dL_law_593 (by decide) ?_
      exact w_L_law_b603 hk438 _ _ _ _ _ _ _ _ _ _ _ _ _ _ _ _ _ _ h
def M_L_law_b566 (xs : Nat → Int32) (L : Nat) (k438 : (Nat → Int32) → x_S → (Nat → Int32) → Int32 → Int32 → Int32 → Int32 → Int32 → Int32 → Int32 → Int32 → Int32 → Option (Unit)) (row_c : (Nat → Int32)) (S : x_S) (strains_c : (Nat → Int32)) (x3 : Int32) (x4 : Int32) (x5 : Int32) (x6 : Int32) (x7 : Int32) (x8 : Int32) (x9 : Int32) (x10 : Int32) (x13 : Int32) (x15 : Int32) (x16 : Int32) (x17 : Int32) (x18 : Int32) (x19 : Int32) (s0 : Int32) : Option (Unit) :=
  if x18 = (1 : Int32) then
  (M_L_law_b577 xs L k438 row_c S strains_c x3 x4 x5 x6 x7 x8 x9 x10 x13 x15 x16 x17 x19 s0 (1 : Int32))
  else
  (M_L_law_b577 xs L k438 row_c S strains_c x3 x4 x5 x6 x7 x8 x9 x10 x13 x15 x16 x17 x19 s0 (0 : Int32))
set_option maxHeartbeats 4000000 in
set_option maxRecDepth 100000 in
theorem w_L_law_b566 {sb : Nat} {xs : Nat → Int32} {G : x_G} {l : Launch} {a : Nat → Nat} {ar : Nat → Nat} {al : Nat → Nat} {af : Nat → Nat} {ax : Nat → Nat} {ad : Nat → Nat} {aq : Nat → Nat} {a_row : Nat → Nat} {a_strains : Nat → Nat} {L : Nat} {k438 : (Nat → Int32) → x_S → (Nat → Int32) → Int32 → Int32 → Int32 → Int32 → Int32 → Int32 → Int32 → Int32 → Int32 → Option (Unit)} {res : Unit} (hk438 : ∀ (row_c : (Nat → Int32)) (S : x_S) (strains_c : (Nat → Int32)) (x3 : Int32) (x4 : Int32) (x5 : Int32) (x6 : Int32) (x7 : Int32) (x8 : Int32) (x9 : Int32) (x10 : Int32) (x13 : Int32), k438 row_c S strains_c x3 x4 x5 x6 x7 x8 x9 x10 x13 = some res → X G l RL cL_law 38 room_1 (x_CL sb L xs) 42 883 438 [(0, .ref sb), (1, .ref (a 0)), (2, .ref (a_row 0)), (3, .int x3), (4, .int x4), (5, .int x5), (6, .int x6), (7, .int x7), (8, .int x8), (9, .int x9), (10, .int x10), (11, .ref (a_strains 0)), (13, .int x13)] [] ((WArr G a_row 38 row_c) ++ ((WLR G a ar al af ax ad aq S) ++ (WArr G a_strains 6 strains_c)))) (row_c : (Nat → Int32)) (S : x_S) (strains_c : (Nat → Int32)) (x3 : Int32) (x4 : Int32) (x5 : Int32) (x6 : Int32) (x7 : Int32) (x8 : Int32) (x9 : Int32) (x10 : Int32) (x13 : Int32) (x15 : Int32) (x16 : Int32) (x17 : Int32) (x18 : Int32) (x19 : Int32) (s0 : Int32) (h : M_L_law_b566 xs L k438 row_c S strains_c x3 x4 x5 x6 x7 x8 x9 x10 x13 x15 x16 x17 x18 x19 s0 = some res) : X G l RL cL_law 38 room_1 (x_CL sb L xs) 42 883 566 [(0, .ref sb), (1, .ref (a 0)), (2, .ref (a_row 0)), (3, .int x3), (4, .int x4), (5, .int x5), (6, .int x6), (7, .int x7), (8, .int x8), (9, .int x9), (10, .int x10), (11, .ref (a_strains 0)), (13, .int x13), (15, .int x15), (16, .int x16), (17, .int x17), (18, .int x18), (19, .int x19)] [.int s0] ((WArr G a_row 38 row_c) ++ ((WLR G a ar al af ax ad aq S) ++ (WArr G a_strains 6 strains_c))) := by
  unfold M_L_law_b566 at h
  refine x_iload dL_law_566 16 rfl ?_
  refine x_iconst 1 dL_law_568 (by decide) ?_
  refine x_icmp_ne 576 dL_law_569 (by decide) (fun c103 => ?_) (fun c103 => ?_)
  · have h := x_neg c103 h
    refine x_iconst 0 dL_law_576 (by decide) ?_
    refine x_lv [0, 1, 2, 3, 4, 5, 6, 7, 8, 9, 10, 11, 12, 13, 14, 15, 17] rfl ?_
    exact w_L_law_b577 hk438 _ _ _ _ _ _ _ _ _ _ _ _ _ _ _ _ _ _ h
  · have h := x_pos c103 h
    refine x_iconst 1 dL_law_572 (by decide) ?_
    refine x_goto 577 dL_law_573 (by decide) ?_
    refine x_lv [0, 1, 2, 3, 4, 5, 6, 7, 8, 9, 10, 11, 12, 13, 14, 15, 17] rfl ?_
    exact w_L_law_b577 hk438 _ _ _ _ _ _ _ _ _ _ _ _ _ _ _ _ _ _ h
def M_L_law_b462 (xs : Nat → Int32) (L : Nat) (k438 : (Nat → Int32) → x_S → (Nat → Int32) → Int32 → Int32 → Int32 → Int32 → Int32 → Int32 → Int32 → Int32 → Int32 → Option (Unit)) (row_c : (Nat → Int32)) (S : x_S) (strains_c : (Nat → Int32)) (x3 : Int32) (x4 : Int32) (x5 : Int32) (x6 : Int32) (x7 : Int32) (x8 : Int32) (x9 : Int32) (x10 : Int32) (x13 : Int32) (s0 : Int32) : Option (Unit) :=
  (M_L_cell xs L (13 : Int32)).bind fun r84 =>
  (M_L_up (r84 >>> (((4 : Int32) * x13) &&& (31 : Int32))) (9 : Int32)).bind fun r86 =>
  (M_LR_moves S x13 ((1 : Int32) + r86)).bind fun r88 =>
  (M_LR_asked r88.2).bind fun r90 =>
  (M_LR_haul r88.2 x13 ((1 : Int32) + r86)).bind fun r92 =>
  if s0 = 0 then
  (if r88.1 = (-4 : Int32) then
  (if r92.1 = (-4 : Int32) then
  ((M_LR_parts r92.2 x13).bind fun r100 =>
  if r100.1 = (-4 : Int32) then
  (M_L_law_b926 xs L k438 row_c r100.2 strains_c x3 x4 x5 x6 x7 x8 x9 x10 x13)
  else
  (none))
  else
  (none))
  else
  (none))
  else
  (if r92.1 < 0 then
  (none)
  else
  (if (1 : Int32) < r92.1 then
  (none)
  else
  (if r90 < 0 then
  (M_L_law_b566 xs L k438 row_c r92.2 strains_c x3 x4 x5 x6 x7 x8 x9 x10 x13 ((1 : Int32) + r86) r88.1 r90 r92.1 (0 : Int32) (0 : Int32))
  else
  (M_L_law_b566 xs L k438 row_c r92.2 strains_c x3 x4 x5 x6 x7 x8 x9 x10 x13 ((1 : Int32) + r86) r88.1 r90 r92.1 (0 : Int32) (1 : Int32)))))
set_option maxHeartbeats 4000000 in
set_option maxRecDepth 100000 in
theorem w_L_law_b462 {sb : Nat} {xs : Nat → Int32} {G : x_G} {l : Launch} {a : Nat → Nat} {ar : Nat → Nat} {al : Nat → Nat} {af : Nat → Nat} {ax : Nat → Nat} {ad : Nat → Nat} {aq : Nat → Nat} {a_row : Nat → Nat} {a_strains : Nat → Nat} {L : Nat} {k438 : (Nat → Int32) → x_S → (Nat → Int32) → Int32 → Int32 → Int32 → Int32 → Int32 → Int32 → Int32 → Int32 → Int32 → Option (Unit)} {res : Unit} (hk438 : ∀ (row_c : (Nat → Int32)) (S : x_S) (strains_c : (Nat → Int32)) (x3 : Int32) (x4 : Int32) (x5 : Int32) (x6 : Int32) (x7 : Int32) (x8 : Int32) (x9 : Int32) (x10 : Int32) (x13 : Int32), k438 row_c S strains_c x3 x4 x5 x6 x7 x8 x9 x10 x13 = some res → X G l RL cL_law 38 room_1 (x_CL sb L xs) 42 883 438 [(0, .ref sb), (1, .ref (a 0)), (2, .ref (a_row 0)), (3, .int x3), (4, .int x4), (5, .int x5), (6, .int x6), (7, .int x7), (8, .int x8), (9, .int x9), (10, .int x10), (11, .ref (a_strains 0)), (13, .int x13)] [] ((WArr G a_row 38 row_c) ++ ((WLR G a ar al af ax ad aq S) ++ (WArr G a_strains 6 strains_c)))) (row_c : (Nat → Int32)) (S : x_S) (strains_c : (Nat → Int32)) (x3 : Int32) (x4 : Int32) (x5 : Int32) (x6 : Int32) (x7 : Int32) (x8 : Int32) (x9 : Int32) (x10 : Int32) (x13 : Int32) (s0 : Int32) (h : M_L_law_b462 xs L k438 row_c S strains_c x3 x4 x5 x6 x7 x8 x9 x10 x13 s0 = some res) : X G l RL cL_law 38 room_1 (x_CL sb L xs) 42 883 462 [(0, .ref sb), (1, .ref (a 0)), (2, .ref (a_row 0)), (3, .int x3), (4, .int x4), (5, .int x5), (6, .int x6), (7, .int x7), (8, .int x8), (9, .int x9), (10, .int x10), (11, .ref (a_strains 0)), (13, .int x13)] [.int s0] ((WArr G a_row 38 row_c) ++ ((WLR G a ar al af ax ad aq S) ++ (WArr G a_strains 6 strains_c))) := by
  unfold M_L_law_b462 at h
  refine x_istore [(14, .int s0), (0, .ref sb), (1, .ref (a 0)), (2, .ref (a_row 0)), (3, .int x3), (4, .int x4), (5, .int x5), (6, .int x6), (7, .int x7), (8, .int x8), (9, .int x9), (10, .int x10), (11, .ref (a_strains 0)), (13, .int x13)] dL_law_462 (by decide) rfl ?_
  refine x_iconst 1 dL_law_464 (by decide) ?_
  refine x_aload_n dL_law_465 1 rfl rfl ?_
  refine x_bipush 13 dL_law_466 (by decide) ?_
  obtain ⟨r84, e85, h⟩ := x_bind h
  refine x_cSs (As := [.ref sb, .int (13 : Int32)]) (wc := ([] : va_W)) (w1 := ([] : va_W)) (pre := []) (post := ((WArr G a_row 38 row_c) ++ ((WLR G a ar al af ax ad aq S) ++ (WArr G a_strains 6 strains_c)))) (rest := [.int (1 : Int32)]) (st1 := [.int r84, .int (1 : Int32)]) (ws1 := ((WArr G a_row 38 row_c) ++ ((WLR G a ar al af ax ad aq S) ++ (WArr G a_strains 6 strains_c)))) x_sc_CL dL_law_468 (c_L_cell e85) pk_L_cell ml_L_9 rfl rfl rfl rfl rfl rfl rfl ?_
  refine x_iconst 4 dL_law_471 (by decide) ?_
  refine x_iload dL_law_472 13 rfl ?_
  refine x_imul dL_law_474 ?_
  refine x_ishr dL_law_475 ?_
  refine x_bipush 9 dL_law_476 (by decide) ?_
  obtain ⟨r86, e87, h⟩ := x_bind h
  refine x_cS (As := [.int (r84 >>> (((4 : Int32) * x13) &&& (31 : Int32))), .int (9 : Int32)]) (wc := ([] : va_W)) (w1 := ([] : va_W)) (pre := []) (post := ((WArr G a_row 38 row_c) ++ ((WLR G a ar al af ax ad aq S) ++ (WArr G a_strains 6 strains_c)))) (rest := [.int (1 : Int32)]) (st1 := [.int r86, .int (1 : Int32)]) (ws1 := ((WArr G a_row 38 row_c) ++ ((WLR G a ar al af ax ad aq S) ++ (WArr G a_strains 6 strains_c)))) dL_law_478 (c_L_up e87) pk_L_up ml_L_15 rfl rfl rfl rfl rfl rfl rfl ?_
  refine x_iadd dL_law_481 ?_
  refine x_istore [(15, .int ((1 : Int32) + r86)), (14, .int s0), (0, .ref sb), (1, .ref (a 0)), (2, .ref (a_row 0)), (3, .int x3), (4, .int x4), (5, .int x5), (6, .int x6), (7, .int x7), (8, .int x8), (9, .int x9), (10, .int x10), (11, .ref (a_strains 0)), (13, .int x13)] dL_law_482 (by decide) rfl ?_
  refine x_aload_n dL_law_484 3 rfl rfl ?_
  refine x_iload dL_law_485 14 rfl ?_
  refine x_iload dL_law_487 0 rfl ?_
  obtain ⟨r88, e89, h⟩ := x_bind h
  refine x_cV (As := [.int x13, .int ((1 : Int32) + r86)]) (wc := (WLR G a ar al af ax ad aq S)) (w1 := (WLR G a ar al af ax ad aq r88.2)) (pre := (WArr G a_row 38 row_c)) (post := (WArr G a_strains 6 strains_c)) (rest := []) (st1 := [.int r88.1]) (ws1 := ((WArr G a_row 38 row_c) ++ ((WLR G a ar al af ax ad aq r88.2) ++ (WArr G a_strains 6 strains_c)))) (ci := 4) 0 dL_law_489 (c_LR_moves (a := a) e89) pk_X6_moves ml_L_72 (by simp only [List.append_assoc, List.append_nil, List.nil_append]) rfl rfl rfl rfl rfl rfl rfl rfl (by simp only [List.append_assoc, List.append_nil, List.nil_append]) ?_
  refine x_istore [(16, .int r88.1), (15, .int ((1 : Int32) + r86)), (14, .int s0), (0, .ref sb), (1, .ref (a 0)), (2, .ref (a_row 0)), (3, .int x3), (4, .int x4), (5, .int x5), (6, .int x6), (7, .int x7), (8, .int x8), (9, .int x9), (10, .int x10), (11, .ref (a_strains 0)), (13, .int x13)] dL_law_492 (by decide) rfl ?_
  refine x_aload_n dL_law_494 4 rfl rfl ?_
  obtain ⟨r90, e91, h⟩ := x_bind h
  refine x_cV (As := []) (wc := (WLR G a ar al af ax ad aq r88.2)) (w1 := (WLR G a ar al af ax ad aq r88.2)) (pre := (WArr G a_row 38 row_c)) (post := (WArr G a_strains 6 strains_c)) (rest := []) (st1 := [.int r90]) (ws1 := ((WArr G a_row 38 row_c) ++ ((WLR G a ar al af ax ad aq r88.2) ++ (WArr G a_strains 6 strains_c)))) (ci := 4) 0 dL_law_495 (c_LR_asked (a := a) e91) pk_X6_asked ml_L_42 (by simp only [List.append_assoc, List.append_nil, List.nil_append]) rfl rfl rfl rfl rfl rfl rfl rfl (by simp only [List.append_assoc, List.append_nil, List.nil_append]) ?_
  refine x_istore [(17, .int r90), (16, .int r88.1), (15, .int ((1 : Int32) + r86)), (14, .int s0), (0, .ref sb), (1, .ref (a 0)), (2, .ref (a_row 0)), (3, .int x3), (4, .int x4), (5, .int x5), (6, .int x6), (7, .int x7), (8, .int x8), (9, .int x9), (10, .int x10), (11, .ref (a_strains 0)), (13, .int x13)] dL_law_498 (by decide) rfl ?_
  refine x_aload_n dL_law_500 5 rfl rfl ?_
  refine x_iload dL_law_501 16 rfl ?_
  refine x_iload dL_law_503 2 rfl ?_
  obtain ⟨r92, e93, h⟩ := x_bind h
  refine x_cV (As := [.int x13, .int ((1 : Int32) + r86)]) (wc := (WLR G a ar al af ax ad aq r88.2)) (w1 := (WLR G a ar al af ax ad aq r92.2)) (pre := (WArr G a_row 38 row_c)) (post := (WArr G a_strains 6 strains_c)) (rest := []) (st1 := [.int r92.1]) (ws1 := ((WArr G a_row 38 row_c) ++ ((WLR G a ar al af ax ad aq r92.2) ++ (WArr G a_strains 6 strains_c)))) (ci := 4) 0 dL_law_505 (c_LR_haul (a := a) e93) pk_X6_haul ml_L_75 (by simp only [List.append_assoc, List.append_nil, List.nil_append]) rfl rfl rfl rfl rfl rfl rfl rfl (by simp only [List.append_assoc, List.append_nil, List.nil_append]) ?_
  refine x_istore [(18, .int r92.1), (17, .int r90), (16, .int r88.1), (15, .int ((1 : Int32) + r86)), (14, .int s0), (0, .ref sb), (1, .ref (a 0)), (2, .ref (a_row 0)), (3, .int x3), (4, .int x4), (5, .int x5), (6, .int x6), (7, .int x7), (8, .int x8), (9, .int x9), (10, .int x10), (11, .ref (a_strains 0)), (13, .int x13)] dL_law_508 (by decide) rfl ?_
  refine x_iload dL_law_510 4 rfl ?_
  refine x_if_ne 542 dL_law_512 (by decide) (fun c94 => ?_) (fun c94 => ?_)
  · have h := x_neg c94 h
    refine x_iconst 0 dL_law_542 (by decide) ?_
    refine x_istore [(19, .int (0 : Int32)), (18, .int r92.1), (17, .int r90), (16, .int r88.1), (15, .int ((1 : Int32) + r86)), (14, .int s0), (0, .ref sb), (1, .ref (a 0)), (2, .ref (a_row 0)), (3, .int x3), (4, .int x4), (5, .int x5), (6, .int x6), (7, .int x7), (8, .int x8), (9, .int x9), (10, .int x10), (11, .ref (a_strains 0)), (13, .int x13)] dL_law_543 (by decide) rfl ?_
    refine x_iload dL_law_545 1 rfl ?_
    refine x_if_lt 633 dL_law_547 (by decide) (fun c95 => ?_) (fun c95 => ?_)
    · have h := x_pos c95 h
      refine x_iconst 0 dL_law_633 (by decide) ?_
      cases h
    · have h := x_neg c95 h
      refine x_iload dL_law_550 1 rfl ?_
      refine x_iconst 1 dL_law_552 (by decide) ?_
      refine x_icmp_gt 633 dL_law_553 (by decide) (fun c96 => ?_) (fun c96 => ?_)
      · have h := x_pos c96 h
        refine x_iconst 0 dL_law_633 (by decide) ?_
        cases h
      · have h := x_neg c96 h
        refine x_iload dL_law_556 2 rfl ?_
        refine x_if_lt 565 dL_law_558 (by decide) (fun c97 => ?_) (fun c97 => ?_)
        · have h := x_pos c97 h
          refine x_iconst 0 dL_law_565 (by decide) ?_
          refine x_lv [6, 7, 8, 9, 10, 11, 12, 13, 14, 15, 16, 17, 18, 4, 3, 2, 1, 0] rfl ?_
          exact w_L_law_b566 hk438 _ _ _ _ _ _ _ _ _ _ _ _ _ _ _ _ _ _ h
        · have h := x_neg c97 h
          refine x_iconst 1 dL_law_561 (by decide) ?_
          refine x_goto 566 dL_law_562 (by decide) ?_
          refine x_lv [6, 7, 8, 9, 10, 11, 12, 13, 14, 15, 16, 17, 18, 4, 3, 2, 1, 0] rfl ?_
          exact w_L_law_b566 hk438 _ _ _ _ _ _ _ _ _ _ _ _ _ _ _ _ _ _ h
  · have h := x_pos c94 h
    refine x_iload dL_law_515 2 rfl ?_
    refine x_bipush (-4 : Int32) dL_law_517 (by decide) ?_
    refine x_icmp_ne 540 dL_law_519 (by decide) (fun c98 => ?_) (fun c98 => ?_)
    · have h := x_neg c98 h
      refine x_iconst 0 dL_law_540 (by decide) ?_
      cases h
    · have h := x_pos c98 h
      refine x_iload dL_law_522 0 rfl ?_
      refine x_bipush (-4 : Int32) dL_law_524 (by decide) ?_
      refine x_icmp_ne 540 dL_law_526 (by decide) (fun c99 => ?_) (fun c99 => ?_)
      · have h := x_neg c99 h
        refine x_iconst 0 dL_law_540 (by decide) ?_
        cases h
      · have h := x_pos c99 h
        refine x_aload_n dL_law_529 6 rfl rfl ?_
        refine x_iload dL_law_530 17 rfl ?_
        obtain ⟨r100, e101, h⟩ := x_bind h
        refine x_cV (As := [.int x13]) (wc := (WLR G a ar al af ax ad aq r92.2)) (w1 := (WLR G a ar al af ax ad aq r100.2)) (pre := (WArr G a_row 38 row_c)) (post := (WArr G a_strains 6 strains_c)) (rest := []) (st1 := [.int r100.1]) (ws1 := ((WArr G a_row 38 row_c) ++ ((WLR G a ar al af ax ad aq r100.2) ++ (WArr G a_strains 6 strains_c)))) (ci := 4) 0 dL_law_532 (c_LR_parts (a := a) e101) pk_X6_parts ml_L_78 (by simp only [List.append_assoc, List.append_nil, List.nil_append]) rfl rfl rfl rfl rfl rfl rfl rfl (by simp only [List.append_assoc, List.append_nil, List.nil_append]) ?_
        refine x_bipush (-4 : Int32) dL_law_535 (by decide) ?_
        refine x_icmp_eq 926 dL_law_537 (by decide) (fun c102 => ?_) (fun c102 => ?_)
        · have h := x_pos c102 h
          refine x_lv [5, 6, 7, 8, 9, 10, 11, 12, 13, 14, 15, 16, 17] rfl ?_
          exact w_L_law_b926 hk438 _ _ _ _ _ _ _ _ _ _ _ _ h
        · have h := x_neg c102 h
          refine x_iconst 0 dL_law_540 (by decide) ?_
          cases h
def M_L_law_b1117 (xs : Nat → Int32) (L : Nat) (k1013 : (Nat → Int32) → x_S → (Nat → Int32) → Int32 → Int32 → Int32 → Int32 → Int32 → Int32 → Int32 → Int32 → Int32 → Int32 → Int32 → Option (Unit)) (row_c : (Nat → Int32)) (S : x_S) (strains_c : (Nat → Int32)) (x3 : Int32) (x4 : Int32) (x5 : Int32) (x6 : Int32) (x7 : Int32) (x8 : Int32) (x9 : Int32) (x10 : Int32) (x13 : Int32) (x14 : Int32) (x15 : Int32) (s0 : Int32) (s1 : Int32) : Option (Unit) :=
  if s0 = s1 then
  (k1013 row_c S strains_c x3 x4 x5 x6 x7 x8 x9 x10 x13 x14 (x15 + (1 : Int32)))
  else
  (none)
set_option maxHeartbeats 4000000 in
set_option maxRecDepth 100000 in
theorem w_L_law_b1117 {sb : Nat} {xs : Nat → Int32} {G : x_G} {l : Launch} {a : Nat → Nat} {ar : Nat → Nat} {al : Nat → Nat} {af : Nat → Nat} {ax : Nat → Nat} {ad : Nat → Nat} {aq : Nat → Nat} {a_row : Nat → Nat} {a_strains : Nat → Nat} {L : Nat} {k1013 : (Nat → Int32) → x_S → (Nat → Int32) → Int32 → Int32 → Int32 → Int32 → Int32 → Int32 → Int32 → Int32 → Int32 → Int32 → Int32 → Option (Unit)} {res : Unit} (hk1013 : ∀ (row_c : (Nat → Int32)) (S : x_S) (strains_c : (Nat → Int32)) (x3 : Int32) (x4 : Int32) (x5 : Int32) (x6 : Int32) (x7 : Int32) (x8 : Int32) (x9 : Int32) (x10 : Int32) (x13 : Int32) (x14 : Int32) (x15 : Int32), k1013 row_c S strains_c x3 x4 x5 x6 x7 x8 x9 x10 x13 x14 x15 = some res → X G l RL cL_law 38 room_1 (x_CL sb L xs) 42 883 1013 [(0, .ref sb), (1, .ref (a 0)), (2, .ref (a_row 0)), (3, .int x3), (4, .int x4), (5, .int x5), (6, .int x6), (7, .int x7), (8, .int x8), (9, .int x9), (10, .int x10), (11, .ref (a_strains 0)), (13, .int x13), (14, .int x14), (15, .int x15)] [] ((WArr G a_row 38 row_c) ++ ((WLR G a ar al af ax ad aq S) ++ (WArr G a_strains 6 strains_c)))) (row_c : (Nat → Int32)) (S : x_S) (strains_c : (Nat → Int32)) (x3 : Int32) (x4 : Int32) (x5 : Int32) (x6 : Int32) (x7 : Int32) (x8 : Int32) (x9 : Int32) (x10 : Int32) (x13 : Int32) (x14 : Int32) (x15 : Int32) (s0 : Int32) (s1 : Int32) (h : M_L_law_b1117 xs L k1013 row_c S strains_c x3 x4 x5 x6 x7 x8 x9 x10 x13 x14 x15 s0 s1 = some res) : X G l RL cL_law 38 room_1 (x_CL sb L xs) 42 883 1117 [(0, .ref sb), (1, .ref (a 0)), (2, .ref (a_row 0)), (3, .int x3), (4, .int x4), (5, .int x5), (6, .int x6), (7, .int x7), (8, .int x8), (9, .int x9), (10, .int x10), (11, .ref (a_strains 0)), (13, .int x13), (14, .int x14), (15, .int x15)] [.int s1, .int s0] ((WArr G a_row 38 row_c) ++ ((WLR G a ar al af ax ad aq S) ++ (WArr G a_strains 6 strains_c))) := by
  unfold M_L_law_b1117 at h
  refine x_icmp_eq 1122 dL_law_1117 (by decide) (fun c192 => ?_) (fun c192 => ?_)
  · have h := x_pos c192 h
    refine x_iinc (j := 14) (1 : Int32) [(15, .int (x15 + (1 : Int32))), (0, .ref sb), (1, .ref (a 0)), (2, .ref (a_row 0)), (3, .int x3), (4, .int x4), (5, .int x5), (6, .int x6), (7, .int x7), (8, .int x8), (9, .int x9), (10, .int x10), (11, .ref (a_strains 0)), (13, .int x13), (14, .int x14)] dL_law_1122 (by decide) rfl (by decide) rfl ?_
    refine x_goto 1013 dL_law_1125 (by decide) ?_
    refine x_lv [1, 2, 3, 4, 5, 6, 7, 8, 9, 10, 11, 12, 13, 14, 0] rfl ?_
    exact hk1013 _ _ _ _ _ _ _ _ _ _ _ _ _ _ h
  · have h := x_neg c192 h
    refine x_iconst 0 dL_law_1120 (by decide) ?_
    cases h
def M_L_law_b1094 (xs : Nat → Int32) (L : Nat) (k1013 : (Nat → Int32) → x_S → (Nat → Int32) → Int32 → Int32 → Int32 → Int32 → Int32 → Int32 → Int32 → Int32 → Int32 → Int32 → Int32 → Option (Unit)) (row_c : (Nat → Int32)) (S : x_S) (strains_c : (Nat → Int32)) (x3 : Int32) (x4 : Int32) (x5 : Int32) (x6 : Int32) (x7 : Int32) (x8 : Int32) (x9 : Int32) (x10 : Int32) (x13 : Int32) (x14 : Int32) (x15 : Int32) : Option (Unit) :=
  (M_LR_lawful S).bind fun r189 =>
  if x15 = (x14 - (1 : Int32)) then
  (M_L_law_b1117 xs L k1013 row_c S strains_c x3 x4 x5 x6 x7 x8 x9 x10 x13 x14 x15 ((r189 >>> (x13 &&& (31 : Int32))) &&& (1 : Int32)) (1 : Int32))
  else
  (M_L_law_b1117 xs L k1013 row_c S strains_c x3 x4 x5 x6 x7 x8 x9 x10 x13 x14 x15 ((r189 >>> (x13 &&& (31 : Int32))) &&& (1 : Int32)) (0 : Int32))
set_option maxHeartbeats 4000000 in
set_option maxRecDepth 100000 in
theorem w_L_law_b1094 {sb : Nat} {xs : Nat → Int32} {G : x_G} {l : Launch} {a : Nat → Nat} {ar : Nat → Nat} {al : Nat → Nat} {af : Nat → Nat} {ax : Nat → Nat} {ad : Nat → Nat} {aq : Nat → Nat} {a_row : Nat → Nat} {a_strains : Nat → Nat} {L : Nat} {k1013 : (Nat → Int32) → x_S → (Nat → Int32) → Int32 → Int32 → Int32 → Int32 → Int32 → Int32 → Int32 → Int32 → Int32 → Int32 → Int32 → Option (Unit)} {res : Unit} (hk1013 : ∀ (row_c : (Nat → Int32)) (S : x_S) (strains_c : (Nat → Int32)) (x3 : Int32) (x4 : Int32) (x5 : Int32) (x6 : Int32) (x7 : Int32) (x8 : Int32) (x9 : Int32) (x10 : Int32) (x13 : Int32) (x14 : Int32) (x15 : Int32), k1013 row_c S strains_c x3 x4 x5 x6 x7 x8 x9 x10 x13 x14 x15 = some res → X G l RL cL_law 38 room_1 (x_CL sb L xs) 42 883 1013 [(0, .ref sb), (1, .ref (a 0)), (2, .ref (a_row 0)), (3, .int x3), (4, .int x4), (5, .int x5), (6, .int x6), (7, .int x7), (8, .int x8), (9, .int x9), (10, .int x10), (11, .ref (a_strains 0)), (13, .int x13), (14, .int x14), (15, .int x15)] [] ((WArr G a_row 38 row_c) ++ ((WLR G a ar al af ax ad aq S) ++ (WArr G a_strains 6 strains_c)))) (row_c : (Nat → Int32)) (S : x_S) (strains_c : (Nat → Int32)) (x3 : Int32) (x4 : Int32) (x5 : Int32) (x6 : Int32) (x7 : Int32) (x8 : Int32) (x9 : Int32) (x10 : Int32) (x13 : Int32) (x14 : Int32) (x15 : Int32) (h : M_L_law_b1094 xs L k1013 row_c S strains_c x3 x4 x5 x6 x7 x8 x9 x10 x13 x14 x15 = some res) : X G l RL cL_law 38 room_1 (x_CL sb L xs) 42 883 1094 [(0, .ref sb), (1, .ref (a 0)), (2, .ref (a_row 0)), (3, .int x3), (4, .int x4), (5, .int x5), (6, .int x6), (7, .int x7), (8, .int x8), (9, .int x9), (10, .int x10), (11, .ref (a_strains 0)), (13, .int x13), (14, .int x14), (15, .int x15)] [] ((WArr G a_row 38 row_c) ++ ((WLR G a ar al af ax ad aq S) ++ (WArr G a_strains 6 strains_c))) := by
  unfold M_L_law_b1094 at h
  refine x_aload_n dL_law_1094 1 rfl rfl ?_
  obtain ⟨r189, e190, h⟩ := x_bind h
  refine x_cV (As := []) (wc := (WLR G a ar al af ax ad aq S)) (w1 := (WLR G a ar al af ax ad aq S)) (pre := (WArr G a_row 38 row_c)) (post := (WArr G a_strains 6 strains_c)) (rest := []) (st1 := [.int r189]) (ws1 := ((WArr G a_row 38 row_c) ++ ((WLR G a ar al af ax ad aq S) ++ (WArr G a_strains 6 strains_c)))) (ci := 4) 0 dL_law_1095 (c_LR_lawful (a := a) e190) pk_X6_lawful ml_L_65 (by simp only [List.append_assoc, List.append_nil, List.nil_append]) rfl rfl rfl rfl rfl rfl rfl rfl (by simp only [List.append_assoc, List.append_nil, List.nil_append]) ?_
  refine x_iload dL_law_1098 12 rfl ?_
  refine x_ishr dL_law_1100 ?_
  refine x_iconst 1 dL_law_1101 (by decide) ?_
  refine x_iand dL_law_1102 ?_
  refine x_iload dL_law_1103 14 rfl ?_
  refine x_iload dL_law_1105 13 rfl ?_
  refine x_iconst 1 dL_law_1107 (by decide) ?_
  refine x_isub dL_law_1108 ?_
  refine x_icmp_ne 1116 dL_law_1109 (by decide) (fun c191 => ?_) (fun c191 => ?_)
  · have h := x_neg c191 h
    refine x_iconst 0 dL_law_1116 (by decide) ?_
    exact w_L_law_b1117 hk1013 _ _ _ _ _ _ _ _ _ _ _ _ _ _ _ _ h
  · have h := x_pos c191 h
    refine x_iconst 1 dL_law_1112 (by decide) ?_
    refine x_goto 1117 dL_law_1113 (by decide) ?_
    exact w_L_law_b1117 hk1013 _ _ _ _ _ _ _ _ _ _ _ _ _ _ _ _ h
def M_L_law_b1291 (xs : Nat → Int32) (L : Nat) (k1250 : (Nat → Int32) → x_S → (Nat → Int32) → Int32 → Int32 → Int32 → Int32 → Int32 → Int32 → Int32 → Int32 → Int32 → Int32 → Int32 → Int32 → Int32 → Option (Unit)) (row_c : (Nat → Int32)) (S : x_S) (strains_c : (Nat → Int32)) (x3 : Int32) (x4 : Int32) (x5 : Int32) (x6 : Int32) (x7 : Int32) (x8 : Int32) (x9 : Int32) (x10 : Int32) (x13 : Int32) (x15 : Int32) (x16 : Int32) (x17 : Int32) (x18 : Int32) : Option (Unit) :=
  k1250 row_c S strains_c x3 x4 x5 x6 x7 x8 x9 x10 x13 x15 x16 x17 (x18 + (1 : Int32))
set_option maxHeartbeats 4000000 in
set_option maxRecDepth 100000 in
theorem w_L_law_b1291 {sb : Nat} {xs : Nat → Int32} {G : x_G} {l : Launch} {a : Nat → Nat} {ar : Nat → Nat} {al : Nat → Nat} {af : Nat → Nat} {ax : Nat → Nat} {ad : Nat → Nat} {aq : Nat → Nat} {a_row : Nat → Nat} {a_strains : Nat → Nat} {L : Nat} {k1250 : (Nat → Int32) → x_S → (Nat → Int32) → Int32 → Int32 → Int32 → Int32 → Int32 → Int32 → Int32 → Int32 → Int32 → Int32 → Int32 → Int32 → Int32 → Option (Unit)} {res : Unit} (hk1250 : ∀ (row_c : (Nat → Int32)) (S : x_S) (strains_c : (Nat → Int32)) (x3 : Int32) (x4 : Int32) (x5 : Int32) (x6 : Int32) (x7 : Int32) (x8 : Int32) (x9 : Int32) (x10 : Int32) (x13 : Int32) (x15 : Int32) (x16 : Int32) (x17 : Int32) (x18 : Int32), k1250 row_c S strains_c x3 x4 x5 x6 x7 x8 x9 x10 x13 x15 x16 x17 x18 = some res → X G l RL cL_law 38 room_1 (x_CL sb L xs) 42 883 1250 [(0, .ref sb), (1, .ref (a 0)), (2, .ref (a_row 0)), (3, .int x3), (4, .int x4), (5, .int x5), (6, .int x6), (7, .int x7), (8, .int x8), (9, .int x9), (10, .int x10), (11, .ref (a_strains 0)), (13, .int x13), (15, .int x15), (16, .int x16), (17, .int x17), (18, .int x18)] [] ((WArr G a_row 38 row_c) ++ ((WLR G a ar al af ax ad aq S) ++ (WArr G a_strains 6 strains_c)))) (row_c : (Nat → Int32)) (S : x_S) (strains_c : (Nat → Int32)) (x3 : Int32) (x4 : Int32) (x5 : Int32) (x6 : Int32) (x7 : Int32) (x8 : Int32) (x9 : Int32) (x10 : Int32) (x13 : Int32) (x15 : Int32) (x16 : Int32) (x17 : Int32) (x18 : Int32) (h : M_L_law_b1291 xs L k1250 row_c S strains_c x3 x4 x5 x6 x7 x8 x9 x10 x13 x15 x16 x17 x18 = some res) : X G l RL cL_law 38 room_1 (x_CL sb L xs) 42 883 1291 [(0, .ref sb), (1, .ref (a 0)), (2, .ref (a_row 0)), (3, .int x3), (4, .int x4), (5, .int x5), (6, .int x6), (7, .int x7), (8, .int x8), (9, .int x9), (10, .int x10), (11, .ref (a_strains 0)), (13, .int x13), (15, .int x15), (16, .int x16), (17, .int x17), (18, .int x18)] [] ((WArr G a_row 38 row_c) ++ ((WLR G a ar al af ax ad aq S) ++ (WArr G a_strains 6 strains_c))) := by
  unfold M_L_law_b1291 at h
  refine x_iinc (j := 16) (1 : Int32) [(18, .int (x18 + (1 : Int32))), (0, .ref sb), (1, .ref (a 0)), (2, .ref (a_row 0)), (3, .int x3), (4, .int x4), (5, .int x5), (6, .int x6), (7, .int x7), (8, .int x8), (9, .int x9), (10, .int x10), (11, .ref (a_strains 0)), (13, .int x13), (15, .int x15), (16, .int x16), (17, .int x17)] dL_law_1291 (by decide) rfl (by decide) rfl ?_
  refine x_goto 1250 dL_law_1294 (by decide) ?_
  refine x_lv [1, 2, 3, 4, 5, 6, 7, 8, 9, 10, 11, 12, 13, 14, 15, 16, 0] rfl ?_
  exact hk1250 _ _ _ _ _ _ _ _ _ _ _ _ _ _ _ _ h
def M_L_law_b1414 (xs : Nat → Int32) (L : Nat) (k1337 : (Nat → Int32) → x_S → (Nat → Int32) → Int32 → Int32 → Int32 → Int32 → Int32 → Int32 → Int32 → Int32 → Int32 → Int32 → Int32 → Option (Unit)) (row_c : (Nat → Int32)) (S : x_S) (strains_c : (Nat → Int32)) (x3 : Int32) (x4 : Int32) (x5 : Int32) (x6 : Int32) (x7 : Int32) (x8 : Int32) (x9 : Int32) (x10 : Int32) (x13 : Int32) (x17 : Int32) (x18 : Int32) : Option (Unit) :=
  k1337 row_c S strains_c x3 x4 x5 x6 x7 x8 x9 x10 x13 x17 (x18 + (1 : Int32))
set_option maxHeartbeats 4000000 in
set_option maxRecDepth 100000 in
theorem w_L_law_b1414 {sb : Nat} {xs : Nat → Int32} {G : x_G} {l : Launch} {a : Nat → Nat} {ar : Nat → Nat} {al : Nat → Nat} {af : Nat → Nat} {ax : Nat → Nat} {ad : Nat → Nat} {aq : Nat → Nat} {a_row : Nat → Nat} {a_strains : Nat → Nat} {L : Nat} {k1337 : (Nat → Int32) → x_S → (Nat → Int32) → Int32 → Int32 → Int32 → Int32 → Int32 → Int32 → Int32 → Int32 → Int32 → Int32 → Int32 → Option (Unit)} {res : Unit} (hk1337 : ∀ (row_c : (Nat → Int32)) (S : x_S) (strains_c : (Nat → Int32)) (x3 : Int32) (x4 : Int32) (x5 : Int32) (x6 : Int32) (x7 : Int32) (x8 : Int32) (x9 : Int32) (x10 : Int32) (x13 : Int32) (x17 : Int32) (x18 : Int32), k1337 row_c S strains_c x3 x4 x5 x6 x7 x8 x9 x10 x13 x17 x18 = some res → X G l RL cL_law 38 room_1 (x_CL sb L xs) 42 883 1337 [(0, .ref sb), (1, .ref (a 0)), (2, .ref (a_row 0)), (3, .int x3), (4, .int x4), (5, .int x5), (6, .int x6), (7, .int x7), (8, .int x8), (9, .int x9), (10, .int x10), (11, .ref (a_strains 0)), (13, .int x13), (17, .int x17), (18, .int x18)] [] ((WArr G a_row 38 row_c) ++ ((WLR G a ar al af ax ad aq S) ++ (WArr G a_strains 6 strains_c)))) (row_c : (Nat → Int32)) (S : x_S) (strains_c : (Nat → Int32)) (x3 : Int32) (x4 : Int32) (x5 : Int32) (x6 : Int32) (x7 : Int32) (x8 : Int32) (x9 : Int32) (x10 : Int32) (x13 : Int32) (x17 : Int32) (x18 : Int32) (h : M_L_law_b1414 xs L k1337 row_c S strains_c x3 x4 x5 x6 x7 x8 x9 x10 x13 x17 x18 = some res) : X G l RL cL_law 38 room_1 (x_CL sb L xs) 42 883 1414 [(0, .ref sb), (1, .ref (a 0)), (2, .ref (a_row 0)), (3, .int x3), (4, .int x4), (5, .int x5), (6, .int x6), (7, .int x7), (8, .int x8), (9, .int x9), (10, .int x10), (11, .ref (a_strains 0)), (13, .int x13), (17, .int x17), (18, .int x18)] [] ((WArr G a_row 38 row_c) ++ ((WLR G a ar al af ax ad aq S) ++ (WArr G a_strains 6 strains_c))) := by
  unfold M_L_law_b1414 at h
  refine x_iinc (j := 14) (1 : Int32) [(18, .int (x18 + (1 : Int32))), (0, .ref sb), (1, .ref (a 0)), (2, .ref (a_row 0)), (3, .int x3), (4, .int x4), (5, .int x5), (6, .int x6), (7, .int x7), (8, .int x8), (9, .int x9), (10, .int x10), (11, .ref (a_strains 0)), (13, .int x13), (17, .int x17)] dL_law_1414 (by decide) rfl (by decide) rfl ?_
  refine x_goto 1337 dL_law_1417 (by decide) ?_
  refine x_lv [1, 2, 3, 4, 5, 6, 7, 8, 9, 10, 11, 12, 13, 14, 0] rfl ?_
  exact hk1337 _ _ _ _ _ _ _ _ _ _ _ _ _ _ h
def M_L_law_b1399 (xs : Nat → Int32) (L : Nat) (k1337 : (Nat → Int32) → x_S → (Nat → Int32) → Int32 → Int32 → Int32 → Int32 → Int32 → Int32 → Int32 → Int32 → Int32 → Int32 → Int32 → Option (Unit)) (row_c : (Nat → Int32)) (S : x_S) (strains_c : (Nat → Int32)) (x3 : Int32) (x4 : Int32) (x5 : Int32) (x6 : Int32) (x7 : Int32) (x8 : Int32) (x9 : Int32) (x10 : Int32) (x13 : Int32) (x17 : Int32) (x18 : Int32) (s0 : Int32) (s1 : Int32) : Option (Unit) :=
  if s0 = s1 then
  ((M_LR_on S (0 : Int32)).bind fun r248 =>
  if r248.1 = x5 then
  (M_L_law_b1414 xs L k1337 row_c r248.2 strains_c x3 x4 x5 x6 x7 x8 x9 x10 x13 x17 x18)
  else
  (none))
  else
  (none)
set_option maxHeartbeats 4000000 in
set_option maxRecDepth 100000 in
theorem w_L_law_b1399 {sb : Nat} {xs : Nat → Int32} {G : x_G} {l : Launch} {a : Nat → Nat} {ar : Nat → Nat} {al : Nat → Nat} {af : Nat → Nat} {ax : Nat → Nat} {ad : Nat → Nat} {aq : Nat → Nat} {a_row : Nat → Nat} {a_strains : Nat → Nat} {L : Nat} {k1337 : (Nat → Int32) → x_S → (Nat → Int32) → Int32 → Int32 → Int32 → Int32 → Int32 → Int32 → Int32 → Int32 → Int32 → Int32 → Int32 → Option (Unit)} {res : Unit} (hk1337 : ∀ (row_c : (Nat → Int32)) (S : x_S) (strains_c : (Nat → Int32)) (x3 : Int32) (x4 : Int32) (x5 : Int32) (x6 : Int32) (x7 : Int32) (x8 : Int32) (x9 : Int32) (x10 : Int32) (x13 : Int32) (x17 : Int32) (x18 : Int32), k1337 row_c S strains_c x3 x4 x5 x6 x7 x8 x9 x10 x13 x17 x18 = some res → X G l RL cL_law 38 room_1 (x_CL sb L xs) 42 883 1337 [(0, .ref sb), (1, .ref (a 0)), (2, .ref (a_row 0)), (3, .int x3), (4, .int x4), (5, .int x5), (6, .int x6), (7, .int x7), (8, .int x8), (9, .int x9), (10, .int x10), (11, .ref (a_strains 0)), (13, .int x13), (17, .int x17), (18, .int x18)] [] ((WArr G a_row 38 row_c) ++ ((WLR G a ar al af ax ad aq S) ++ (WArr G a_strains 6 strains_c)))) (row_c : (Nat → Int32)) (S : x_S) (strains_c : (Nat → Int32)) (x3 : Int32) (x4 : Int32) (x5 : Int32) (x6 : Int32) (x7 : Int32) (x8 : Int32) (x9 : Int32) (x10 : Int32) (x13 : Int32) (x17 : Int32) (x18 : Int32) (s0 : Int32) (s1 : Int32) (h : M_L_law_b1399 xs L k1337 row_c S strains_c x3 x4 x5 x6 x7 x8 x9 x10 x13 x17 x18 s0 s1 = some res) : X G l RL cL_law 38 room_1 (x_CL sb L xs) 42 883 1399 [(0, .ref sb), (1, .ref (a 0)), (2, .ref (a_row 0)), (3, .int x3), (4, .int x4), (5, .int x5), (6, .int x6), (7, .int x7), (8, .int x8), (9, .int x9), (10, .int x10), (11, .ref (a_strains 0)), (13, .int x13), (17, .int x17), (18, .int x18)] [.int s1, .int s0] ((WArr G a_row 38 row_c) ++ ((WLR G a ar al af ax ad aq S) ++ (WArr G a_strains 6 strains_c))) := by
  unfold M_L_law_b1399 at h
  refine x_icmp_ne 1412 dL_law_1399 (by decide) (fun c247 => ?_) (fun c247 => ?_)
  · have h := x_neg c247 h
    refine x_iconst 0 dL_law_1412 (by decide) ?_
    cases h
  · have h := x_pos c247 h
    refine x_aload_n dL_law_1402 1 rfl rfl ?_
    refine x_iconst 0 dL_law_1403 (by decide) ?_
    obtain ⟨r248, e249, h⟩ := x_bind h
    refine x_cV (As := [.int (0 : Int32)]) (wc := (WLR G a ar al af ax ad aq S)) (w1 := (WLR G a ar al af ax ad aq r248.2)) (pre := (WArr G a_row 38 row_c)) (post := (WArr G a_strains 6 strains_c)) (rest := []) (st1 := [.int r248.1]) (ws1 := ((WArr G a_row 38 row_c) ++ ((WLR G a ar al af ax ad aq r248.2) ++ (WArr G a_strains 6 strains_c)))) (ci := 4) 0 dL_law_1404 (c_LR_on (a := a) e249) pk_X6_on ml_L_93 (by simp only [List.append_assoc, List.append_nil, List.nil_append]) rfl rfl rfl rfl rfl rfl rfl rfl (by simp only [List.append_assoc, List.append_nil, List.nil_append]) ?_
    refine x_iload dL_law_1407 5 rfl ?_
    refine x_icmp_eq 1414 dL_law_1409 (by decide) (fun c250 => ?_) (fun c250 => ?_)
    · have h := x_pos c250 h
      exact w_L_law_b1414 hk1337 _ _ _ _ _ _ _ _ _ _ _ _ _ _ h
    · have h := x_neg c250 h
      refine x_iconst 0 dL_law_1412 (by decide) ?_
      cases h
def M_L_law_b1383 (xs : Nat → Int32) (L : Nat) (k1337 : (Nat → Int32) → x_S → (Nat → Int32) → Int32 → Int32 → Int32 → Int32 → Int32 → Int32 → Int32 → Int32 → Int32 → Int32 → Int32 → Option (Unit)) (row_c : (Nat → Int32)) (S : x_S) (strains_c : (Nat → Int32)) (x3 : Int32) (x4 : Int32) (x5 : Int32) (x6 : Int32) (x7 : Int32) (x8 : Int32) (x9 : Int32) (x10 : Int32) (x13 : Int32) (x17 : Int32) (x18 : Int32) (s0 : Int32) : Option (Unit) :=
  if ((x17 >>> (x18 &&& (31 : Int32))) &&& (1 : Int32)) = (1 : Int32) then
  (M_L_law_b1399 xs L k1337 row_c S strains_c x3 x4 x5 x6 x7 x8 x9 x10 x13 x17 x18 s0 (1 : Int32))
  else
  (M_L_law_b1399 xs L k1337 row_c S strains_c x3 x4 x5 x6 x7 x8 x9 x10 x13 x17 x18 s0 (0 : Int32))
set_option maxHeartbeats 4000000 in
set_option maxRecDepth 100000 in
theorem w_L_law_b1383 {sb : Nat} {xs : Nat → Int32} {G : x_G} {l : Launch} {a : Nat → Nat} {ar : Nat → Nat} {al : Nat → Nat} {af : Nat → Nat} {ax : Nat → Nat} {ad : Nat → Nat} {aq : Nat → Nat} {a_row : Nat → Nat} {a_strains : Nat → Nat} {L : Nat} {k1337 : (Nat → Int32) → x_S → (Nat → Int32) → Int32 → Int32 → Int32 → Int32 → Int32 → Int32 → Int32 → Int32 → Int32 → Int32 → Int32 → Option (Unit)} {res : Unit} (hk1337 : ∀ (row_c : (Nat → Int32)) (S : x_S) (strains_c : (Nat → Int32)) (x3 : Int32) (x4 : Int32) (x5 : Int32) (x6 : Int32) (x7 : Int32) (x8 : Int32) (x9 : Int32) (x10 : Int32) (x13 : Int32) (x17 : Int32) (x18 : Int32), k1337 row_c S strains_c x3 x4 x5 x6 x7 x8 x9 x10 x13 x17 x18 = some res → X G l RL cL_law 38 room_1 (x_CL sb L xs) 42 883 1337 [(0, .ref sb), (1, .ref (a 0)), (2, .ref (a_row 0)), (3, .int x3), (4, .int x4), (5, .int x5), (6, .int x6), (7, .int x7), (8, .int x8), (9, .int x9), (10, .int x10), (11, .ref (a_strains 0)), (13, .int x13), (17, .int x17), (18, .int x18)] [] ((WArr G a_row 38 row_c) ++ ((WLR G a ar al af ax ad aq S) ++ (WArr G a_strains 6 strains_c)))) (row_c : (Nat → Int32)) (S : x_S) (strains_c : (Nat → Int32)) (x3 : Int32) (x4 : Int32) (x5 : Int32) (x6 : Int32) (x7 : Int32) (x8 : Int32) (x9 : Int32) (x10 : Int32) (x13 : Int32) (x17 : Int32) (x18 : Int32) (s0 : Int32) (h : M_L_law_b1383 xs L k1337 row_c S strains_c x3 x4 x5 x6 x7 x8 x9 x10 x13 x17 x18 s0 = some res) : X G l RL cL_law 38 room_1 (x_CL sb L xs) 42 883 1383 [(0, .ref sb), (1, .ref (a 0)), (2, .ref (a_row 0)), (3, .int x3), (4, .int x4), (5, .int x5), (6, .int x6), (7, .int x7), (8, .int x8), (9, .int x9), (10, .int x10), (11, .ref (a_strains 0)), (13, .int x13), (17, .int x17), (18, .int x18)] [.int s0] ((WArr G a_row 38 row_c) ++ ((WLR G a ar al af ax ad aq S) ++ (WArr G a_strains 6 strains_c))) := by
  unfold M_L_law_b1383 at h
  refine x_iload dL_law_1383 13 rfl ?_
  refine x_iload dL_law_1385 14 rfl ?_
  refine x_ishr dL_law_1387 ?_
  refine x_iconst 1 dL_law_1388 (by decide) ?_
  refine x_iand dL_law_1389 ?_
  refine x_iconst 1 dL_law_1390 (by decide) ?_
  refine x_icmp_ne 1398 dL_law_1391 (by decide) (fun c246 => ?_) (fun c246 => ?_)
  · have h := x_neg c246 h
    refine x_iconst 0 dL_law_1398 (by decide) ?_
    exact w_L_law_b1399 hk1337 _ _ _ _ _ _ _ _ _ _ _ _ _ _ _ _ h
  · have h := x_pos c246 h
    refine x_iconst 1 dL_law_1394 (by decide) ?_
    refine x_goto 1399 dL_law_1395 (by decide) ?_
    exact w_L_law_b1399 hk1337 _ _ _ _ _ _ _ _ _ _ _ _ _ _ _ _ h
def M_L_law_b1522 (xs : Nat → Int32) (L : Nat) (k1451 : (Nat → Int32) → x_S → (Nat → Int32) → Int32 → Int32 → Int32 → Int32 → Int32 → Int32 → Int32 → Int32 → Int32 → Int32 → Int32 → Int32 → Int32 → Int32 → Option (Unit)) (row_c : (Nat → Int32)) (S : x_S) (strains_c : (Nat → Int32)) (x3 : Int32) (x4 : Int32) (x5 : Int32) (x6 : Int32) (x7 : Int32) (x8 : Int32) (x9 : Int32) (x10 : Int32) (x13 : Int32) (x18 : Int32) (x19 : Int32) (x20 : Int32) (x21 : Int32) (x22 : Int32) (x23 : Int32) (s0 : Int32) : Option (Unit) :=
  if x23 < 0 then
  (none)
  else
  (if x23 ≤ s0 then
  (k1451 row_c S strains_c x3 x4 x5 x6 x7 x8 x9 x10 x13 x18 x19 (x20 + s0) (x21 + x23) (x22 + (1 : Int32)))
  else
  (none))
set_option maxHeartbeats 4000000 in
set_option maxRecDepth 100000 in
theorem w_L_law_b1522 {sb : Nat} {xs : Nat → Int32} {G : x_G} {l : Launch} {a : Nat → Nat} {ar : Nat → Nat} {al : Nat → Nat} {af : Nat → Nat} {ax : Nat → Nat} {ad : Nat → Nat} {aq : Nat → Nat} {a_row : Nat → Nat} {a_strains : Nat → Nat} {L : Nat} {k1451 : (Nat → Int32) → x_S → (Nat → Int32) → Int32 → Int32 → Int32 → Int32 → Int32 → Int32 → Int32 → Int32 → Int32 → Int32 → Int32 → Int32 → Int32 → Int32 → Option (Unit)} {res : Unit} (hk1451 : ∀ (row_c : (Nat → Int32)) (S : x_S) (strains_c : (Nat → Int32)) (x3 : Int32) (x4 : Int32) (x5 : Int32) (x6 : Int32) (x7 : Int32) (x8 : Int32) (x9 : Int32) (x10 : Int32) (x13 : Int32) (x18 : Int32) (x19 : Int32) (x20 : Int32) (x21 : Int32) (x22 : Int32), k1451 row_c S strains_c x3 x4 x5 x6 x7 x8 x9 x10 x13 x18 x19 x20 x21 x22 = some res → X G l RL cL_law 38 room_1 (x_CL sb L xs) 42 883 1451 [(0, .ref sb), (1, .ref (a 0)), (2, .ref (a_row 0)), (3, .int x3), (4, .int x4), (5, .int x5), (6, .int x6), (7, .int x7), (8, .int x8), (9, .int x9), (10, .int x10), (11, .ref (a_strains 0)), (13, .int x13), (18, .int x18), (19, .int x19), (20, .int x20), (21, .int x21), (22, .int x22)] [] ((WArr G a_row 38 row_c) ++ ((WLR G a ar al af ax ad aq S) ++ (WArr G a_strains 6 strains_c)))) (row_c : (Nat → Int32)) (S : x_S) (strains_c : (Nat → Int32)) (x3 : Int32) (x4 : Int32) (x5 : Int32) (x6 : Int32) (x7 : Int32) (x8 : Int32) (x9 : Int32) (x10 : Int32) (x13 : Int32) (x18 : Int32) (x19 : Int32) (x20 : Int32) (x21 : Int32) (x22 : Int32) (x23 : Int32) (s0 : Int32) (h : M_L_law_b1522 xs L k1451 row_c S strains_c x3 x4 x5 x6 x7 x8 x9 x10 x13 x18 x19 x20 x21 x22 x23 s0 = some res) : X G l RL cL_law 38 room_1 (x_CL sb L xs) 42 883 1522 [(0, .ref sb), (1, .ref (a 0)), (2, .ref (a_row 0)), (3, .int x3), (4, .int x4), (5, .int x5), (6, .int x6), (7, .int x7), (8, .int x8), (9, .int x9), (10, .int x10), (11, .ref (a_strains 0)), (13, .int x13), (18, .int x18), (19, .int x19), (20, .int x20), (21, .int x21), (22, .int x22), (23, .int x23)] [.int s0] ((WArr G a_row 38 row_c) ++ ((WLR G a ar al af ax ad aq S) ++ (WArr G a_strains 6 strains_c))) := by
  unfold M_L_law_b1522 at h
  refine x_istore [(24, .int s0), (0, .ref sb), (1, .ref (a 0)), (2, .ref (a_row 0)), (3, .int x3), (4, .int x4), (5, .int x5), (6, .int x6), (7, .int x7), (8, .int x8), (9, .int x9), (10, .int x10), (11, .ref (a_strains 0)), (13, .int x13), (18, .int x18), (19, .int x19), (20, .int x20), (21, .int x21), (22, .int x22), (23, .int x23)] dL_law_1522 (by decide) rfl ?_
  refine x_iload dL_law_1524 16 rfl ?_
  refine x_iload dL_law_1526 0 rfl ?_
  refine x_iadd dL_law_1528 ?_
  refine x_istore [(20, .int (x20 + s0)), (24, .int s0), (0, .ref sb), (1, .ref (a 0)), (2, .ref (a_row 0)), (3, .int x3), (4, .int x4), (5, .int x5), (6, .int x6), (7, .int x7), (8, .int x8), (9, .int x9), (10, .int x10), (11, .ref (a_strains 0)), (13, .int x13), (18, .int x18), (19, .int x19), (21, .int x21), (22, .int x22), (23, .int x23)] dL_law_1529 (by decide) rfl ?_
  refine x_iload dL_law_1531 17 rfl ?_
  refine x_iload dL_law_1533 19 rfl ?_
  refine x_iadd dL_law_1535 ?_
  refine x_istore [(21, .int (x21 + x23)), (20, .int (x20 + s0)), (24, .int s0), (0, .ref sb), (1, .ref (a 0)), (2, .ref (a_row 0)), (3, .int x3), (4, .int x4), (5, .int x5), (6, .int x6), (7, .int x7), (8, .int x8), (9, .int x9), (10, .int x10), (11, .ref (a_strains 0)), (13, .int x13), (18, .int x18), (19, .int x19), (22, .int x22), (23, .int x23)] dL_law_1536 (by decide) rfl ?_
  refine x_iload dL_law_1538 19 rfl ?_
  refine x_if_lt 1550 dL_law_1540 (by decide) (fun c266 => ?_) (fun c266 => ?_)
  · have h := x_pos c266 h
    refine x_iconst 0 dL_law_1550 (by decide) ?_
    cases h
  · have h := x_neg c266 h
    refine x_iload dL_law_1543 19 rfl ?_
    refine x_iload dL_law_1545 2 rfl ?_
    refine x_icmp_le 1552 dL_law_1547 (by decide) (fun c267 => ?_) (fun c267 => ?_)
    · have h := x_pos c267 h
      refine x_iinc (j := 18) (1 : Int32) [(22, .int (x22 + (1 : Int32))), (21, .int (x21 + x23)), (20, .int (x20 + s0)), (24, .int s0), (0, .ref sb), (1, .ref (a 0)), (2, .ref (a_row 0)), (3, .int x3), (4, .int x4), (5, .int x5), (6, .int x6), (7, .int x7), (8, .int x8), (9, .int x9), (10, .int x10), (11, .ref (a_strains 0)), (13, .int x13), (18, .int x18), (19, .int x19), (23, .int x23)] dL_law_1552 (by decide) rfl (by decide) rfl ?_
      refine x_goto 1451 dL_law_1555 (by decide) ?_
      refine x_lv [4, 5, 6, 7, 8, 9, 10, 11, 12, 13, 14, 15, 16, 17, 18, 2, 1, 0] rfl ?_
      exact hk1451 _ _ _ _ _ _ _ _ _ _ _ _ _ _ _ _ _ h
    · have h := x_neg c267 h
      refine x_iconst 0 dL_law_1550 (by decide) ?_
      cases h
def M_L_law_b1509 (xs : Nat → Int32) (L : Nat) (k1451 : (Nat → Int32) → x_S → (Nat → Int32) → Int32 → Int32 → Int32 → Int32 → Int32 → Int32 → Int32 → Int32 → Int32 → Int32 → Int32 → Int32 → Int32 → Int32 → Option (Unit)) (row_c : (Nat → Int32)) (S : x_S) (strains_c : (Nat → Int32)) (x3 : Int32) (x4 : Int32) (x5 : Int32) (x6 : Int32) (x7 : Int32) (x8 : Int32) (x9 : Int32) (x10 : Int32) (x13 : Int32) (x18 : Int32) (x19 : Int32) (x20 : Int32) (x21 : Int32) (x22 : Int32) (x23 : Int32) (s0 : Int32) : Option (Unit) :=
  if 0 ≤ s0 then
  (M_L_law_b1522 xs L k1451 row_c S strains_c x3 x4 x5 x6 x7 x8 x9 x10 x13 x18 x19 x20 x21 x22 x23 s0)
  else
  (M_L_law_b1522 xs L k1451 row_c S strains_c x3 x4 x5 x6 x7 x8 x9 x10 x13 x18 x19 x20 x21 x22 x23 (0 : Int32))
set_option maxHeartbeats 4000000 in
set_option maxRecDepth 100000 in
theorem w_L_law_b1509 {sb : Nat} {xs : Nat → Int32} {G : x_G} {l : Launch} {a : Nat → Nat} {ar : Nat → Nat} {al : Nat → Nat} {af : Nat → Nat} {ax : Nat → Nat} {ad : Nat → Nat} {aq : Nat → Nat} {a_row : Nat → Nat} {a_strains : Nat → Nat} {L : Nat} {k1451 : (Nat → Int32) → x_S → (Nat → Int32) → Int32 → Int32 → Int32 → Int32 → Int32 → Int32 → Int32 → Int32 → Int32 → Int32 → Int32 → Int32 → Int32 → Int32 → Option (Unit)} {res : Unit} (hk1451 : ∀ (row_c : (Nat → Int32)) (S : x_S) (strains_c : (Nat → Int32)) (x3 : Int32) (x4 : Int32) (x5 : Int32) (x6 : Int32) (x7 : Int32) (x8 : Int32) (x9 : Int32) (x10 : Int32) (x13 : Int32) (x18 : Int32) (x19 : Int32) (x20 : Int32) (x21 : Int32) (x22 : Int32), k1451 row_c S strains_c x3 x4 x5 x6 x7 x8 x9 x10 x13 x18 x19 x20 x21 x22 = some res → X G l RL cL_law 38 room_1 (x_CL sb L xs) 42 883 1451 [(0, .ref sb), (1, .ref (a 0)), (2, .ref (a_row 0)), (3, .int x3), (4, .int x4), (5, .int x5), (6, .int x6), (7, .int x7), (8, .int x8), (9, .int x9), (10, .int x10), (11, .ref (a_strains 0)), (13, .int x13), (18, .int x18), (19, .int x19), (20, .int x20), (21, .int x21), (22, .int x22)] [] ((WArr G a_row 38 row_c) ++ ((WLR G a ar al af ax ad aq S) ++ (WArr G a_strains 6 strains_c)))) (row_c : (Nat → Int32)) (S : x_S) (strains_c : (Nat → Int32)) (x3 : Int32) (x4 : Int32) (x5 : Int32) (x6 : Int32) (x7 : Int32) (x8 : Int32) (x9 : Int32) (x10 : Int32) (x13 : Int32) (x18 : Int32) (x19 : Int32) (x20 : Int32) (x21 : Int32) (x22 : Int32) (x23 : Int32) (s0 : Int32) (h : M_L_law_b1509 xs L k1451 row_c S strains_c x3 x4 x5 x6 x7 x8 x9 x10 x13 x18 x19 x20 x21 x22 x23 s0 = some res) : X G l RL cL_law 38 room_1 (x_CL sb L xs) 42 883 1509 [(0, .ref sb), (1, .ref (a 0)), (2, .ref (a_row 0)), (3, .int x3), (4, .int x4), (5, .int x5), (6, .int x6), (7, .int x7), (8, .int x8), (9, .int x9), (10, .int x10), (11, .ref (a_strains 0)), (13, .int x13), (18, .int x18), (19, .int x19), (20, .int x20), (21, .int x21), (22, .int x22), (23, .int x23)] [.int s0] ((WArr G a_row 38 row_c) ++ ((WLR G a ar al af ax ad aq S) ++ (WArr G a_strains 6 strains_c))) := by
  unfold M_L_law_b1509 at h
  refine x_istore [(24, .int s0), (0, .ref sb), (1, .ref (a 0)), (2, .ref (a_row 0)), (3, .int x3), (4, .int x4), (5, .int x5), (6, .int x6), (7, .int x7), (8, .int x8), (9, .int x9), (10, .int x10), (11, .ref (a_strains 0)), (13, .int x13), (18, .int x18), (19, .int x19), (20, .int x20), (21, .int x21), (22, .int x22), (23, .int x23)] dL_law_1509 (by decide) rfl ?_
  refine x_iload dL_law_1511 0 rfl ?_
  refine x_if_ge 1520 dL_law_1513 (by decide) (fun c265 => ?_) (fun c265 => ?_)
  · have h := x_pos c265 h
    refine x_iload dL_law_1520 0 rfl ?_
    refine x_lv [1, 2, 3, 4, 5, 6, 7, 8, 9, 10, 11, 12, 13, 14, 15, 16, 17, 18, 19] rfl ?_
    exact w_L_law_b1522 hk1451 _ _ _ _ _ _ _ _ _ _ _ _ _ _ _ _ _ _ _ h
  · have h := x_neg c265 h
    refine x_iconst 0 dL_law_1516 (by decide) ?_
    refine x_goto 1522 dL_law_1517 (by decide) ?_
    refine x_lv [1, 2, 3, 4, 5, 6, 7, 8, 9, 10, 11, 12, 13, 14, 15, 16, 17, 18, 19] rfl ?_
    exact w_L_law_b1522 hk1451 _ _ _ _ _ _ _ _ _ _ _ _ _ _ _ _ _ _ _ h
def M_L_law_b1476 (xs : Nat → Int32) (L : Nat) (k1451 : (Nat → Int32) → x_S → (Nat → Int32) → Int32 → Int32 → Int32 → Int32 → Int32 → Int32 → Int32 → Int32 → Int32 → Int32 → Int32 → Int32 → Int32 → Int32 → Option (Unit)) (row_c : (Nat → Int32)) (S : x_S) (strains_c : (Nat → Int32)) (x3 : Int32) (x4 : Int32) (x5 : Int32) (x6 : Int32) (x7 : Int32) (x8 : Int32) (x9 : Int32) (x10 : Int32) (x13 : Int32) (x18 : Int32) (x19 : Int32) (x20 : Int32) (x21 : Int32) (x22 : Int32) (s0 : Int32) : Option (Unit) :=
  if (((x8 ||| x9) >>> (x22 &&& (31 : Int32))) &&& (1 : Int32)) = (1 : Int32) then
  (M_L_law_b1509 xs L k1451 row_c S strains_c x3 x4 x5 x6 x7 x8 x9 x10 x13 x18 x19 x20 x21 x22 s0 (0 : Int32))
  else
  ((M_L_told S x22 (1 : Int32)).bind fun r262 =>
  if inb x22 6 then
  M_L_law_b1509 xs L k1451 row_c r262.2 strains_c x3 x4 x5 x6 x7 x8 x9 x10 x13 x18 x19 x20 x21 x22 s0 (r262.1 - (strains_c x22.toNatClampNeg))
  else none)
set_option maxHeartbeats 4000000 in
set_option maxRecDepth 100000 in
theorem w_L_law_b1476 {sb : Nat} {xs : Nat → Int32} {G : x_G} {l : Launch} {a : Nat → Nat} {ar : Nat → Nat} {al : Nat → Nat} {af : Nat → Nat} {ax : Nat → Nat} {ad : Nat → Nat} {aq : Nat → Nat} {a_row : Nat → Nat} {a_strains : Nat → Nat} {L : Nat} {k1451 : (Nat → Int32) → x_S → (Nat → Int32) → Int32 → Int32 → Int32 → Int32 → Int32 → Int32 → Int32 → Int32 → Int32 → Int32 → Int32 → Int32 → Int32 → Int32 → Option (Unit)} {res : Unit} (hk1451 : ∀ (row_c : (Nat → Int32)) (S : x_S) (strains_c : (Nat → Int32)) (x3 : Int32) (x4 : Int32) (x5 : Int32) (x6 : Int32) (x7 : Int32) (x8 : Int32) (x9 : Int32) (x10 : Int32) (x13 : Int32) (x18 : Int32) (x19 : Int32) (x20 : Int32) (x21 : Int32) (x22 : Int32), k1451 row_c S strains_c x3 x4 x5 x6 x7 x8 x9 x10 x13 x18 x19 x20 x21 x22 = some res → X G l RL cL_law 38 room_1 (x_CL sb L xs) 42 883 1451 [(0, .ref sb), (1, .ref (a 0)), (2, .ref (a_row 0)), (3, .int x3), (4, .int x4), (5, .int x5), (6, .int x6), (7, .int x7), (8, .int x8), (9, .int x9), (10, .int x10), (11, .ref (a_strains 0)), (13, .int x13), (18, .int x18), (19, .int x19), (20, .int x20), (21, .int x21), (22, .int x22)] [] ((WArr G a_row 38 row_c) ++ ((WLR G a ar al af ax ad aq S) ++ (WArr G a_strains 6 strains_c)))) (row_c : (Nat → Int32)) (S : x_S) (strains_c : (Nat → Int32)) (x3 : Int32) (x4 : Int32) (x5 : Int32) (x6 : Int32) (x7 : Int32) (x8 : Int32) (x9 : Int32) (x10 : Int32) (x13 : Int32) (x18 : Int32) (x19 : Int32) (x20 : Int32) (x21 : Int32) (x22 : Int32) (s0 : Int32) (h : M_L_law_b1476 xs L k1451 row_c S strains_c x3 x4 x5 x6 x7 x8 x9 x10 x13 x18 x19 x20 x21 x22 s0 = some res) : X G l RL cL_law 38 room_1 (x_CL sb L xs) 42 883 1476 [(0, .ref sb), (1, .ref (a 0)), (2, .ref (a_row 0)), (3, .int x3), (4, .int x4), (5, .int x5), (6, .int x6), (7, .int x7), (8, .int x8), (9, .int x9), (10, .int x10), (11, .ref (a_strains 0)), (13, .int x13), (18, .int x18), (19, .int x19), (20, .int x20), (21, .int x21), (22, .int x22)] [.int s0] ((WArr G a_row 38 row_c) ++ ((WLR G a ar al af ax ad aq S) ++ (WArr G a_strains 6 strains_c))) := by
  unfold M_L_law_b1476 at h
  refine x_istore [(23, .int s0), (0, .ref sb), (1, .ref (a 0)), (2, .ref (a_row 0)), (3, .int x3), (4, .int x4), (5, .int x5), (6, .int x6), (7, .int x7), (8, .int x8), (9, .int x9), (10, .int x10), (11, .ref (a_strains 0)), (13, .int x13), (18, .int x18), (19, .int x19), (20, .int x20), (21, .int x21), (22, .int x22)] dL_law_1476 (by decide) rfl ?_
  refine x_iload dL_law_1478 9 rfl ?_
  refine x_iload dL_law_1480 10 rfl ?_
  refine x_ior dL_law_1482 ?_
  refine x_iload dL_law_1483 18 rfl ?_
  refine x_ishr dL_law_1485 ?_
  refine x_iconst 1 dL_law_1486 (by decide) ?_
  refine x_iand dL_law_1487 ?_
  refine x_iconst 1 dL_law_1488 (by decide) ?_
  refine x_icmp_ne 1496 dL_law_1489 (by decide) (fun c261 => ?_) (fun c261 => ?_)
  · have h := x_neg c261 h
    refine x_aload_n dL_law_1496 2 rfl rfl ?_
    refine x_iload dL_law_1497 18 rfl ?_
    refine x_iconst 1 dL_law_1499 (by decide) ?_
    obtain ⟨r262, e263, h⟩ := x_bind h
    refine x_cS (As := [.ref (a 0), .int x22, .int (1 : Int32)]) (wc := (WLR G a ar al af ax ad aq S)) (w1 := (WLR G a ar al af ax ad aq r262.2)) (pre := (WArr G a_row 38 row_c)) (post := (WArr G a_strains 6 strains_c)) (rest := []) (st1 := [.int r262.1]) (ws1 := ((WArr G a_row 38 row_c) ++ ((WLR G a ar al af ax ad aq r262.2) ++ (WArr G a_strains 6 strains_c)))) dL_law_1500 (c_L_told (a := a) e263) pk_L_told ml_L_68 (by simp only [List.append_assoc, List.append_nil, List.nil_append]) rfl rfl rfl rfl rfl (by simp only [List.append_assoc, List.append_nil, List.nil_append]) ?_
    refine x_aload dL_law_1503 12 rfl ?_
    refine x_iload dL_law_1505 18 rfl ?_
    obtain ⟨b264, h⟩ := x_guard h
    refine x_iald x22.toNatClampNeg (q0 := 41) dL_law_1507 rfl rfl b264 ?_
    refine x_isub dL_law_1508 ?_
    refine x_lv [1, 2, 3, 4, 5, 6, 7, 8, 9, 10, 11, 12, 13, 14, 15, 16, 17, 18, 0] rfl ?_
    exact w_L_law_b1509 hk1451 _ _ _ _ _ _ _ _ _ _ _ _ _ _ _ _ _ _ _ h
  · have h := x_pos c261 h
    refine x_iconst 0 dL_law_1492 (by decide) ?_
    refine x_goto 1509 dL_law_1493 (by decide) ?_
    refine x_lv [1, 2, 3, 4, 5, 6, 7, 8, 9, 10, 11, 12, 13, 14, 15, 16, 17, 18, 0] rfl ?_
    exact w_L_law_b1509 hk1451 _ _ _ _ _ _ _ _ _ _ _ _ _ _ _ _ _ _ _ h
def M_L_law_b2221 (xs : Nat → Int32) (L : Nat) (k2036 : (Nat → Int32) → x_S → (Nat → Int32) → (Nat → Int32) → (Nat → Int32) → Int32 → Int32 → Int32 → Int32 → Int32 → Int32 → Option (Unit)) (row_c : (Nat → Int32)) (S : x_S) (strains_c : (Nat → Int32)) (was_c : (Nat → Int32)) (ptd_c : (Nat → Int32)) (x3 : Int32) (x5 : Int32) (x6 : Int32) (x29 : Int32) (x32 : Int32) (x33 : Int32) : Option (Unit) :=
  (M_LR_count S (2 : Int32)).bind fun r412 =>
  if r412 = (x5 + x32) then
  (k2036 row_c S strains_c was_c ptd_c x3 x5 x6 x29 x32 (x33 + (1 : Int32)))
  else
  (none)
set_option maxHeartbeats 4000000 in
set_option maxRecDepth 100000 in
theorem w_L_law_b2221 {sb : Nat} {xs : Nat → Int32} {G : x_G} {l : Launch} {a : Nat → Nat} {ar : Nat → Nat} {al : Nat → Nat} {af : Nat → Nat} {ax : Nat → Nat} {ad : Nat → Nat} {aq : Nat → Nat} {a_row : Nat → Nat} {a_strains : Nat → Nat} {a_was : Nat → Nat} {a_ptd : Nat → Nat} {L : Nat} {k2036 : (Nat → Int32) → x_S → (Nat → Int32) → (Nat → Int32) → (Nat → Int32) → Int32 → Int32 → Int32 → Int32 → Int32 → Int32 → Option (Unit)} {res : Unit} (hk2036 : ∀ (row_c : (Nat → Int32)) (S : x_S) (strains_c : (Nat → Int32)) (was_c : (Nat → Int32)) (ptd_c : (Nat → Int32)) (x3 : Int32) (x5 : Int32) (x6 : Int32) (x29 : Int32) (x32 : Int32) (x33 : Int32), k2036 row_c S strains_c was_c ptd_c x3 x5 x6 x29 x32 x33 = some res → X G l RL cL_law 38 room_1 (x_CL sb L xs) 44 915 2036 [(0, .ref sb), (1, .ref (a 0)), (2, .ref (a_row 0)), (3, .int x3), (5, .int x5), (6, .int x6), (29, .int x29), (30, .ref (a_was 0)), (31, .ref (a_ptd 0)), (32, .int x32), (33, .int x33)] [] ((WArr G a_row 38 row_c) ++ ((WLR G a ar al af ax ad aq S) ++ ((WArr G a_strains 6 strains_c) ++ ((WArr G a_was 16 was_c) ++ (WArr G a_ptd 16 ptd_c)))))) (row_c : (Nat → Int32)) (S : x_S) (strains_c : (Nat → Int32)) (was_c : (Nat → Int32)) (ptd_c : (Nat → Int32)) (x3 : Int32) (x5 : Int32) (x6 : Int32) (x29 : Int32) (x32 : Int32) (x33 : Int32) (h : M_L_law_b2221 xs L k2036 row_c S strains_c was_c ptd_c x3 x5 x6 x29 x32 x33 = some res) : X G l RL cL_law 38 room_1 (x_CL sb L xs) 44 915 2221 [(0, .ref sb), (1, .ref (a 0)), (2, .ref (a_row 0)), (3, .int x3), (5, .int x5), (6, .int x6), (29, .int x29), (30, .ref (a_was 0)), (31, .ref (a_ptd 0)), (32, .int x32), (33, .int x33)] [] ((WArr G a_row 38 row_c) ++ ((WLR G a ar al af ax ad aq S) ++ ((WArr G a_strains 6 strains_c) ++ ((WArr G a_was 16 was_c) ++ (WArr G a_ptd 16 ptd_c))))) := by
  unfold M_L_law_b2221 at h
  refine x_aload_n dL_law_2221 1 rfl rfl ?_
  refine x_iconst 2 dL_law_2222 (by decide) ?_
  obtain ⟨r412, e413, h⟩ := x_bind h
  refine x_cV (As := [.int (2 : Int32)]) (wc := (WLR G a ar al af ax ad aq S)) (w1 := (WLR G a ar al af ax ad aq S)) (pre := (WArr G a_row 38 row_c)) (post := ((WArr G a_strains 6 strains_c) ++ ((WArr G a_was 16 was_c) ++ (WArr G a_ptd 16 ptd_c)))) (rest := []) (st1 := [.int r412]) (ws1 := ((WArr G a_row 38 row_c) ++ ((WLR G a ar al af ax ad aq S) ++ ((WArr G a_strains 6 strains_c) ++ ((WArr G a_was 16 was_c) ++ (WArr G a_ptd 16 ptd_c)))))) (ci := 4) 0 dL_law_2223 (c_LR_count (a := a) e413) pk_X6_count ml_L_62 (by simp only [List.append_assoc, List.append_nil, List.nil_append]) rfl rfl rfl rfl rfl rfl rfl rfl (by simp only [List.append_assoc, List.append_nil, List.nil_append]) ?_
  refine x_iload dL_law_2226 4 rfl ?_
  refine x_iload dL_law_2228 9 rfl ?_
  refine x_iadd dL_law_2230 ?_
  refine x_icmp_eq 2236 dL_law_2231 (by decide) (fun c414 => ?_) (fun c414 => ?_)
  · have h := x_pos c414 h
    refine x_iinc (j := 10) (1 : Int32) [(33, .int (x33 + (1 : Int32))), (0, .ref sb), (1, .ref (a 0)), (2, .ref (a_row 0)), (3, .int x3), (5, .int x5), (6, .int x6), (29, .int x29), (30, .ref (a_was 0)), (31, .ref (a_ptd 0)), (32, .int x32)] dL_law_2236 (by decide) rfl (by decide) rfl ?_
    refine x_goto 2036 dL_law_2239 (by decide) ?_
    refine x_lv [1, 2, 3, 4, 5, 6, 7, 8, 9, 10, 0] rfl ?_
    exact hk2036 _ _ _ _ _ _ _ _ _ _ _ h
  · have h := x_neg c414 h
    refine x_iconst 0 dL_law_2234 (by decide) ?_
    cases h
def M_L_law_b2202 (xs : Nat → Int32) (L : Nat) (k2036 : (Nat → Int32) → x_S → (Nat → Int32) → (Nat → Int32) → (Nat → Int32) → Int32 → Int32 → Int32 → Int32 → Int32 → Int32 → Option (Unit)) (row_c : (Nat → Int32)) (S : x_S) (strains_c : (Nat → Int32)) (was_c : (Nat → Int32)) (ptd_c : (Nat → Int32)) (x3 : Int32) (x5 : Int32) (x6 : Int32) (x29 : Int32) (x32 : Int32) (x33 : Int32) (x37 : Int32) : Option (Unit) :=
  if x37 < (-4 : Int32) then
  (none)
  else
  (if x37 ≤ (-4 : Int32) then
  (M_L_law_b2221 xs L k2036 row_c S strains_c was_c ptd_c x3 x5 x6 x29 x32 x33)
  else
  (if x37 < 0 then
  (none)
  else
  (M_L_law_b2221 xs L k2036 row_c S strains_c was_c ptd_c x3 x5 x6 x29 x32 x33)))
set_option maxHeartbeats 4000000 in
set_option maxRecDepth 100000 in
theorem w_L_law_b2202 {sb : Nat} {xs : Nat → Int32} {G : x_G} {l : Launch} {a : Nat → Nat} {ar : Nat → Nat} {al : Nat → Nat} {af : Nat → Nat} {ax : Nat → Nat} {ad : Nat → Nat} {aq : Nat → Nat} {a_row : Nat → Nat} {a_strains : Nat → Nat} {a_was : Nat → Nat} {a_ptd : Nat → Nat} {L : Nat} {k2036 : (Nat → Int32) → x_S → (Nat → Int32) → (Nat → Int32) → (Nat → Int32) → Int32 → Int32 → Int32 → Int32 → Int32 → Int32 → Option (Unit)} {res : Unit} (hk2036 : ∀ (row_c : (Nat → Int32)) (S : x_S) (strains_c : (Nat → Int32)) (was_c : (Nat → Int32)) (ptd_c : (Nat → Int32)) (x3 : Int32) (x5 : Int32) (x6 : Int32) (x29 : Int32) (x32 : Int32) (x33 : Int32), k2036 row_c S strains_c was_c ptd_c x3 x5 x6 x29 x32 x33 = some res → X G l RL cL_law 38 room_1 (x_CL sb L xs) 44 915 2036 [(0, .ref sb), (1, .ref (a 0)), (2, .ref (a_row 0)), (3, .int x3), (5, .int x5), (6, .int x6), (29, .int x29), (30, .ref (a_was 0)), (31, .ref (a_ptd 0)), (32, .int x32), (33, .int x33)] [] ((WArr G a_row 38 row_c) ++ ((WLR G a ar al af ax ad aq S) ++ ((WArr G a_strains 6 strains_c) ++ ((WArr G a_was 16 was_c) ++ (WArr G a_ptd 16 ptd_c)))))) (row_c : (Nat → Int32)) (S : x_S) (strains_c : (Nat → Int32)) (was_c : (Nat → Int32)) (ptd_c : (Nat → Int32)) (x3 : Int32) (x5 : Int32) (x6 : Int32) (x29 : Int32) (x32 : Int32) (x33 : Int32) (x37 : Int32) (h : M_L_law_b2202 xs L k2036 row_c S strains_c was_c ptd_c x3 x5 x6 x29 x32 x33 x37 = some res) : X G l RL cL_law 38 room_1 (x_CL sb L xs) 44 915 2202 [(0, .ref sb), (1, .ref (a 0)), (2, .ref (a_row 0)), (3, .int x3), (5, .int x5), (6, .int x6), (29, .int x29), (30, .ref (a_was 0)), (31, .ref (a_ptd 0)), (32, .int x32), (33, .int x33), (37, .int x37)] [] ((WArr G a_row 38 row_c) ++ ((WLR G a ar al af ax ad aq S) ++ ((WArr G a_strains 6 strains_c) ++ ((WArr G a_was 16 was_c) ++ (WArr G a_ptd 16 ptd_c))))) := by
  unfold M_L_law_b2202 at h
  refine x_iload dL_law_2202 11 rfl ?_
  refine x_bipush (-4 : Int32) dL_law_2204 (by decide) ?_
  refine x_icmp_lt 2234 dL_law_2206 (by decide) (fun c409 => ?_) (fun c409 => ?_)
  · have h := x_pos c409 h
    refine x_iconst 0 dL_law_2234 (by decide) ?_
    cases h
  · have h := x_neg c409 h
    refine x_iload dL_law_2209 11 rfl ?_
    refine x_bipush (-4 : Int32) dL_law_2211 (by decide) ?_
    refine x_icmp_le 2221 dL_law_2213 (by decide) (fun c410 => ?_) (fun c410 => ?_)
    · have h := x_pos c410 h
      refine x_lv [0, 1, 2, 3, 4, 5, 6, 7, 8, 9, 10] rfl ?_
      exact w_L_law_b2221 hk2036 _ _ _ _ _ _ _ _ _ _ _ h
    · have h := x_neg c410 h
      refine x_iload dL_law_2216 11 rfl ?_
      refine x_if_lt 2234 dL_law_2218 (by decide) (fun c411 => ?_) (fun c411 => ?_)
      · have h := x_pos c411 h
        refine x_iconst 0 dL_law_2234 (by decide) ?_
        cases h
      · have h := x_neg c411 h
        refine x_lv [0, 1, 2, 3, 4, 5, 6, 7, 8, 9, 10] rfl ?_
        exact w_L_law_b2221 hk2036 _ _ _ _ _ _ _ _ _ _ _ h
def M_L_law_b2169 (xs : Nat → Int32) (L : Nat) (k2036 : (Nat → Int32) → x_S → (Nat → Int32) → (Nat → Int32) → (Nat → Int32) → Int32 → Int32 → Int32 → Int32 → Int32 → Int32 → Option (Unit)) (row_c : (Nat → Int32)) (S : x_S) (strains_c : (Nat → Int32)) (was_c : (Nat → Int32)) (ptd_c : (Nat → Int32)) (x3 : Int32) (x5 : Int32) (x6 : Int32) (x29 : Int32) (x32 : Int32) (x33 : Int32) (s0 : Int32) : Option (Unit) :=
  if s0 = (-4 : Int32) then
  (M_L_law_b2202 xs L k2036 row_c S strains_c was_c ptd_c x3 x5 x6 x29 x32 x33 s0)
  else
  ((M_LR_count S (4 : Int32)).bind fun r404 =>
  if inb (x32 + (1 : Int32)) 16 then
  (M_LR_count S (6 : Int32)).bind fun r407 =>
  M_L_law_b2202 xs L k2036 row_c S strains_c (upd was_c (x32 + (1 : Int32)).toNatClampNeg r404) (upd ptd_c (x32 + (1 : Int32)).toNatClampNeg r407) x3 x5 x6 x29 (x32 + (1 : Int32)) x33 s0
  else none)
set_option maxHeartbeats 4000000 in
set_option maxRecDepth 100000 in
theorem w_L_law_b2169 {sb : Nat} {xs : Nat → Int32} {G : x_G} {l : Launch} {a : Nat → Nat} {ar : Nat → Nat} {al : Nat → Nat} {af : Nat → Nat} {ax : Nat → Nat} {ad : Nat → Nat} {aq : Nat → Nat} {a_row : Nat → Nat} {a_strains : Nat → Nat} {a_was : Nat → Nat} {a_ptd : Nat → Nat} {L : Nat} {k2036 : (Nat → Int32) → x_S → (Nat → Int32) → (Nat → Int32) → (Nat → Int32) → Int32 → Int32 → Int32 → Int32 → Int32 → Int32 → Option (Unit)} {res : Unit} (hk2036 : ∀ (row_c : (Nat → Int32)) (S : x_S) (strains_c : (Nat → Int32)) (was_c : (Nat → Int32)) (ptd_c : (Nat → Int32)) (x3 : Int32) (x5 : Int32) (x6 : Int32) (x29 : Int32) (x32 : Int32) (x33 : Int32), k2036 row_c S strains_c was_c ptd_c x3 x5 x6 x29 x32 x33 = some res → X G l RL cL_law 38 room_1 (x_CL sb L xs) 44 915 2036 [(0, .ref sb), (1, .ref (a 0)), (2, .ref (a_row 0)), (3, .int x3), (5, .int x5), (6, .int x6), (29, .int x29), (30, .ref (a_was 0)), (31, .ref (a_ptd 0)), (32, .int x32), (33, .int x33)] [] ((WArr G a_row 38 row_c) ++ ((WLR G a ar al af ax ad aq S) ++ ((WArr G a_strains 6 strains_c) ++ ((WArr G a_was 16 was_c) ++ (WArr G a_ptd 16 ptd_c)))))) (row_c : (Nat → Int32)) (S : x_S) (strains_c : (Nat → Int32)) (was_c : (Nat → Int32)) (ptd_c : (Nat → Int32)) (x3 : Int32) (x5 : Int32) (x6 : Int32) (x29 : Int32) (x32 : Int32) (x33 : Int32) (s0 : Int32) (h : M_L_law_b2169 xs L k2036 row_c S strains_c was_c ptd_c x3 x5 x6 x29 x32 x33 s0 = some res) : X G l RL cL_law 38 room_1 (x_CL sb L xs) 44 915 2169 [(0, .ref sb), (1, .ref (a 0)), (2, .ref (a_row 0)), (3, .int x3), (5, .int x5), (6, .int x6), (29, .int x29), (30, .ref (a_was 0)), (31, .ref (a_ptd 0)), (32, .int x32), (33, .int x33)] [.int s0] ((WArr G a_row 38 row_c) ++ ((WLR G a ar al af ax ad aq S) ++ ((WArr G a_strains 6 strains_c) ++ ((WArr G a_was 16 was_c) ++ (WArr G a_ptd 16 ptd_c))))) := by
  unfold M_L_law_b2169 at h
  refine x_istore [(37, .int s0), (0, .ref sb), (1, .ref (a 0)), (2, .ref (a_row 0)), (3, .int x3), (5, .int x5), (6, .int x6), (29, .int x29), (30, .ref (a_was 0)), (31, .ref (a_ptd 0)), (32, .int x32), (33, .int x33)] dL_law_2169 (by decide) rfl ?_
  refine x_iload dL_law_2171 0 rfl ?_
  refine x_bipush (-4 : Int32) dL_law_2173 (by decide) ?_
  refine x_icmp_eq 2202 dL_law_2175 (by decide) (fun c403 => ?_) (fun c403 => ?_)
  · have h := x_pos c403 h
    refine x_lv [1, 2, 3, 4, 5, 6, 7, 8, 9, 10, 11, 0] rfl ?_
    exact w_L_law_b2202 hk2036 _ _ _ _ _ _ _ _ _ _ _ _ h
  · have h := x_neg c403 h
    refine x_iinc (j := 10) (1 : Int32) [(32, .int (x32 + (1 : Int32))), (37, .int s0), (0, .ref sb), (1, .ref (a 0)), (2, .ref (a_row 0)), (3, .int x3), (5, .int x5), (6, .int x6), (29, .int x29), (30, .ref (a_was 0)), (31, .ref (a_ptd 0)), (33, .int x33)] dL_law_2178 (by decide) rfl (by decide) rfl ?_
    refine x_aload dL_law_2181 9 rfl ?_
    refine x_iload dL_law_2183 0 rfl ?_
    refine x_aload_n dL_law_2185 3 rfl rfl ?_
    refine x_iconst 4 dL_law_2186 (by decide) ?_
    obtain ⟨r404, e405, h⟩ := x_bind h
    refine x_cV (As := [.int (4 : Int32)]) (wc := (WLR G a ar al af ax ad aq S)) (w1 := (WLR G a ar al af ax ad aq S)) (pre := (WArr G a_row 38 row_c)) (post := ((WArr G a_strains 6 strains_c) ++ ((WArr G a_was 16 was_c) ++ (WArr G a_ptd 16 ptd_c)))) (rest := [.int (x32 + (1 : Int32)), .ref (a_was 0)]) (st1 := [.int r404, .int (x32 + (1 : Int32)), .ref (a_was 0)]) (ws1 := ((WArr G a_row 38 row_c) ++ ((WLR G a ar al af ax ad aq S) ++ ((WArr G a_strains 6 strains_c) ++ ((WArr G a_was 16 was_c) ++ (WArr G a_ptd 16 ptd_c)))))) (ci := 4) 0 dL_law_2187 (c_LR_count (a := a) e405) pk_X6_count ml_L_62 (by simp only [List.append_assoc, List.append_nil, List.nil_append]) rfl rfl rfl rfl rfl rfl rfl rfl (by simp only [List.append_assoc, List.append_nil, List.nil_append]) ?_
    obtain ⟨b406, h⟩ := x_guard h
    refine x_iast (x32 + (1 : Int32)).toNatClampNeg (q0 := 42) ((WArr G a_row 38 row_c) ++ ((WLR G a ar al af ax ad aq S) ++ ((WArr G a_strains 6 strains_c) ++ ((WArr G a_was 16 ((upd was_c (x32 + (1 : Int32)).toNatClampNeg r404))) ++ (WArr G a_ptd 16 ptd_c))))) dL_law_2190 rfl rfl b406 rfl ?_
    refine x_aload dL_law_2191 10 rfl ?_
    refine x_iload dL_law_2193 0 rfl ?_
    refine x_aload_n dL_law_2195 3 rfl rfl ?_
    refine x_bipush 6 dL_law_2196 (by decide) ?_
    obtain ⟨r407, e408, h⟩ := x_bind h
    refine x_cV (As := [.int (6 : Int32)]) (wc := (WLR G a ar al af ax ad aq S)) (w1 := (WLR G a ar al af ax ad aq S)) (pre := (WArr G a_row 38 row_c)) (post := ((WArr G a_strains 6 strains_c) ++ ((WArr G a_was 16 ((upd was_c (x32 + (1 : Int32)).toNatClampNeg r404))) ++ (WArr G a_ptd 16 ptd_c)))) (rest := [.int (x32 + (1 : Int32)), .ref (a_ptd 0)]) (st1 := [.int r407, .int (x32 + (1 : Int32)), .ref (a_ptd 0)]) (ws1 := ((WArr G a_row 38 row_c) ++ ((WLR G a ar al af ax ad aq S) ++ ((WArr G a_strains 6 strains_c) ++ ((WArr G a_was 16 ((upd was_c (x32 + (1 : Int32)).toNatClampNeg r404))) ++ (WArr G a_ptd 16 ptd_c)))))) (ci := 4) 0 dL_law_2198 (c_LR_count (a := a) e408) pk_X6_count ml_L_62 (by simp only [List.append_assoc, List.append_nil, List.nil_append]) rfl rfl rfl rfl rfl rfl rfl rfl (by simp only [List.append_assoc, List.append_nil, List.nil_append]) ?_
    refine x_iast (x32 + (1 : Int32)).toNatClampNeg (q0 := 43) ((WArr G a_row 38 row_c) ++ ((WLR G a ar al af ax ad aq S) ++ ((WArr G a_strains 6 strains_c) ++ ((WArr G a_was 16 ((upd was_c (x32 + (1 : Int32)).toNatClampNeg r404))) ++ (WArr G a_ptd 16 ((upd ptd_c (x32 + (1 : Int32)).toNatClampNeg r407))))))) dL_law_2201 rfl rfl b406 rfl ?_
    refine x_lv [2, 3, 4, 5, 6, 7, 8, 9, 10, 0, 11, 1] rfl ?_
    exact w_L_law_b2202 hk2036 _ _ _ _ _ _ _ _ _ _ _ _ h
def M_L_law_b2272 (xs : Nat → Int32) (L : Nat) (k2246 : (Nat → Int32) → x_S → (Nat → Int32) → (Nat → Int32) → (Nat → Int32) → Int32 → Int32 → Int32 → Int32 → Int32 → Option (Unit)) (row_c : (Nat → Int32)) (S : x_S) (strains_c : (Nat → Int32)) (was_c : (Nat → Int32)) (ptd_c : (Nat → Int32)) (x3 : Int32) (x5 : Int32) (x6 : Int32) (x32 : Int32) (x33 : Int32) (s0 : Int32) (s1 : Int32) : Option (Unit) :=
  if s0 = s1 then
  ((M_LR_count S (4 : Int32)).bind fun r449 =>
  if inb x33 16 then
  if r449 = (was_c x33.toNatClampNeg) then
  ((M_LR_count S (6 : Int32)).bind fun r453 =>
  if r453 = (ptd_c x33.toNatClampNeg) then
  (k2246 row_c S strains_c was_c ptd_c x3 x5 x6 x32 (x33 + (-1 : Int32)))
  else
  (none))
  else
  (none)
  else none)
  else
  (none)
set_option maxHeartbeats 4000000 in
set_option maxRecDepth 100000 in
theorem w_L_law_b2272 {sb : Nat} {xs : Nat → Int32} {G : x_G} {l : Launch} {a : Nat → Nat} {ar : Nat → Nat} {al : Nat → Nat} {af : Nat → Nat} {ax : Nat → Nat} {ad : Nat → Nat} {aq : Nat → Nat} {a_row : Nat → Nat} {a_strains : Nat → Nat} {a_was : Nat → Nat} {a_ptd : Nat → Nat} {L : Nat} {k2246 : (Nat → Int32) → x_S → (Nat → Int32) → (Nat → Int32) → (Nat → Int32) → Int32 → Int32 → Int32 → Int32 → Int32 → Option (Unit)} {res : Unit} (hk2246 : ∀ (row_c : (Nat → Int32)) (S : x_S) (strains_c : (Nat → Int32)) (was_c : (Nat → Int32)) (ptd_c : (Nat → Int32)) (x3 : Int32) (x5 : Int32) (x6 : Int32) (x32 : Int32) (x33 : Int32), k2246 row_c S strains_c was_c ptd_c x3 x5 x6 x32 x33 = some res → X G l RL cL_law 38 room_1 (x_CL sb L xs) 44 915 2246 [(1, .ref (a 0)), (2, .ref (a_row 0)), (3, .int x3), (5, .int x5), (6, .int x6), (30, .ref (a_was 0)), (31, .ref (a_ptd 0)), (32, .int x32), (33, .int x33)] [] ((WArr G a_row 38 row_c) ++ ((WLR G a ar al af ax ad aq S) ++ ((WArr G a_strains 6 strains_c) ++ ((WArr G a_was 16 was_c) ++ (WArr G a_ptd 16 ptd_c)))))) (row_c : (Nat → Int32)) (S : x_S) (strains_c : (Nat → Int32)) (was_c : (Nat → Int32)) (ptd_c : (Nat → Int32)) (x3 : Int32) (x5 : Int32) (x6 : Int32) (x32 : Int32) (x33 : Int32) (s0 : Int32) (s1 : Int32) (h : M_L_law_b2272 xs L k2246 row_c S strains_c was_c ptd_c x3 x5 x6 x32 x33 s0 s1 = some res) : X G l RL cL_law 38 room_1 (x_CL sb L xs) 44 915 2272 [(1, .ref (a 0)), (2, .ref (a_row 0)), (3, .int x3), (5, .int x5), (6, .int x6), (30, .ref (a_was 0)), (31, .ref (a_ptd 0)), (32, .int x32), (33, .int x33)] [.int s1, .int s0] ((WArr G a_row 38 row_c) ++ ((WLR G a ar al af ax ad aq S) ++ ((WArr G a_strains 6 strains_c) ++ ((WArr G a_was 16 was_c) ++ (WArr G a_ptd 16 ptd_c))))) := by
  unfold M_L_law_b2272 at h
  refine x_icmp_ne 2302 dL_law_2272 (by decide) (fun c448 => ?_) (fun c448 => ?_)
  · have h := x_neg c448 h
    refine x_iconst 0 dL_law_2302 (by decide) ?_
    cases h
  · have h := x_pos c448 h
    refine x_aload_n dL_law_2275 0 rfl rfl ?_
    refine x_iconst 4 dL_law_2276 (by decide) ?_
    obtain ⟨r449, e450, h⟩ := x_bind h
    refine x_cV (As := [.int (4 : Int32)]) (wc := (WLR G a ar al af ax ad aq S)) (w1 := (WLR G a ar al af ax ad aq S)) (pre := (WArr G a_row 38 row_c)) (post := ((WArr G a_strains 6 strains_c) ++ ((WArr G a_was 16 was_c) ++ (WArr G a_ptd 16 ptd_c)))) (rest := []) (st1 := [.int r449]) (ws1 := ((WArr G a_row 38 row_c) ++ ((WLR G a ar al af ax ad aq S) ++ ((WArr G a_strains 6 strains_c) ++ ((WArr G a_was 16 was_c) ++ (WArr G a_ptd 16 ptd_c)))))) (ci := 4) 0 dL_law_2277 (c_LR_count (a := a) e450) pk_X6_count ml_L_62 (by simp only [List.append_assoc, List.append_nil, List.nil_append]) rfl rfl rfl rfl rfl rfl rfl rfl (by simp only [List.append_assoc, List.append_nil, List.nil_append]) ?_
    refine x_aload dL_law_2280 5 rfl ?_
    refine x_iload dL_law_2282 8 rfl ?_
    obtain ⟨b451, h⟩ := x_guard h
    refine x_iald x33.toNatClampNeg (q0 := 42) dL_law_2284 rfl rfl b451 ?_
    refine x_icmp_ne 2302 dL_law_2285 (by decide) (fun c452 => ?_) (fun c452 => ?_)
    · have h := x_neg c452 h
      refine x_iconst 0 dL_law_2302 (by decide) ?_
      cases h
    · have h := x_pos c452 h
      refine x_aload_n dL_law_2288 0 rfl rfl ?_
      refine x_bipush 6 dL_law_2289 (by decide) ?_
      obtain ⟨r453, e454, h⟩ := x_bind h
      refine x_cV (As := [.int (6 : Int32)]) (wc := (WLR G a ar al af ax ad aq S)) (w1 := (WLR G a ar al af ax ad aq S)) (pre := (WArr G a_row 38 row_c)) (post := ((WArr G a_strains 6 strains_c) ++ ((WArr G a_was 16 was_c) ++ (WArr G a_ptd 16 ptd_c)))) (rest := []) (st1 := [.int r453]) (ws1 := ((WArr G a_row 38 row_c) ++ ((WLR G a ar al af ax ad aq S) ++ ((WArr G a_strains 6 strains_c) ++ ((WArr G a_was 16 was_c) ++ (WArr G a_ptd 16 ptd_c)))))) (ci := 4) 0 dL_law_2291 (c_LR_count (a := a) e454) pk_X6_count ml_L_62 (by simp only [List.append_assoc, List.append_nil, List.nil_append]) rfl rfl rfl rfl rfl rfl rfl rfl (by simp only [List.append_assoc, List.append_nil, List.nil_append]) ?_
      refine x_aload dL_law_2294 6 rfl ?_
      refine x_iload dL_law_2296 8 rfl ?_
      refine x_iald x33.toNatClampNeg (q0 := 43) dL_law_2298 rfl rfl b451 ?_
      refine x_icmp_eq 2304 dL_law_2299 (by decide) (fun c455 => ?_) (fun c455 => ?_)
      · have h := x_pos c455 h
        refine x_iinc (j := 8) (-1 : Int32) [(33, .int (x33 + (-1 : Int32))), (1, .ref (a 0)), (2, .ref (a_row 0)), (3, .int x3), (5, .int x5), (6, .int x6), (30, .ref (a_was 0)), (31, .ref (a_ptd 0)), (32, .int x32)] dL_law_2304 (by decide) rfl (by decide) rfl ?_
        refine x_goto 2246 dL_law_2307 (by decide) ?_
        refine x_lv [1, 2, 3, 4, 5, 6, 7, 8, 0] rfl ?_
        exact hk2246 _ _ _ _ _ _ _ _ _ _ h
      · have h := x_neg c455 h
        refine x_iconst 0 dL_law_2302 (by decide) ?_
        cases h
def M_L_law_b2246 (xs : Nat → Int32) (L : Nat) : Nat → (Nat → Int32) → x_S → (Nat → Int32) → (Nat → Int32) → (Nat → Int32) → Int32 → Int32 → Int32 → Int32 → Int32 → Option (Unit)
  | 0, _, _, _, _, _, _, _, _, _, _ => none
  | n + 1, row_c, S, strains_c, was_c, ptd_c, x3, x5, x6, x32, x33 =>
    if x33 < 0 then
    ((M_LR_digest S).bind fun r416 =>
    (M_LR_count S (3 : Int32)).bind fun r418 =>
    if r418 = x6 then
    ((M_LR_undo S (0 : Int32)).bind fun r421 =>
    if r421.1 = x5 then
    ((M_LR_count r421.2 (6 : Int32)).bind fun r424 =>
    if r424 = 0 then
    ((M_LR_count r421.2 (3 : Int32)).bind fun r427 =>
    if r427 = (row_c 26) then
    ((M_LR_on r421.2 (0 : Int32)).bind fun r430 =>
    if r430.1 = x5 then
    ((M_LR_digest r430.2).bind fun r433 =>
    if (lg_cmp r433 r416) = 0 then
    ((M_LR_court r430.2 (0 : Int32)).bind fun r436 =>
    if r436.1 = x3 then
    ((M_LR_on r436.2 (0 : Int32)).bind fun r439 =>
    if r439.1 = (-3 : Int32) then
    ((M_LR_count r439.2 (2 : Int32)).bind fun r442 =>
    if r442 = 0 then
    (some ())
    else
    (none))
    else
    (none))
    else
    (none))
    else
    (none))
    else
    (none))
    else
    (none))
    else
    (none))
    else
    (none))
    else
    (none))
    else
    ((M_LR_undo S (x5 + x33)).bind fun r445 =>
    if x33 = x32 then
    (M_L_law_b2272 xs L (fun (row_c' : (Nat → Int32)) (S' : x_S) (strains_c' : (Nat → Int32)) (was_c' : (Nat → Int32)) (ptd_c' : (Nat → Int32)) (x3' : Int32) (x5' : Int32) (x6' : Int32) (x32' : Int32) (x33' : Int32) => M_L_law_b2246 xs L n row_c' S' strains_c' was_c' ptd_c' x3' x5' x6' x32' x33') row_c r445.2 strains_c was_c ptd_c x3 x5 x6 x32 x33 r445.1 (0 : Int32))
    else
    (M_L_law_b2272 xs L (fun (row_c' : (Nat → Int32)) (S' : x_S) (strains_c' : (Nat → Int32)) (was_c' : (Nat → Int32)) (ptd_c' : (Nat → Int32)) (x3' : Int32) (x5' : Int32) (x6' : Int32) (x32' : Int32) (x33' : Int32) => M_L_law_b2246 xs L n row_c' S' strains_c' was_c' ptd_c' x3' x5' x6' x32' x33') row_c r445.2 strains_c was_c ptd_c x3 x5 x6 x32 x33 r445.1 (1 : Int32)))
set_option maxHeartbeats 4000000 in
set_option maxRecDepth 100000 in
theorem w_L_law_b2246 {sb : Nat} {xs : Nat → Int32} {G : x_G} {l : Launch} {a : Nat → Nat} {ar : Nat → Nat} {al : Nat → Nat} {af : Nat → Nat} {ax : Nat → Nat} {ad : Nat → Nat} {aq : Nat → Nat} {a_row : Nat → Nat} {a_strains : Nat → Nat} {a_was : Nat → Nat} {a_ptd : Nat → Nat} {L : Nat} {res : Unit} : ∀ (n : Nat) (row_c : (Nat → Int32)) (S : x_S) (strains_c : (Nat → Int32)) (was_c : (Nat → Int32)) (ptd_c : (Nat → Int32)) (x3 : Int32) (x5 : Int32) (x6 : Int32) (x32 : Int32) (x33 : Int32), M_L_law_b2246 xs L n row_c S strains_c was_c ptd_c x3 x5 x6 x32 x33 = some res → X G l RL cL_law 38 room_1 (x_CL sb L xs) 44 915 2246 [(1, .ref (a 0)), (2, .ref (a_row 0)), (3, .int x3), (5, .int x5), (6, .int x6), (30, .ref (a_was 0)), (31, .ref (a_ptd 0)), (32, .int x32), (33, .int x33)] [] ((WArr G a_row 38 row_c) ++ ((WLR G a ar al af ax ad aq S) ++ ((WArr G a_strains 6 strains_c) ++ ((WArr G a_was 16 was_c) ++ (WArr G a_ptd 16 ptd_c))))) := by
  intro n
  induction n with
  | zero =>
    intro _ _ _ _ _ _ _ _ _ _ h
    cases h
  | succ n ih =>
    intro row_c S strains_c was_c ptd_c x3 x5 x6 x32 x33 h
    rw [M_L_law_b2246] at h
    refine x_iload dL_law_2246 8 rfl ?_
    refine x_if_lt 2310 dL_law_2248 (by decide) (fun c415 => ?_) (fun c415 => ?_)
    · have h := x_pos c415 h
      refine x_aload_n dL_law_2310 0 rfl rfl ?_
      obtain ⟨r416, e417, h⟩ := x_bind h
      refine x_cV (As := []) (wc := (WLR G a ar al af ax ad aq S)) (w1 := (WLR G a ar al af ax ad aq S)) (pre := (WArr G a_row 38 row_c)) (post := ((WArr G a_strains 6 strains_c) ++ ((WArr G a_was 16 was_c) ++ (WArr G a_ptd 16 ptd_c)))) (rest := []) (st1 := [.long r416]) (ws1 := ((WArr G a_row 38 row_c) ++ ((WLR G a ar al af ax ad aq S) ++ ((WArr G a_strains 6 strains_c) ++ ((WArr G a_was 16 was_c) ++ (WArr G a_ptd 16 ptd_c)))))) (ci := 4) 0 dL_law_2311 (c_LR_digest (a := a) e417) pk_X6_digest ml_L_153 (by simp only [List.append_assoc, List.append_nil, List.nil_append]) rfl rfl rfl rfl rfl rfl rfl rfl (by simp only [List.append_assoc, List.append_nil, List.nil_append]) ?_
      refine x_lstore [(33, .long r416), (1, .ref (a 0)), (2, .ref (a_row 0)), (3, .int x3), (5, .int x5), (6, .int x6), (30, .ref (a_was 0)), (31, .ref (a_ptd 0)), (32, .int x32)] dL_law_2314 (by decide) rfl ?_
      refine x_aload_n dL_law_2316 1 rfl rfl ?_
      refine x_iconst 3 dL_law_2317 (by decide) ?_
      obtain ⟨r418, e419, h⟩ := x_bind h
      refine x_cV (As := [.int (3 : Int32)]) (wc := (WLR G a ar al af ax ad aq S)) (w1 := (WLR G a ar al af ax ad aq S)) (pre := (WArr G a_row 38 row_c)) (post := ((WArr G a_strains 6 strains_c) ++ ((WArr G a_was 16 was_c) ++ (WArr G a_ptd 16 ptd_c)))) (rest := []) (st1 := [.int r418]) (ws1 := ((WArr G a_row 38 row_c) ++ ((WLR G a ar al af ax ad aq S) ++ ((WArr G a_strains 6 strains_c) ++ ((WArr G a_was 16 was_c) ++ (WArr G a_ptd 16 ptd_c)))))) (ci := 4) 0 dL_law_2318 (c_LR_count (a := a) e419) pk_X6_count ml_L_62 (by simp only [List.append_assoc, List.append_nil, List.nil_append]) rfl rfl rfl rfl rfl rfl rfl rfl (by simp only [List.append_assoc, List.append_nil, List.nil_append]) ?_
      refine x_iload dL_law_2321 5 rfl ?_
      refine x_icmp_ne 2408 dL_law_2323 (by decide) (fun c420 => ?_) (fun c420 => ?_)
      · have h := x_neg c420 h
        refine x_iconst 0 dL_law_2408 (by decide) ?_
        cases h
      · have h := x_pos c420 h
        refine x_aload_n dL_law_2326 1 rfl rfl ?_
        refine x_iconst 0 dL_law_2327 (by decide) ?_
        obtain ⟨r421, e422, h⟩ := x_bind h
        refine x_cV (As := [.int (0 : Int32)]) (wc := (WLR G a ar al af ax ad aq S)) (w1 := (WLR G a ar al af ax ad aq r421.2)) (pre := (WArr G a_row 38 row_c)) (post := ((WArr G a_strains 6 strains_c) ++ ((WArr G a_was 16 was_c) ++ (WArr G a_ptd 16 ptd_c)))) (rest := []) (st1 := [.int r421.1]) (ws1 := ((WArr G a_row 38 row_c) ++ ((WLR G a ar al af ax ad aq r421.2) ++ ((WArr G a_strains 6 strains_c) ++ ((WArr G a_was 16 was_c) ++ (WArr G a_ptd 16 ptd_c)))))) (ci := 4) 0 dL_law_2328 (c_LR_undo (a := a) e422) pk_X6_undo ml_L_81 (by simp only [List.append_assoc, List.append_nil, List.nil_append]) rfl rfl rfl rfl rfl rfl rfl rfl (by simp only [List.append_assoc, List.append_nil, List.nil_append]) ?_
        refine x_iload dL_law_2331 4 rfl ?_
        refine x_icmp_ne 2408 dL_law_2333 (by decide) (fun c423 => ?_) (fun c423 => ?_)
        · have h := x_neg c423 h
          refine x_iconst 0 dL_law_2408 (by decide) ?_
          cases h
        · have h := x_pos c423 h
          refine x_aload_n dL_law_2336 1 rfl rfl ?_
          refine x_bipush 6 dL_law_2337 (by decide) ?_
          obtain ⟨r424, e425, h⟩ := x_bind h
          refine x_cV (As := [.int (6 : Int32)]) (wc := (WLR G a ar al af ax ad aq r421.2)) (w1 := (WLR G a ar al af ax ad aq r421.2)) (pre := (WArr G a_row 38 row_c)) (post := ((WArr G a_strains 6 strains_c) ++ ((WArr G a_was 16 was_c) ++ (WArr G a_ptd 16 ptd_c)))) (rest := []) (st1 := [.int r424]) (ws1 := ((WArr G a_row 38 row_c) ++ ((WLR G a ar al af ax ad aq r421.2) ++ ((WArr G a_strains 6 strains_c) ++ ((WArr G a_was 16 was_c) ++ (WArr G a_ptd 16 ptd_c)))))) (ci := 4) 0 dL_law_2339 (c_LR_count (a := a) e425) pk_X6_count ml_L_62 (by simp only [List.append_assoc, List.append_nil, List.nil_append]) rfl rfl rfl rfl rfl rfl rfl rfl (by simp only [List.append_assoc, List.append_nil, List.nil_append]) ?_
          refine x_if_ne 2408 dL_law_2342 (by decide) (fun c426 => ?_) (fun c426 => ?_)
          · have h := x_neg c426 h
            refine x_iconst 0 dL_law_2408 (by decide) ?_
            cases h
          · have h := x_pos c426 h
            refine x_aload_n dL_law_2345 1 rfl rfl ?_
            refine x_iconst 3 dL_law_2346 (by decide) ?_
            obtain ⟨r427, e428, h⟩ := x_bind h
            refine x_cV (As := [.int (3 : Int32)]) (wc := (WLR G a ar al af ax ad aq r421.2)) (w1 := (WLR G a ar al af ax ad aq r421.2)) (pre := (WArr G a_row 38 row_c)) (post := ((WArr G a_strains 6 strains_c) ++ ((WArr G a_was 16 was_c) ++ (WArr G a_ptd 16 ptd_c)))) (rest := []) (st1 := [.int r427]) (ws1 := ((WArr G a_row 38 row_c) ++ ((WLR G a ar al af ax ad aq r421.2) ++ ((WArr G a_strains 6 strains_c) ++ ((WArr G a_was 16 was_c) ++ (WArr G a_ptd 16 ptd_c)))))) (ci := 4) 0 dL_law_2347 (c_LR_count (a := a) e428) pk_X6_count ml_L_62 (by simp only [List.append_assoc, List.append_nil, List.nil_append]) rfl rfl rfl rfl rfl rfl rfl rfl (by simp only [List.append_assoc, List.append_nil, List.nil_append]) ?_
            refine x_aload_n dL_law_2350 2 rfl rfl ?_
            refine x_bipush 26 dL_law_2351 (by decide) ?_
            refine x_iald 26 (q0 := 0) dL_law_2353 (by decide) rfl (by decide) ?_
            refine x_icmp_ne 2408 dL_law_2354 (by decide) (fun c429 => ?_) (fun c429 => ?_)
            · have h := x_neg c429 h
              refine x_iconst 0 dL_law_2408 (by decide) ?_
              cases h
            · have h := x_pos c429 h
              refine x_aload_n dL_law_2357 1 rfl rfl ?_
              refine x_iconst 0 dL_law_2358 (by decide) ?_
              obtain ⟨r430, e431, h⟩ := x_bind h
              refine x_cV (As := [.int (0 : Int32)]) (wc := (WLR G a ar al af ax ad aq r421.2)) (w1 := (WLR G a ar al af ax ad aq r430.2)) (pre := (WArr G a_row 38 row_c)) (post := ((WArr G a_strains 6 strains_c) ++ ((WArr G a_was 16 was_c) ++ (WArr G a_ptd 16 ptd_c)))) (rest := []) (st1 := [.int r430.1]) (ws1 := ((WArr G a_row 38 row_c) ++ ((WLR G a ar al af ax ad aq r430.2) ++ ((WArr G a_strains 6 strains_c) ++ ((WArr G a_was 16 was_c) ++ (WArr G a_ptd 16 ptd_c)))))) (ci := 4) 0 dL_law_2359 (c_LR_on (a := a) e431) pk_X6_on ml_L_93 (by simp only [List.append_assoc, List.append_nil, List.nil_append]) rfl rfl rfl rfl rfl rfl rfl rfl (by simp only [List.append_assoc, List.append_nil, List.nil_append]) ?_
              refine x_iload dL_law_2362 4 rfl ?_
              refine x_icmp_ne 2408 dL_law_2364 (by decide) (fun c432 => ?_) (fun c432 => ?_)
              · have h := x_neg c432 h
                refine x_iconst 0 dL_law_2408 (by decide) ?_
                cases h
              · have h := x_pos c432 h
                refine x_aload_n dL_law_2367 1 rfl rfl ?_
                obtain ⟨r433, e434, h⟩ := x_bind h
                refine x_cV (As := []) (wc := (WLR G a ar al af ax ad aq r430.2)) (w1 := (WLR G a ar al af ax ad aq r430.2)) (pre := (WArr G a_row 38 row_c)) (post := ((WArr G a_strains 6 strains_c) ++ ((WArr G a_was 16 was_c) ++ (WArr G a_ptd 16 ptd_c)))) (rest := []) (st1 := [.long r433]) (ws1 := ((WArr G a_row 38 row_c) ++ ((WLR G a ar al af ax ad aq r430.2) ++ ((WArr G a_strains 6 strains_c) ++ ((WArr G a_was 16 was_c) ++ (WArr G a_ptd 16 ptd_c)))))) (ci := 4) 0 dL_law_2368 (c_LR_digest (a := a) e434) pk_X6_digest ml_L_153 (by simp only [List.append_assoc, List.append_nil, List.nil_append]) rfl rfl rfl rfl rfl rfl rfl rfl (by simp only [List.append_assoc, List.append_nil, List.nil_append]) ?_
                refine x_lload dL_law_2371 0 rfl ?_
                refine x_lcmp dL_law_2373 ?_
                refine x_if_ne 2408 dL_law_2374 (by decide) (fun c435 => ?_) (fun c435 => ?_)
                · have h := x_neg c435 h
                  refine x_iconst 0 dL_law_2408 (by decide) ?_
                  cases h
                · have h := x_pos c435 h
                  refine x_aload_n dL_law_2377 1 rfl rfl ?_
                  refine x_iconst 0 dL_law_2378 (by decide) ?_
                  obtain ⟨r436, e437, h⟩ := x_bind h
                  refine x_cV (As := [.int (0 : Int32)]) (wc := (WLR G a ar al af ax ad aq r430.2)) (w1 := (WLR G a ar al af ax ad aq r436.2)) (pre := (WArr G a_row 38 row_c)) (post := ((WArr G a_strains 6 strains_c) ++ ((WArr G a_was 16 was_c) ++ (WArr G a_ptd 16 ptd_c)))) (rest := []) (st1 := [.int r436.1]) (ws1 := ((WArr G a_row 38 row_c) ++ ((WLR G a ar al af ax ad aq r436.2) ++ ((WArr G a_strains 6 strains_c) ++ ((WArr G a_was 16 was_c) ++ (WArr G a_ptd 16 ptd_c)))))) (ci := 4) 0 dL_law_2379 (c_LR_court (a := a) e437) pk_X6_court ml_L_36 (by simp only [List.append_assoc, List.append_nil, List.nil_append]) rfl rfl rfl rfl rfl rfl rfl rfl (by simp only [List.append_assoc, List.append_nil, List.nil_append]) ?_
                  refine x_iload_n dL_law_2382 3 rfl rfl ?_
                  refine x_icmp_ne 2408 dL_law_2383 (by decide) (fun c438 => ?_) (fun c438 => ?_)
                  · have h := x_neg c438 h
                    refine x_iconst 0 dL_law_2408 (by decide) ?_
                    cases h
                  · have h := x_pos c438 h
                    refine x_aload_n dL_law_2386 1 rfl rfl ?_
                    refine x_iconst 0 dL_law_2387 (by decide) ?_
                    obtain ⟨r439, e440, h⟩ := x_bind h
                    refine x_cV (As := [.int (0 : Int32)]) (wc := (WLR G a ar al af ax ad aq r436.2)) (w1 := (WLR G a ar al af ax ad aq r439.2)) (pre := (WArr G a_row 38 row_c)) (post := ((WArr G a_strains 6 strains_c) ++ ((WArr G a_was 16 was_c) ++ (WArr G a_ptd 16 ptd_c)))) (rest := []) (st1 := [.int r439.1]) (ws1 := ((WArr G a_row 38 row_c) ++ ((WLR G a ar al af ax ad aq r439.2) ++ ((WArr G a_strains 6 strains_c) ++ ((WArr G a_was 16 was_c) ++ (WArr G a_ptd 16 ptd_c)))))) (ci := 4) 0 dL_law_2388 (c_LR_on (a := a) e440) pk_X6_on ml_L_93 (by simp only [List.append_assoc, List.append_nil, List.nil_append]) rfl rfl rfl rfl rfl rfl rfl rfl (by simp only [List.append_assoc, List.append_nil, List.nil_append]) ?_
                    refine x_bipush (-3 : Int32) dL_law_2391 (by decide) ?_
                    refine x_icmp_ne 2408 dL_law_2393 (by decide) (fun c441 => ?_) (fun c441 => ?_)
                    · have h := x_neg c441 h
                      refine x_iconst 0 dL_law_2408 (by decide) ?_
                      cases h
                    · have h := x_pos c441 h
                      refine x_aload_n dL_law_2396 1 rfl rfl ?_
                      refine x_iconst 2 dL_law_2397 (by decide) ?_
                      obtain ⟨r442, e443, h⟩ := x_bind h
                      refine x_cV (As := [.int (2 : Int32)]) (wc := (WLR G a ar al af ax ad aq r439.2)) (w1 := (WLR G a ar al af ax ad aq r439.2)) (pre := (WArr G a_row 38 row_c)) (post := ((WArr G a_strains 6 strains_c) ++ ((WArr G a_was 16 was_c) ++ (WArr G a_ptd 16 ptd_c)))) (rest := []) (st1 := [.int r442]) (ws1 := ((WArr G a_row 38 row_c) ++ ((WLR G a ar al af ax ad aq r439.2) ++ ((WArr G a_strains 6 strains_c) ++ ((WArr G a_was 16 was_c) ++ (WArr G a_ptd 16 ptd_c)))))) (ci := 4) 0 dL_law_2398 (c_LR_count (a := a) e443) pk_X6_count ml_L_62 (by simp only [List.append_assoc, List.append_nil, List.nil_append]) rfl rfl rfl rfl rfl rfl rfl rfl (by simp only [List.append_assoc, List.append_nil, List.nil_append]) ?_
                      refine x_if_ne 2408 dL_law_2401 (by decide) (fun c444 => ?_) (fun c444 => ?_)
                      · have h := x_neg c444 h
                        refine x_iconst 0 dL_law_2408 (by decide) ?_
                        cases h
                      · have h := x_pos c444 h
                        refine x_iconst 1 dL_law_2404 (by decide) ?_
                        refine x_goto 2409 dL_law_2405 (by decide) ?_
                        exact x_lawret dL_law_2409 (by decide) (by decide)
    · have h := x_neg c415 h
      refine x_aload_n dL_law_2251 0 rfl rfl ?_
      refine x_iload dL_law_2252 3 rfl ?_
      refine x_iload dL_law_2254 8 rfl ?_
      refine x_iadd dL_law_2256 ?_
      obtain ⟨r445, e446, h⟩ := x_bind h
      refine x_cV (As := [.int (x5 + x33)]) (wc := (WLR G a ar al af ax ad aq S)) (w1 := (WLR G a ar al af ax ad aq r445.2)) (pre := (WArr G a_row 38 row_c)) (post := ((WArr G a_strains 6 strains_c) ++ ((WArr G a_was 16 was_c) ++ (WArr G a_ptd 16 ptd_c)))) (rest := []) (st1 := [.int r445.1]) (ws1 := ((WArr G a_row 38 row_c) ++ ((WLR G a ar al af ax ad aq r445.2) ++ ((WArr G a_strains 6 strains_c) ++ ((WArr G a_was 16 was_c) ++ (WArr G a_ptd 16 ptd_c)))))) (ci := 4) 0 dL_law_2257 (c_LR_undo (a := a) e446) pk_X6_undo ml_L_81 (by simp only [List.append_assoc, List.append_nil, List.nil_append]) rfl rfl rfl rfl rfl rfl rfl rfl (by simp only [List.append_assoc, List.append_nil, List.nil_append]) ?_
      refine x_iload dL_law_2260 8 rfl ?_
      refine x_iload dL_law_2262 7 rfl ?_
      refine x_icmp_ne 2271 dL_law_2264 (by decide) (fun c447 => ?_) (fun c447 => ?_)
      · have h := x_neg c447 h
        refine x_iconst 1 dL_law_2271 (by decide) ?_
        exact w_L_law_b2272 (fun row_c' S' strains_c' was_c' ptd_c' x3' x5' x6' x32' x33' h => ih row_c' S' strains_c' was_c' ptd_c' x3' x5' x6' x32' x33' h) _ _ _ _ _ _ _ _ _ _ _ _ h
      · have h := x_pos c447 h
        refine x_iconst 0 dL_law_2267 (by decide) ?_
        refine x_goto 2272 dL_law_2268 (by decide) ?_
        exact w_L_law_b2272 (fun row_c' S' strains_c' was_c' ptd_c' x3' x5' x6' x32' x33' h => ih row_c' S' strains_c' was_c' ptd_c' x3' x5' x6' x32' x33' h) _ _ _ _ _ _ _ _ _ _ _ _ h
def M_L_law_b2036 (xs : Nat → Int32) (L : Nat) : Nat → (Nat → Int32) → x_S → (Nat → Int32) → (Nat → Int32) → (Nat → Int32) → Int32 → Int32 → Int32 → Int32 → Int32 → Int32 → Option (Unit)
  | 0, _, _, _, _, _, _, _, _, _, _, _ => none
  | n + 1, row_c, S, strains_c, was_c, ptd_c, x3, x5, x6, x29, x32, x33 =>
    if x29 ≤ x33 then
    (M_L_law_b2246 xs L x_fuel row_c S strains_c was_c ptd_c x3 x5 x6 x32 x32)
    else
    ((M_L_cell xs L ((29 : Int32) + x33)).bind fun r378 =>
    (M_L_up r378 (6 : Int32)).bind fun r380 =>
    (M_L_up (r378 >>> ((3 : Int32) &&& (31 : Int32))) x3).bind fun r382 =>
    if r380 = 0 then
    ((M_LR_slack S r382).bind fun r401 =>
    M_L_law_b2169 xs L (fun (row_c' : (Nat → Int32)) (S' : x_S) (strains_c' : (Nat → Int32)) (was_c' : (Nat → Int32)) (ptd_c' : (Nat → Int32)) (x3' : Int32) (x5' : Int32) (x6' : Int32) (x29' : Int32) (x32' : Int32) (x33' : Int32) => M_L_law_b2036 xs L n row_c' S' strains_c' was_c' ptd_c' x3' x5' x6' x29' x32' x33') row_c r401.2 strains_c was_c ptd_c x3 x5 x6 x29 x32 x33 r401.1)
    else
    (if r380 = (1 : Int32) then
    ((M_LR_belay S r382).bind fun r399 =>
    M_L_law_b2169 xs L (fun (row_c' : (Nat → Int32)) (S' : x_S) (strains_c' : (Nat → Int32)) (was_c' : (Nat → Int32)) (ptd_c' : (Nat → Int32)) (x3' : Int32) (x5' : Int32) (x6' : Int32) (x29' : Int32) (x32' : Int32) (x33' : Int32) => M_L_law_b2036 xs L n row_c' S' strains_c' was_c' ptd_c' x3' x5' x6' x29' x32' x33') row_c r399.2 strains_c was_c ptd_c x3 x5 x6 x29 x32 x33 r399.1)
    else
    (if r380 = (2 : Int32) then
    ((M_LR_cut S r382).bind fun r397 =>
    M_L_law_b2169 xs L (fun (row_c' : (Nat → Int32)) (S' : x_S) (strains_c' : (Nat → Int32)) (was_c' : (Nat → Int32)) (ptd_c' : (Nat → Int32)) (x3' : Int32) (x5' : Int32) (x6' : Int32) (x29' : Int32) (x32' : Int32) (x33' : Int32) => M_L_law_b2036 xs L n row_c' S' strains_c' was_c' ptd_c' x3' x5' x6' x29' x32' x33') row_c r397.2 strains_c was_c ptd_c x3 x5 x6 x29 x32 x33 r397.1)
    else
    (if r380 = (3 : Int32) then
    ((M_LR_splice S r382).bind fun r395 =>
    M_L_law_b2169 xs L (fun (row_c' : (Nat → Int32)) (S' : x_S) (strains_c' : (Nat → Int32)) (was_c' : (Nat → Int32)) (ptd_c' : (Nat → Int32)) (x3' : Int32) (x5' : Int32) (x6' : Int32) (x29' : Int32) (x32' : Int32) (x33' : Int32) => M_L_law_b2036 xs L n row_c' S' strains_c' was_c' ptd_c' x3' x5' x6' x29' x32' x33') row_c r395.2 strains_c was_c ptd_c x3 x5 x6 x29 x32 x33 r395.1)
    else
    (if r380 = (4 : Int32) then
    ((M_LR_frost S ((r378 >>> ((6 : Int32) &&& (31 : Int32))) &&& (1 : Int32))).bind fun r393 =>
    M_L_law_b2169 xs L (fun (row_c' : (Nat → Int32)) (S' : x_S) (strains_c' : (Nat → Int32)) (was_c' : (Nat → Int32)) (ptd_c' : (Nat → Int32)) (x3' : Int32) (x5' : Int32) (x6' : Int32) (x29' : Int32) (x32' : Int32) (x33' : Int32) => M_L_law_b2036 xs L n row_c' S' strains_c' was_c' ptd_c' x3' x5' x6' x29' x32' x33') row_c r393.2 strains_c was_c ptd_c x3 x5 x6 x29 x32 x33 r393.1)
    else
    ((M_L_up (r378 >>> ((6 : Int32) &&& (31 : Int32))) (3 : Int32)).bind fun r389 =>
    (M_LR_haul S r382 ((1 : Int32) + r389)).bind fun r391 =>
    M_L_law_b2169 xs L (fun (row_c' : (Nat → Int32)) (S' : x_S) (strains_c' : (Nat → Int32)) (was_c' : (Nat → Int32)) (ptd_c' : (Nat → Int32)) (x3' : Int32) (x5' : Int32) (x6' : Int32) (x29' : Int32) (x32' : Int32) (x33' : Int32) => M_L_law_b2036 xs L n row_c' S' strains_c' was_c' ptd_c' x3' x5' x6' x29' x32' x33') row_c r391.2 strains_c was_c ptd_c x3 x5 x6 x29 x32 x33 r391.1))))))
set_option maxHeartbeats 4000000 in
set_option maxRecDepth 100000 in
theorem w_L_law_b2036 {sb : Nat} {xs : Nat → Int32} {G : x_G} {l : Launch} {a : Nat → Nat} {ar : Nat → Nat} {al : Nat → Nat} {af : Nat → Nat} {ax : Nat → Nat} {ad : Nat → Nat} {aq : Nat → Nat} {a_row : Nat → Nat} {a_strains : Nat → Nat} {a_was : Nat → Nat} {a_ptd : Nat → Nat} {L : Nat} {res : Unit} : ∀ (n : Nat) (row_c : (Nat → Int32)) (S : x_S) (strains_c : (Nat → Int32)) (was_c : (Nat → Int32)) (ptd_c : (Nat → Int32)) (x3 : Int32) (x5 : Int32) (x6 : Int32) (x29 : Int32) (x32 : Int32) (x33 : Int32), M_L_law_b2036 xs L n row_c S strains_c was_c ptd_c x3 x5 x6 x29 x32 x33 = some res → X G l RL cL_law 38 room_1 (x_CL sb L xs) 44 915 2036 [(0, .ref sb), (1, .ref (a 0)), (2, .ref (a_row 0)), (3, .int x3), (5, .int x5), (6, .int x6), (29, .int x29), (30, .ref (a_was 0)), (31, .ref (a_ptd 0)), (32, .int x32), (33, .int x33)] [] ((WArr G a_row 38 row_c) ++ ((WLR G a ar al af ax ad aq S) ++ ((WArr G a_strains 6 strains_c) ++ ((WArr G a_was 16 was_c) ++ (WArr G a_ptd 16 ptd_c))))) := by
  intro n
  induction n with
  | zero =>
    intro _ _ _ _ _ _ _ _ _ _ _ h
    cases h
  | succ n ih =>
    intro row_c S strains_c was_c ptd_c x3 x5 x6 x29 x32 x33 h
    rw [M_L_law_b2036] at h
    refine x_iload dL_law_2036 10 rfl ?_
    refine x_iload dL_law_2038 6 rfl ?_
    refine x_icmp_ge 2242 dL_law_2040 (by decide) (fun c377 => ?_) (fun c377 => ?_)
    · have h := x_pos c377 h
      refine x_iload dL_law_2242 9 rfl ?_
      refine x_istore [(33, .int x32), (0, .ref sb), (1, .ref (a 0)), (2, .ref (a_row 0)), (3, .int x3), (5, .int x5), (6, .int x6), (29, .int x29), (30, .ref (a_was 0)), (31, .ref (a_ptd 0)), (32, .int x32)] dL_law_2244 (by decide) rfl ?_
      refine x_lv [2, 3, 4, 5, 6, 8, 9, 10, 0] rfl ?_
      exact w_L_law_b2246  _ _ _ _ _ _ _ _ _ _ _ h
    · have h := x_neg c377 h
      refine x_aload_n dL_law_2043 0 rfl rfl ?_
      refine x_bipush 29 dL_law_2044 (by decide) ?_
      refine x_iload dL_law_2046 10 rfl ?_
      refine x_iadd dL_law_2048 ?_
      obtain ⟨r378, e379, h⟩ := x_bind h
      refine x_cSs (As := [.ref sb, .int ((29 : Int32) + x33)]) (wc := ([] : va_W)) (w1 := ([] : va_W)) (pre := []) (post := ((WArr G a_row 38 row_c) ++ ((WLR G a ar al af ax ad aq S) ++ ((WArr G a_strains 6 strains_c) ++ ((WArr G a_was 16 was_c) ++ (WArr G a_ptd 16 ptd_c)))))) (rest := []) (st1 := [.int r378]) (ws1 := ((WArr G a_row 38 row_c) ++ ((WLR G a ar al af ax ad aq S) ++ ((WArr G a_strains 6 strains_c) ++ ((WArr G a_was 16 was_c) ++ (WArr G a_ptd 16 ptd_c)))))) x_sc_CL dL_law_2049 (c_L_cell e379) pk_L_cell ml_L_9 rfl rfl rfl rfl rfl rfl rfl ?_
      refine x_istore [(34, .int r378), (0, .ref sb), (1, .ref (a 0)), (2, .ref (a_row 0)), (3, .int x3), (5, .int x5), (6, .int x6), (29, .int x29), (30, .ref (a_was 0)), (31, .ref (a_ptd 0)), (32, .int x32), (33, .int x33)] dL_law_2052 (by decide) rfl ?_
      refine x_iload dL_law_2054 0 rfl ?_
      refine x_bipush 6 dL_law_2056 (by decide) ?_
      obtain ⟨r380, e381, h⟩ := x_bind h
      refine x_cS (As := [.int r378, .int (6 : Int32)]) (wc := ([] : va_W)) (w1 := ([] : va_W)) (pre := []) (post := ((WArr G a_row 38 row_c) ++ ((WLR G a ar al af ax ad aq S) ++ ((WArr G a_strains 6 strains_c) ++ ((WArr G a_was 16 was_c) ++ (WArr G a_ptd 16 ptd_c)))))) (rest := []) (st1 := [.int r380]) (ws1 := ((WArr G a_row 38 row_c) ++ ((WLR G a ar al af ax ad aq S) ++ ((WArr G a_strains 6 strains_c) ++ ((WArr G a_was 16 was_c) ++ (WArr G a_ptd 16 ptd_c)))))) dL_law_2058 (c_L_up e381) pk_L_up ml_L_15 rfl rfl rfl rfl rfl rfl rfl ?_
      refine x_istore [(35, .int r380), (34, .int r378), (0, .ref sb), (1, .ref (a 0)), (2, .ref (a_row 0)), (3, .int x3), (5, .int x5), (6, .int x6), (29, .int x29), (30, .ref (a_was 0)), (31, .ref (a_ptd 0)), (32, .int x32), (33, .int x33)] dL_law_2061 (by decide) rfl ?_
      refine x_iload dL_law_2063 1 rfl ?_
      refine x_iconst 3 dL_law_2065 (by decide) ?_
      refine x_ishr dL_law_2066 ?_
      refine x_iload_n dL_law_2067 5 rfl rfl ?_
      obtain ⟨r382, e383, h⟩ := x_bind h
      refine x_cS (As := [.int (r378 >>> ((3 : Int32) &&& (31 : Int32))), .int x3]) (wc := ([] : va_W)) (w1 := ([] : va_W)) (pre := []) (post := ((WArr G a_row 38 row_c) ++ ((WLR G a ar al af ax ad aq S) ++ ((WArr G a_strains 6 strains_c) ++ ((WArr G a_was 16 was_c) ++ (WArr G a_ptd 16 ptd_c)))))) (rest := []) (st1 := [.int r382]) (ws1 := ((WArr G a_row 38 row_c) ++ ((WLR G a ar al af ax ad aq S) ++ ((WArr G a_strains 6 strains_c) ++ ((WArr G a_was 16 was_c) ++ (WArr G a_ptd 16 ptd_c)))))) dL_law_2068 (c_L_up e383) pk_L_up ml_L_15 rfl rfl rfl rfl rfl rfl rfl ?_
      refine x_istore [(36, .int r382), (35, .int r380), (34, .int r378), (0, .ref sb), (1, .ref (a 0)), (2, .ref (a_row 0)), (3, .int x3), (5, .int x5), (6, .int x6), (29, .int x29), (30, .ref (a_was 0)), (31, .ref (a_ptd 0)), (32, .int x32), (33, .int x33)] dL_law_2071 (by decide) rfl ?_
      refine x_iload dL_law_2073 1 rfl ?_
      refine x_if_ne 2087 dL_law_2075 (by decide) (fun c384 => ?_) (fun c384 => ?_)
      · have h := x_neg c384 h
        refine x_iload dL_law_2087 1 rfl ?_
        refine x_iconst 1 dL_law_2089 (by decide) ?_
        refine x_icmp_ne 2102 dL_law_2090 (by decide) (fun c385 => ?_) (fun c385 => ?_)
        · have h := x_neg c385 h
          refine x_iload dL_law_2102 1 rfl ?_
          refine x_iconst 2 dL_law_2104 (by decide) ?_
          refine x_icmp_ne 2117 dL_law_2105 (by decide) (fun c386 => ?_) (fun c386 => ?_)
          · have h := x_neg c386 h
            refine x_iload dL_law_2117 1 rfl ?_
            refine x_iconst 3 dL_law_2119 (by decide) ?_
            refine x_icmp_ne 2132 dL_law_2120 (by decide) (fun c387 => ?_) (fun c387 => ?_)
            · have h := x_neg c387 h
              refine x_iload dL_law_2132 1 rfl ?_
              refine x_iconst 4 dL_law_2134 (by decide) ?_
              refine x_icmp_ne 2152 dL_law_2135 (by decide) (fun c388 => ?_) (fun c388 => ?_)
              · have h := x_neg c388 h
                refine x_aload_n dL_law_2152 4 rfl rfl ?_
                refine x_iload dL_law_2153 0 rfl ?_
                refine x_iconst 1 dL_law_2155 (by decide) ?_
                refine x_iload dL_law_2156 2 rfl ?_
                refine x_bipush 6 dL_law_2158 (by decide) ?_
                refine x_ishr dL_law_2160 ?_
                refine x_iconst 3 dL_law_2161 (by decide) ?_
                obtain ⟨r389, e390, h⟩ := x_bind h
                refine x_cS (As := [.int (r378 >>> ((6 : Int32) &&& (31 : Int32))), .int (3 : Int32)]) (wc := ([] : va_W)) (w1 := ([] : va_W)) (pre := []) (post := ((WArr G a_row 38 row_c) ++ ((WLR G a ar al af ax ad aq S) ++ ((WArr G a_strains 6 strains_c) ++ ((WArr G a_was 16 was_c) ++ (WArr G a_ptd 16 ptd_c)))))) (rest := [.int (1 : Int32), .int r382, .ref (a 0)]) (st1 := [.int r389, .int (1 : Int32), .int r382, .ref (a 0)]) (ws1 := ((WArr G a_row 38 row_c) ++ ((WLR G a ar al af ax ad aq S) ++ ((WArr G a_strains 6 strains_c) ++ ((WArr G a_was 16 was_c) ++ (WArr G a_ptd 16 ptd_c)))))) dL_law_2162 (c_L_up e390) pk_L_up ml_L_15 rfl rfl rfl rfl rfl rfl rfl ?_
                refine x_iadd dL_law_2165 ?_
                obtain ⟨r391, e392, h⟩ := x_bind h
                refine x_cV (As := [.int r382, .int ((1 : Int32) + r389)]) (wc := (WLR G a ar al af ax ad aq S)) (w1 := (WLR G a ar al af ax ad aq r391.2)) (pre := (WArr G a_row 38 row_c)) (post := ((WArr G a_strains 6 strains_c) ++ ((WArr G a_was 16 was_c) ++ (WArr G a_ptd 16 ptd_c)))) (rest := []) (st1 := [.int r391.1]) (ws1 := ((WArr G a_row 38 row_c) ++ ((WLR G a ar al af ax ad aq r391.2) ++ ((WArr G a_strains 6 strains_c) ++ ((WArr G a_was 16 was_c) ++ (WArr G a_ptd 16 ptd_c)))))) (ci := 4) 0 dL_law_2166 (c_LR_haul (a := a) e392) pk_X6_haul ml_L_75 (by simp only [List.append_assoc, List.append_nil, List.nil_append]) rfl rfl rfl rfl rfl rfl rfl rfl (by simp only [List.append_assoc, List.append_nil, List.nil_append]) ?_
                refine x_lv [3, 4, 5, 6, 7, 8, 9, 10, 11, 12, 13] rfl ?_
                exact w_L_law_b2169 (fun row_c' S' strains_c' was_c' ptd_c' x3' x5' x6' x29' x32' x33' h => ih row_c' S' strains_c' was_c' ptd_c' x3' x5' x6' x29' x32' x33' h) _ _ _ _ _ _ _ _ _ _ _ _ h
              · have h := x_pos c388 h
                refine x_aload_n dL_law_2138 4 rfl rfl ?_
                refine x_iload dL_law_2139 2 rfl ?_
                refine x_bipush 6 dL_law_2141 (by decide) ?_
                refine x_ishr dL_law_2143 ?_
                refine x_iconst 1 dL_law_2144 (by decide) ?_
                refine x_iand dL_law_2145 ?_
                obtain ⟨r393, e394, h⟩ := x_bind h
                refine x_cV (As := [.int ((r378 >>> ((6 : Int32) &&& (31 : Int32))) &&& (1 : Int32))]) (wc := (WLR G a ar al af ax ad aq S)) (w1 := (WLR G a ar al af ax ad aq r393.2)) (pre := (WArr G a_row 38 row_c)) (post := ((WArr G a_strains 6 strains_c) ++ ((WArr G a_was 16 was_c) ++ (WArr G a_ptd 16 ptd_c)))) (rest := []) (st1 := [.int r393.1]) (ws1 := ((WArr G a_row 38 row_c) ++ ((WLR G a ar al af ax ad aq r393.2) ++ ((WArr G a_strains 6 strains_c) ++ ((WArr G a_was 16 was_c) ++ (WArr G a_ptd 16 ptd_c)))))) (ci := 4) 0 dL_law_2146 (c_LR_frost (a := a) e394) pk_X6_frost ml_L_150 (by simp only [List.append_assoc, List.append_nil, List.nil_append]) rfl rfl rfl rfl rfl rfl rfl rfl (by simp only [List.append_assoc, List.append_nil, List.nil_append]) ?_
                refine x_goto 2169 dL_law_2149 (by decide) ?_
                refine x_lv [3, 4, 5, 6, 7, 8, 9, 10, 11, 12, 13] rfl ?_
                exact w_L_law_b2169 (fun row_c' S' strains_c' was_c' ptd_c' x3' x5' x6' x29' x32' x33' h => ih row_c' S' strains_c' was_c' ptd_c' x3' x5' x6' x29' x32' x33' h) _ _ _ _ _ _ _ _ _ _ _ _ h
            · have h := x_pos c387 h
              refine x_aload_n dL_law_2123 4 rfl rfl ?_
              refine x_iload dL_law_2124 0 rfl ?_
              obtain ⟨r395, e396, h⟩ := x_bind h
              refine x_cV (As := [.int r382]) (wc := (WLR G a ar al af ax ad aq S)) (w1 := (WLR G a ar al af ax ad aq r395.2)) (pre := (WArr G a_row 38 row_c)) (post := ((WArr G a_strains 6 strains_c) ++ ((WArr G a_was 16 was_c) ++ (WArr G a_ptd 16 ptd_c)))) (rest := []) (st1 := [.int r395.1]) (ws1 := ((WArr G a_row 38 row_c) ++ ((WLR G a ar al af ax ad aq r395.2) ++ ((WArr G a_strains 6 strains_c) ++ ((WArr G a_was 16 was_c) ++ (WArr G a_ptd 16 ptd_c)))))) (ci := 4) 0 dL_law_2126 (c_LR_splice (a := a) e396) pk_X6_splice ml_L_147 (by simp only [List.append_assoc, List.append_nil, List.nil_append]) rfl rfl rfl rfl rfl rfl rfl rfl (by simp only [List.append_assoc, List.append_nil, List.nil_append]) ?_
              refine x_goto 2169 dL_law_2129 (by decide) ?_
              refine x_lv [3, 4, 5, 6, 7, 8, 9, 10, 11, 12, 13] rfl ?_
              exact w_L_law_b2169 (fun row_c' S' strains_c' was_c' ptd_c' x3' x5' x6' x29' x32' x33' h => ih row_c' S' strains_c' was_c' ptd_c' x3' x5' x6' x29' x32' x33' h) _ _ _ _ _ _ _ _ _ _ _ _ h
          · have h := x_pos c386 h
            refine x_aload_n dL_law_2108 4 rfl rfl ?_
            refine x_iload dL_law_2109 0 rfl ?_
            obtain ⟨r397, e398, h⟩ := x_bind h
            refine x_cV (As := [.int r382]) (wc := (WLR G a ar al af ax ad aq S)) (w1 := (WLR G a ar al af ax ad aq r397.2)) (pre := (WArr G a_row 38 row_c)) (post := ((WArr G a_strains 6 strains_c) ++ ((WArr G a_was 16 was_c) ++ (WArr G a_ptd 16 ptd_c)))) (rest := []) (st1 := [.int r397.1]) (ws1 := ((WArr G a_row 38 row_c) ++ ((WLR G a ar al af ax ad aq r397.2) ++ ((WArr G a_strains 6 strains_c) ++ ((WArr G a_was 16 was_c) ++ (WArr G a_ptd 16 ptd_c)))))) (ci := 4) 0 dL_law_2111 (c_LR_cut (a := a) e398) pk_X6_cut ml_L_105 (by simp only [List.append_assoc, List.append_nil, List.nil_append]) rfl rfl rfl rfl rfl rfl rfl rfl (by simp only [List.append_assoc, List.append_nil, List.nil_append]) ?_
            refine x_goto 2169 dL_law_2114 (by decide) ?_
            refine x_lv [3, 4, 5, 6, 7, 8, 9, 10, 11, 12, 13] rfl ?_
            exact w_L_law_b2169 (fun row_c' S' strains_c' was_c' ptd_c' x3' x5' x6' x29' x32' x33' h => ih row_c' S' strains_c' was_c' ptd_c' x3' x5' x6' x29' x32' x33' h) _ _ _ _ _ _ _ _ _ _ _ _ h
        · have h := x_pos c385 h
          refine x_aload_n dL_law_2093 4 rfl rfl ?_
          refine x_iload dL_law_2094 0 rfl ?_
          obtain ⟨r399, e400, h⟩ := x_bind h
          refine x_cV (As := [.int r382]) (wc := (WLR G a ar al af ax ad aq S)) (w1 := (WLR G a ar al af ax ad aq r399.2)) (pre := (WArr G a_row 38 row_c)) (post := ((WArr G a_strains 6 strains_c) ++ ((WArr G a_was 16 was_c) ++ (WArr G a_ptd 16 ptd_c)))) (rest := []) (st1 := [.int r399.1]) (ws1 := ((WArr G a_row 38 row_c) ++ ((WLR G a ar al af ax ad aq r399.2) ++ ((WArr G a_strains 6 strains_c) ++ ((WArr G a_was 16 was_c) ++ (WArr G a_ptd 16 ptd_c)))))) (ci := 4) 0 dL_law_2096 (c_LR_belay (a := a) e400) pk_X6_belay ml_L_144 (by simp only [List.append_assoc, List.append_nil, List.nil_append]) rfl rfl rfl rfl rfl rfl rfl rfl (by simp only [List.append_assoc, List.append_nil, List.nil_append]) ?_
          refine x_goto 2169 dL_law_2099 (by decide) ?_
          refine x_lv [3, 4, 5, 6, 7, 8, 9, 10, 11, 12, 13] rfl ?_
          exact w_L_law_b2169 (fun row_c' S' strains_c' was_c' ptd_c' x3' x5' x6' x29' x32' x33' h => ih row_c' S' strains_c' was_c' ptd_c' x3' x5' x6' x29' x32' x33' h) _ _ _ _ _ _ _ _ _ _ _ _ h
      · have h := x_pos c384 h
        refine x_aload_n dL_law_2078 4 rfl rfl ?_
        refine x_iload dL_law_2079 0 rfl ?_
        obtain ⟨r401, e402, h⟩ := x_bind h
        refine x_cV (As := [.int r382]) (wc := (WLR G a ar al af ax ad aq S)) (w1 := (WLR G a ar al af ax ad aq r401.2)) (pre := (WArr G a_row 38 row_c)) (post := ((WArr G a_strains 6 strains_c) ++ ((WArr G a_was 16 was_c) ++ (WArr G a_ptd 16 ptd_c)))) (rest := []) (st1 := [.int r401.1]) (ws1 := ((WArr G a_row 38 row_c) ++ ((WLR G a ar al af ax ad aq r401.2) ++ ((WArr G a_strains 6 strains_c) ++ ((WArr G a_was 16 was_c) ++ (WArr G a_ptd 16 ptd_c)))))) (ci := 4) 0 dL_law_2081 (c_LR_slack (a := a) e402) pk_X6_slack ml_L_90 (by simp only [List.append_assoc, List.append_nil, List.nil_append]) rfl rfl rfl rfl rfl rfl rfl rfl (by simp only [List.append_assoc, List.append_nil, List.nil_append]) ?_
        refine x_goto 2169 dL_law_2084 (by decide) ?_
        refine x_lv [3, 4, 5, 6, 7, 8, 9, 10, 11, 12, 13] rfl ?_
        exact w_L_law_b2169 (fun row_c' S' strains_c' was_c' ptd_c' x3' x5' x6' x29' x32' x33' h => ih row_c' S' strains_c' was_c' ptd_c' x3' x5' x6' x29' x32' x33' h) _ _ _ _ _ _ _ _ _ _ _ _ h
def M_L_law_b2018 (xs : Nat → Int32) (L : Nat) (row_c : (Nat → Int32)) (S : x_S) (strains_c : (Nat → Int32)) (was_c : (Nat → Int32)) (ptd_c : (Nat → Int32)) (x3 : Int32) (x5 : Int32) (x6 : Int32) (x7 : Int32) (x9 : Int32) (x29 : Int32) : Option (Unit) :=
  M_L_law_b2036 xs L x_fuel row_c S strains_c (upd was_c 0 x7) (upd ptd_c 0 x9) x3 x5 x6 x29 (0 : Int32) (0 : Int32)
set_option maxHeartbeats 4000000 in
set_option maxRecDepth 100000 in
theorem w_L_law_b2018 {sb : Nat} {xs : Nat → Int32} {G : x_G} {l : Launch} {a : Nat → Nat} {ar : Nat → Nat} {al : Nat → Nat} {af : Nat → Nat} {ax : Nat → Nat} {ad : Nat → Nat} {aq : Nat → Nat} {a_row : Nat → Nat} {a_strains : Nat → Nat} {a_was : Nat → Nat} {a_ptd : Nat → Nat} {L : Nat} {res : Unit} (row_c : (Nat → Int32)) (S : x_S) (strains_c : (Nat → Int32)) (was_c : (Nat → Int32)) (ptd_c : (Nat → Int32)) (x3 : Int32) (x5 : Int32) (x6 : Int32) (x7 : Int32) (x9 : Int32) (x29 : Int32) (h : M_L_law_b2018 xs L row_c S strains_c was_c ptd_c x3 x5 x6 x7 x9 x29 = some res) : X G l RL cL_law 38 room_1 (x_CL sb L xs) 44 915 2018 [(0, .ref sb), (1, .ref (a 0)), (2, .ref (a_row 0)), (3, .int x3), (5, .int x5), (6, .int x6), (7, .int x7), (9, .int x9), (29, .int x29), (30, .ref (a_was 0)), (31, .ref (a_ptd 0))] [] ((WArr G a_row 38 row_c) ++ ((WLR G a ar al af ax ad aq S) ++ ((WArr G a_strains 6 strains_c) ++ ((WArr G a_was 16 was_c) ++ (WArr G a_ptd 16 ptd_c))))) := by
  unfold M_L_law_b2018 at h
  refine x_iconst 0 dL_law_2018 (by decide) ?_
  refine x_istore [(32, .int (0 : Int32)), (0, .ref sb), (1, .ref (a 0)), (2, .ref (a_row 0)), (3, .int x3), (5, .int x5), (6, .int x6), (7, .int x7), (9, .int x9), (29, .int x29), (30, .ref (a_was 0)), (31, .ref (a_ptd 0))] dL_law_2019 (by decide) rfl ?_
  refine x_aload dL_law_2021 10 rfl ?_
  refine x_iconst 0 dL_law_2023 (by decide) ?_
  refine x_iload dL_law_2024 7 rfl ?_
  refine x_iast 0 (q0 := 42) ((WArr G a_row 38 row_c) ++ ((WLR G a ar al af ax ad aq S) ++ ((WArr G a_strains 6 strains_c) ++ ((WArr G a_was 16 ((upd was_c 0 x7))) ++ (WArr G a_ptd 16 ptd_c))))) dL_law_2026 (by decide) rfl (by decide) rfl ?_
  refine x_aload dL_law_2027 11 rfl ?_
  refine x_iconst 0 dL_law_2029 (by decide) ?_
  refine x_iload dL_law_2030 8 rfl ?_
  refine x_iast 0 (q0 := 43) ((WArr G a_row 38 row_c) ++ ((WLR G a ar al af ax ad aq S) ++ ((WArr G a_strains 6 strains_c) ++ ((WArr G a_was 16 ((upd was_c 0 x7))) ++ (WArr G a_ptd 16 ((upd ptd_c 0 x9))))))) dL_law_2032 (by decide) rfl (by decide) rfl ?_
  refine x_iconst 0 dL_law_2033 (by decide) ?_
  refine x_istore [(33, .int (0 : Int32)), (32, .int (0 : Int32)), (0, .ref sb), (1, .ref (a 0)), (2, .ref (a_row 0)), (3, .int x3), (5, .int x5), (6, .int x6), (7, .int x7), (9, .int x9), (29, .int x29), (30, .ref (a_was 0)), (31, .ref (a_ptd 0))] dL_law_2034 (by decide) rfl ?_
  refine x_lv [2, 3, 4, 5, 6, 7, 10, 11, 12, 1, 0] rfl ?_
  exact w_L_law_b2036  _ _ _ _ _ _ _ _ _ _ _ _ h
def M_L_law_b2012 (xs : Nat → Int32) (L : Nat) (row_c : (Nat → Int32)) (S : x_S) (strains_c : (Nat → Int32)) (was_c : (Nat → Int32)) (x3 : Int32) (x5 : Int32) (x6 : Int32) (x7 : Int32) (x9 : Int32) (x29 : Int32) : Option (Unit) :=
  M_L_law_b2018 xs L row_c S strains_c was_c (fun _ => 0) x3 x5 x6 x7 x9 x29
set_option maxHeartbeats 4000000 in
set_option maxRecDepth 100000 in
theorem w_L_law_b2012 {sb : Nat} {xs : Nat → Int32} {G : x_G} {l : Launch} {a : Nat → Nat} {ar : Nat → Nat} {al : Nat → Nat} {af : Nat → Nat} {ax : Nat → Nat} {ad : Nat → Nat} {aq : Nat → Nat} {a_row : Nat → Nat} {a_strains : Nat → Nat} {a_was : Nat → Nat} {L : Nat} {res : Unit} (row_c : (Nat → Int32)) (S : x_S) (strains_c : (Nat → Int32)) (was_c : (Nat → Int32)) (x3 : Int32) (x5 : Int32) (x6 : Int32) (x7 : Int32) (x9 : Int32) (x29 : Int32) (h : M_L_law_b2012 xs L row_c S strains_c was_c x3 x5 x6 x7 x9 x29 = some res) : X G l RL cL_law 38 room_1 (x_CL sb L xs) 43 899 2012 [(0, .ref sb), (1, .ref (a 0)), (2, .ref (a_row 0)), (3, .int x3), (5, .int x5), (6, .int x6), (7, .int x7), (9, .int x9), (29, .int x29), (30, .ref (a_was 0))] [] ((WArr G a_row 38 row_c) ++ ((WLR G a ar al af ax ad aq S) ++ ((WArr G a_strains 6 strains_c) ++ (WArr G a_was 16 was_c)))) := by
  unfold M_L_law_b2012 at h
  refine x_bipush 16 dL_law_2012 (by decide) ?_
  refine x_newa (a0 := (16, .inl (fun _ => 0))) 0 16 dL_law_2014 ac_int rfl rfl x_nm_int (fun cA => rfl) (by decide) (by decide) (by decide) (by decide) (fun q376 => ?_)
  refine x_ws (ws' := ((WArr G a_row 38 row_c) ++ ((WLR G a ar al af ax ad aq S) ++ ((WArr G a_strains 6 strains_c) ++ ((WArr G a_was 16 was_c) ++ (WArr G (fun _ => q376) 16 ((fun _ => 0)))))))) (by simp only [List.append_assoc]; rfl) ?_
  refine x_astore [(31, .ref ((fun _ => q376) 0)), (0, .ref sb), (1, .ref (a 0)), (2, .ref (a_row 0)), (3, .int x3), (5, .int x5), (6, .int x6), (7, .int x7), (9, .int x9), (29, .int x29), (30, .ref (a_was 0))] dL_law_2016 (by decide) rfl ?_
  refine x_lv [1, 2, 3, 4, 5, 6, 7, 8, 9, 10, 0] rfl ?_
  exact w_L_law_b2018 (a_ptd := (fun _ => q376))  _ _ _ _ _ _ _ _ _ _ _ h
def M_L_law_b1633 (xs : Nat → Int32) (L : Nat) : Nat → (Nat → Int32) → x_S → (Nat → Int32) → Int32 → Int32 → Int32 → Int32 → Int32 → Int32 → Int32 → Int32 → Int32 → Int32 → Int32 → Option (Unit)
  | 0, _, _, _, _, _, _, _, _, _, _, _, _, _, _ => none
  | n + 1, row_c, S, strains_c, x3, x4, x5, x6, x7, x9, x10, x13, x22, x23, x24 =>
    if x22 ≤ x24 then
    ((M_LR_kinds S (3 : Int32)).bind fun r280 =>
    (M_LR_test r280.2 (3 : Int32)).bind fun r282 =>
    (M_LR_asked r282.2).bind fun r284 =>
    if inb ((2 : Int32) + x23) 38 then
    if ((r280.1 >>> ((row_c ((2 : Int32) + x23).toNatClampNeg) &&& (31 : Int32))) &&& (1 : Int32)) = (1 : Int32) then
    ((M_LR_who r282.2 (3 : Int32)).bind fun r288 =>
    if ((r288.1 >>> (x23 &&& (31 : Int32))) &&& (1 : Int32)) = (1 : Int32) then
    (if r282.1 < 0 then
    (none)
    else
    (if (20 : Int32) < r282.1 then
    (none)
    else
    (if r284 < (1 : Int32) then
    (none)
    else
    ((M_L_bits r280.1).bind fun r294 =>
    if r284 ≤ r294 then
    ((M_L_bits (x9 &&& (42 : Int32))).bind fun r297 =>
    (M_L_bits (x9 &&& (21 : Int32))).bind fun r299 =>
    (M_LR_duel r288.2 (0 : Int32)).bind fun r301 =>
    if r301.1 = (1 : Int32) then
    ((M_LR_asked r301.2).bind fun r304 =>
    if r304 = (r297 - r299) then
    ((M_LR_duel r301.2 (1 : Int32)).bind fun r307 =>
    if r307.1 = (1 : Int32) then
    ((M_LR_asked r307.2).bind fun r310 =>
    if ((r297 - r299) + (1 : Int32)) < r310 then
    (none)
    else
    ((M_LR_asked r307.2).bind fun r313 =>
    if ((r297 - r299) - (1 : Int32)) ≤ r313 then
    ((M_L_cell xs L (27 : Int32)).bind fun r316 =>
    (M_L_up r316 (13 : Int32)).bind fun r318 =>
    (M_LR_odds r307.2 x13 (0 : Int32)).bind fun r320 =>
    if r320.1 = (1 : Int32) then
    ((M_LR_upper r320.2).bind fun r323 =>
    if (lg_cmp r323 (((x10 >>> (x13 &&& (31 : Int32))) &&& (1 : Int32)).toInt64)) = 0 then
    ((M_LR_lower r320.2).bind fun r326 =>
    if (lg_cmp r326 (1 : Int64)) = 0 then
    ((M_LR_odds r320.2 x13 r318).bind fun r329 =>
    if r329.1 = (1 : Int32) then
    ((M_LR_upper r329.2).bind fun r332 =>
    if (lg_cmp r332 (0 : Int64)) < 0 then
    (none)
    else
    ((M_LR_upper r329.2).bind fun r335 =>
    (M_LR_lower r329.2).bind fun r337 =>
    if 0 < (lg_cmp r335 r337) then
    (none)
    else
    ((M_LR_mid r329.2 (0 : Int32)).bind fun r340 =>
    if r340.1 = (1 : Int32) then
    ((M_LR_upper r340.2).bind fun r343 =>
    (M_L_bits x10).bind fun r345 =>
    if (lg_cmp r343 r345.toInt64) = 0 then
    ((M_LR_mid r340.2 r318).bind fun r348 =>
    if r348.1 = (1 : Int32) then
    ((M_LR_upper r348.2).bind fun r351 =>
    if (lg_cmp r351 (0 : Int64)) < 0 then
    (none)
    else
    ((M_LR_upper r348.2).bind fun r354 =>
    (M_LR_lower r348.2).bind fun r356 =>
    if (lg_cmp r354 (x4.toInt64 * r356)) ≤ 0 then
    ((M_L_cell xs L (28 : Int32)).bind fun r359 =>
    (M_L_up r359 (15 : Int32)).bind fun r361 =>
    M_L_law_b2012 xs L row_c r348.2 strains_c (fun _ => 0) x3 x5 x6 x7 x9 r361)
    else
    (none)))
    else
    (none))
    else
    (none))
    else
    (none))))
    else
    (none))
    else
    (none))
    else
    (none))
    else
    (none))
    else
    (none)))
    else
    (none))
    else
    (none))
    else
    (none))
    else
    (none)))))
    else
    (none))
    else
    (none)
    else none)
    else
    ((M_L_cell xs L ((18 : Int32) + x24)).bind fun r364 =>
    (M_L_up r364 (100 : Int32)).bind fun r366 =>
    (M_LR_lay S (3 : Int32) ((2 : Int32) * x24) r366).bind fun r368 =>
    if r368.1 = (1 : Int32) then
    ((M_LR_passes r368.2 x23 r366).bind fun r371 =>
    (M_LR_lay r368.2 (3 : Int32) (((2 : Int32) * x24) + (1 : Int32)) r371).bind fun r373 =>
    if r373.1 = (1 : Int32) then
    (M_L_law_b1633 xs L n row_c r373.2 strains_c x3 x4 x5 x6 x7 x9 x10 x13 x22 x23 (x24 + (1 : Int32)))
    else
    (none))
    else
    (none))
set_option maxHeartbeats 4000000 in
set_option maxRecDepth 100000 in
theorem w_L_law_b1633 {sb : Nat} {xs : Nat → Int32} {G : x_G} {l : Launch} {a : Nat → Nat} {ar : Nat → Nat} {al : Nat → Nat} {af : Nat → Nat} {ax : Nat → Nat} {ad : Nat → Nat} {aq : Nat → Nat} {a_row : Nat → Nat} {a_strains : Nat → Nat} {L : Nat} {res : Unit} : ∀ (n : Nat) (row_c : (Nat → Int32)) (S : x_S) (strains_c : (Nat → Int32)) (x3 : Int32) (x4 : Int32) (x5 : Int32) (x6 : Int32) (x7 : Int32) (x9 : Int32) (x10 : Int32) (x13 : Int32) (x22 : Int32) (x23 : Int32) (x24 : Int32), M_L_law_b1633 xs L n row_c S strains_c x3 x4 x5 x6 x7 x9 x10 x13 x22 x23 x24 = some res → X G l RL cL_law 38 room_1 (x_CL sb L xs) 42 883 1633 [(0, .ref sb), (1, .ref (a 0)), (2, .ref (a_row 0)), (3, .int x3), (4, .int x4), (5, .int x5), (6, .int x6), (7, .int x7), (9, .int x9), (10, .int x10), (13, .int x13), (22, .int x22), (23, .int x23), (24, .int x24)] [] ((WArr G a_row 38 row_c) ++ ((WLR G a ar al af ax ad aq S) ++ (WArr G a_strains 6 strains_c))) := by
  intro n
  induction n with
  | zero =>
    intro _ _ _ _ _ _ _ _ _ _ _ _ _ _ h
    cases h
  | succ n ih =>
    intro row_c S strains_c x3 x4 x5 x6 x7 x9 x10 x13 x22 x23 x24 h
    rw [M_L_law_b1633] at h
    refine x_iload dL_law_1633 13 rfl ?_
    refine x_iload dL_law_1635 11 rfl ?_
    refine x_icmp_ge 1702 dL_law_1637 (by decide) (fun c279 => ?_) (fun c279 => ?_)
    · have h := x_pos c279 h
      refine x_aload_n dL_law_1702 1 rfl rfl ?_
      refine x_iconst 3 dL_law_1703 (by decide) ?_
      obtain ⟨r280, e281, h⟩ := x_bind h
      refine x_cV (As := [.int (3 : Int32)]) (wc := (WLR G a ar al af ax ad aq S)) (w1 := (WLR G a ar al af ax ad aq r280.2)) (pre := (WArr G a_row 38 row_c)) (post := (WArr G a_strains 6 strains_c)) (rest := []) (st1 := [.int r280.1]) (ws1 := ((WArr G a_row 38 row_c) ++ ((WLR G a ar al af ax ad aq r280.2) ++ (WArr G a_strains 6 strains_c)))) (ci := 4) 0 dL_law_1704 (c_LR_kinds (a := a) e281) pk_X6_kinds ml_L_119 (by simp only [List.append_assoc, List.append_nil, List.nil_append]) rfl rfl rfl rfl rfl rfl rfl rfl (by simp only [List.append_assoc, List.append_nil, List.nil_append]) ?_
      refine x_istore [(24, .int r280.1), (0, .ref sb), (1, .ref (a 0)), (2, .ref (a_row 0)), (3, .int x3), (4, .int x4), (5, .int x5), (6, .int x6), (7, .int x7), (9, .int x9), (10, .int x10), (13, .int x13), (22, .int x22), (23, .int x23)] dL_law_1707 (by decide) rfl ?_
      refine x_aload_n dL_law_1709 2 rfl rfl ?_
      refine x_iconst 3 dL_law_1710 (by decide) ?_
      obtain ⟨r282, e283, h⟩ := x_bind h
      refine x_cV (As := [.int (3 : Int32)]) (wc := (WLR G a ar al af ax ad aq r280.2)) (w1 := (WLR G a ar al af ax ad aq r282.2)) (pre := (WArr G a_row 38 row_c)) (post := (WArr G a_strains 6 strains_c)) (rest := []) (st1 := [.int r282.1]) (ws1 := ((WArr G a_row 38 row_c) ++ ((WLR G a ar al af ax ad aq r282.2) ++ (WArr G a_strains 6 strains_c)))) (ci := 4) 0 dL_law_1711 (c_LR_test (a := a) e283) pk_X6_test ml_L_122 (by simp only [List.append_assoc, List.append_nil, List.nil_append]) rfl rfl rfl rfl rfl rfl rfl rfl (by simp only [List.append_assoc, List.append_nil, List.nil_append]) ?_
      refine x_istore [(25, .int r282.1), (24, .int r280.1), (0, .ref sb), (1, .ref (a 0)), (2, .ref (a_row 0)), (3, .int x3), (4, .int x4), (5, .int x5), (6, .int x6), (7, .int x7), (9, .int x9), (10, .int x10), (13, .int x13), (22, .int x22), (23, .int x23)] dL_law_1714 (by decide) rfl ?_
      refine x_aload_n dL_law_1716 3 rfl rfl ?_
      obtain ⟨r284, e285, h⟩ := x_bind h
      refine x_cV (As := []) (wc := (WLR G a ar al af ax ad aq r282.2)) (w1 := (WLR G a ar al af ax ad aq r282.2)) (pre := (WArr G a_row 38 row_c)) (post := (WArr G a_strains 6 strains_c)) (rest := []) (st1 := [.int r284]) (ws1 := ((WArr G a_row 38 row_c) ++ ((WLR G a ar al af ax ad aq r282.2) ++ (WArr G a_strains 6 strains_c)))) (ci := 4) 0 dL_law_1717 (c_LR_asked (a := a) e285) pk_X6_asked ml_L_42 (by simp only [List.append_assoc, List.append_nil, List.nil_append]) rfl rfl rfl rfl rfl rfl rfl rfl (by simp only [List.append_assoc, List.append_nil, List.nil_append]) ?_
      refine x_istore [(26, .int r284), (25, .int r282.1), (24, .int r280.1), (0, .ref sb), (1, .ref (a 0)), (2, .ref (a_row 0)), (3, .int x3), (4, .int x4), (5, .int x5), (6, .int x6), (7, .int x7), (9, .int x9), (10, .int x10), (13, .int x13), (22, .int x22), (23, .int x23)] dL_law_1720 (by decide) rfl ?_
      refine x_iload dL_law_1722 2 rfl ?_
      refine x_aload_n dL_law_1724 5 rfl rfl ?_
      refine x_iconst 2 dL_law_1725 (by decide) ?_
      refine x_iload dL_law_1726 15 rfl ?_
      refine x_iadd dL_law_1728 ?_
      obtain ⟨b286, h⟩ := x_guard h
      refine x_iald ((2 : Int32) + x23).toNatClampNeg (q0 := 0) dL_law_1729 rfl rfl b286 ?_
      refine x_ishr dL_law_1730 ?_
      refine x_iconst 1 dL_law_1731 (by decide) ?_
      refine x_iand dL_law_1732 ?_
      refine x_iconst 1 dL_law_1733 (by decide) ?_
      refine x_icmp_ne 1779 dL_law_1734 (by decide) (fun c287 => ?_) (fun c287 => ?_)
      · have h := x_neg c287 h
        refine x_iconst 0 dL_law_1779 (by decide) ?_
        cases h
      · have h := x_pos c287 h
        refine x_aload_n dL_law_1737 4 rfl rfl ?_
        refine x_iconst 3 dL_law_1738 (by decide) ?_
        obtain ⟨r288, e289, h⟩ := x_bind h
        refine x_cV (As := [.int (3 : Int32)]) (wc := (WLR G a ar al af ax ad aq r282.2)) (w1 := (WLR G a ar al af ax ad aq r288.2)) (pre := (WArr G a_row 38 row_c)) (post := (WArr G a_strains 6 strains_c)) (rest := []) (st1 := [.int r288.1]) (ws1 := ((WArr G a_row 38 row_c) ++ ((WLR G a ar al af ax ad aq r288.2) ++ (WArr G a_strains 6 strains_c)))) (ci := 4) 0 dL_law_1739 (c_LR_who (a := a) e289) pk_X6_who ml_L_125 (by simp only [List.append_assoc, List.append_nil, List.nil_append]) rfl rfl rfl rfl rfl rfl rfl rfl (by simp only [List.append_assoc, List.append_nil, List.nil_append]) ?_
        refine x_iload dL_law_1742 15 rfl ?_
        refine x_ishr dL_law_1744 ?_
        refine x_iconst 1 dL_law_1745 (by decide) ?_
        refine x_iand dL_law_1746 ?_
        refine x_iconst 1 dL_law_1747 (by decide) ?_
        refine x_icmp_ne 1779 dL_law_1748 (by decide) (fun c290 => ?_) (fun c290 => ?_)
        · have h := x_neg c290 h
          refine x_iconst 0 dL_law_1779 (by decide) ?_
          cases h
        · have h := x_pos c290 h
          refine x_iload dL_law_1751 1 rfl ?_
          refine x_if_lt 1779 dL_law_1753 (by decide) (fun c291 => ?_) (fun c291 => ?_)
          · have h := x_pos c291 h
            refine x_iconst 0 dL_law_1779 (by decide) ?_
            cases h
          · have h := x_neg c291 h
            refine x_iload dL_law_1756 1 rfl ?_
            refine x_bipush 20 dL_law_1758 (by decide) ?_
            refine x_icmp_gt 1779 dL_law_1760 (by decide) (fun c292 => ?_) (fun c292 => ?_)
            · have h := x_pos c292 h
              refine x_iconst 0 dL_law_1779 (by decide) ?_
              cases h
            · have h := x_neg c292 h
              refine x_iload dL_law_1763 0 rfl ?_
              refine x_iconst 1 dL_law_1765 (by decide) ?_
              refine x_icmp_lt 1779 dL_law_1766 (by decide) (fun c293 => ?_) (fun c293 => ?_)
              · have h := x_pos c293 h
                refine x_iconst 0 dL_law_1779 (by decide) ?_
                cases h
              · have h := x_neg c293 h
                refine x_iload dL_law_1769 0 rfl ?_
                refine x_iload dL_law_1771 2 rfl ?_
                obtain ⟨r294, e295, h⟩ := x_bind h
                refine x_cS (As := [.int r280.1]) (wc := ([] : va_W)) (w1 := ([] : va_W)) (pre := []) (post := ((WArr G a_row 38 row_c) ++ ((WLR G a ar al af ax ad aq r288.2) ++ (WArr G a_strains 6 strains_c)))) (rest := [.int r284]) (st1 := [.int r294, .int r284]) (ws1 := ((WArr G a_row 38 row_c) ++ ((WLR G a ar al af ax ad aq r288.2) ++ (WArr G a_strains 6 strains_c)))) dL_law_1773 (c_L_bits e295) pk_L_bits ml_L_102 rfl rfl rfl rfl rfl rfl rfl ?_
                refine x_icmp_le 1781 dL_law_1776 (by decide) (fun c296 => ?_) (fun c296 => ?_)
                · have h := x_pos c296 h
                  refine x_iload dL_law_1781 11 rfl ?_
                  refine x_bipush 42 dL_law_1783 (by decide) ?_
                  refine x_iand dL_law_1785 ?_
                  obtain ⟨r297, e298, h⟩ := x_bind h
                  refine x_cS (As := [.int (x9 &&& (42 : Int32))]) (wc := ([] : va_W)) (w1 := ([] : va_W)) (pre := []) (post := ((WArr G a_row 38 row_c) ++ ((WLR G a ar al af ax ad aq r288.2) ++ (WArr G a_strains 6 strains_c)))) (rest := []) (st1 := [.int r297]) (ws1 := ((WArr G a_row 38 row_c) ++ ((WLR G a ar al af ax ad aq r288.2) ++ (WArr G a_strains 6 strains_c)))) dL_law_1786 (c_L_bits e298) pk_L_bits ml_L_102 rfl rfl rfl rfl rfl rfl rfl ?_
                  refine x_iload dL_law_1789 11 rfl ?_
                  refine x_bipush 21 dL_law_1791 (by decide) ?_
                  refine x_iand dL_law_1793 ?_
                  obtain ⟨r299, e300, h⟩ := x_bind h
                  refine x_cS (As := [.int (x9 &&& (21 : Int32))]) (wc := ([] : va_W)) (w1 := ([] : va_W)) (pre := []) (post := ((WArr G a_row 38 row_c) ++ ((WLR G a ar al af ax ad aq r288.2) ++ (WArr G a_strains 6 strains_c)))) (rest := [.int r297]) (st1 := [.int r299, .int r297]) (ws1 := ((WArr G a_row 38 row_c) ++ ((WLR G a ar al af ax ad aq r288.2) ++ (WArr G a_strains 6 strains_c)))) dL_law_1794 (c_L_bits e300) pk_L_bits ml_L_102 rfl rfl rfl rfl rfl rfl rfl ?_
                  refine x_isub dL_law_1797 ?_
                  refine x_istore [(27, .int (r297 - r299)), (26, .int r284), (25, .int r282.1), (24, .int r280.1), (0, .ref sb), (1, .ref (a 0)), (2, .ref (a_row 0)), (3, .int x3), (4, .int x4), (5, .int x5), (6, .int x6), (7, .int x7), (9, .int x9), (10, .int x10), (13, .int x13), (22, .int x22), (23, .int x23)] dL_law_1798 (by decide) rfl ?_
                  refine x_aload_n dL_law_1800 5 rfl rfl ?_
                  refine x_iconst 0 dL_law_1801 (by decide) ?_
                  obtain ⟨r301, e302, h⟩ := x_bind h
                  refine x_cV (As := [.int (0 : Int32)]) (wc := (WLR G a ar al af ax ad aq r288.2)) (w1 := (WLR G a ar al af ax ad aq r301.2)) (pre := (WArr G a_row 38 row_c)) (post := (WArr G a_strains 6 strains_c)) (rest := []) (st1 := [.int r301.1]) (ws1 := ((WArr G a_row 38 row_c) ++ ((WLR G a ar al af ax ad aq r301.2) ++ (WArr G a_strains 6 strains_c)))) (ci := 4) 0 dL_law_1802 (c_LR_duel (a := a) e302) pk_X6_duel ml_L_128 (by simp only [List.append_assoc, List.append_nil, List.nil_append]) rfl rfl rfl rfl rfl rfl rfl rfl (by simp only [List.append_assoc, List.append_nil, List.nil_append]) ?_
                  refine x_iconst 1 dL_law_1805 (by decide) ?_
                  refine x_icmp_ne 1849 dL_law_1806 (by decide) (fun c303 => ?_) (fun c303 => ?_)
                  · have h := x_neg c303 h
                    refine x_iconst 0 dL_law_1849 (by decide) ?_
                    cases h
                  · have h := x_pos c303 h
                    refine x_aload_n dL_law_1809 5 rfl rfl ?_
                    obtain ⟨r304, e305, h⟩ := x_bind h
                    refine x_cV (As := []) (wc := (WLR G a ar al af ax ad aq r301.2)) (w1 := (WLR G a ar al af ax ad aq r301.2)) (pre := (WArr G a_row 38 row_c)) (post := (WArr G a_strains 6 strains_c)) (rest := []) (st1 := [.int r304]) (ws1 := ((WArr G a_row 38 row_c) ++ ((WLR G a ar al af ax ad aq r301.2) ++ (WArr G a_strains 6 strains_c)))) (ci := 4) 0 dL_law_1810 (c_LR_asked (a := a) e305) pk_X6_asked ml_L_42 (by simp only [List.append_assoc, List.append_nil, List.nil_append]) rfl rfl rfl rfl rfl rfl rfl rfl (by simp only [List.append_assoc, List.append_nil, List.nil_append]) ?_
                    refine x_iload dL_law_1813 0 rfl ?_
                    refine x_icmp_ne 1849 dL_law_1815 (by decide) (fun c306 => ?_) (fun c306 => ?_)
                    · have h := x_neg c306 h
                      refine x_iconst 0 dL_law_1849 (by decide) ?_
                      cases h
                    · have h := x_pos c306 h
                      refine x_aload_n dL_law_1818 5 rfl rfl ?_
                      refine x_iconst 1 dL_law_1819 (by decide) ?_
                      obtain ⟨r307, e308, h⟩ := x_bind h
                      refine x_cV (As := [.int (1 : Int32)]) (wc := (WLR G a ar al af ax ad aq r301.2)) (w1 := (WLR G a ar al af ax ad aq r307.2)) (pre := (WArr G a_row 38 row_c)) (post := (WArr G a_strains 6 strains_c)) (rest := []) (st1 := [.int r307.1]) (ws1 := ((WArr G a_row 38 row_c) ++ ((WLR G a ar al af ax ad aq r307.2) ++ (WArr G a_strains 6 strains_c)))) (ci := 4) 0 dL_law_1820 (c_LR_duel (a := a) e308) pk_X6_duel ml_L_128 (by simp only [List.append_assoc, List.append_nil, List.nil_append]) rfl rfl rfl rfl rfl rfl rfl rfl (by simp only [List.append_assoc, List.append_nil, List.nil_append]) ?_
                      refine x_iconst 1 dL_law_1823 (by decide) ?_
                      refine x_icmp_ne 1849 dL_law_1824 (by decide) (fun c309 => ?_) (fun c309 => ?_)
                      · have h := x_neg c309 h
                        refine x_iconst 0 dL_law_1849 (by decide) ?_
                        cases h
                      · have h := x_pos c309 h
                        refine x_aload_n dL_law_1827 5 rfl rfl ?_
                        obtain ⟨r310, e311, h⟩ := x_bind h
                        refine x_cV (As := []) (wc := (WLR G a ar al af ax ad aq r307.2)) (w1 := (WLR G a ar al af ax ad aq r307.2)) (pre := (WArr G a_row 38 row_c)) (post := (WArr G a_strains 6 strains_c)) (rest := []) (st1 := [.int r310]) (ws1 := ((WArr G a_row 38 row_c) ++ ((WLR G a ar al af ax ad aq r307.2) ++ (WArr G a_strains 6 strains_c)))) (ci := 4) 0 dL_law_1828 (c_LR_asked (a := a) e311) pk_X6_asked ml_L_42 (by simp only [List.append_assoc, List.append_nil, List.nil_append]) rfl rfl rfl rfl rfl rfl rfl rfl (by simp only [List.append_assoc, List.append_nil, List.nil_append]) ?_
                        refine x_iload dL_law_1831 0 rfl ?_
                        refine x_iconst 1 dL_law_1833 (by decide) ?_
                        refine x_iadd dL_law_1834 ?_
                        refine x_icmp_gt 1849 dL_law_1835 (by decide) (fun c312 => ?_) (fun c312 => ?_)
                        · have h := x_pos c312 h
                          refine x_iconst 0 dL_law_1849 (by decide) ?_
                          cases h
                        · have h := x_neg c312 h
                          refine x_aload_n dL_law_1838 5 rfl rfl ?_
                          obtain ⟨r313, e314, h⟩ := x_bind h
                          refine x_cV (As := []) (wc := (WLR G a ar al af ax ad aq r307.2)) (w1 := (WLR G a ar al af ax ad aq r307.2)) (pre := (WArr G a_row 38 row_c)) (post := (WArr G a_strains 6 strains_c)) (rest := []) (st1 := [.int r313]) (ws1 := ((WArr G a_row 38 row_c) ++ ((WLR G a ar al af ax ad aq r307.2) ++ (WArr G a_strains 6 strains_c)))) (ci := 4) 0 dL_law_1839 (c_LR_asked (a := a) e314) pk_X6_asked ml_L_42 (by simp only [List.append_assoc, List.append_nil, List.nil_append]) rfl rfl rfl rfl rfl rfl rfl rfl (by simp only [List.append_assoc, List.append_nil, List.nil_append]) ?_
                          refine x_iload dL_law_1842 0 rfl ?_
                          refine x_iconst 1 dL_law_1844 (by decide) ?_
                          refine x_isub dL_law_1845 ?_
                          refine x_icmp_ge 1851 dL_law_1846 (by decide) (fun c315 => ?_) (fun c315 => ?_)
                          · have h := x_pos c315 h
                            refine x_aload_n dL_law_1851 4 rfl rfl ?_
                            refine x_bipush 27 dL_law_1852 (by decide) ?_
                            obtain ⟨r316, e317, h⟩ := x_bind h
                            refine x_cSs (As := [.ref sb, .int (27 : Int32)]) (wc := ([] : va_W)) (w1 := ([] : va_W)) (pre := []) (post := ((WArr G a_row 38 row_c) ++ ((WLR G a ar al af ax ad aq r307.2) ++ (WArr G a_strains 6 strains_c)))) (rest := []) (st1 := [.int r316]) (ws1 := ((WArr G a_row 38 row_c) ++ ((WLR G a ar al af ax ad aq r307.2) ++ (WArr G a_strains 6 strains_c)))) x_sc_CL dL_law_1854 (c_L_cell e317) pk_L_cell ml_L_9 rfl rfl rfl rfl rfl rfl rfl ?_
                            refine x_bipush 13 dL_law_1857 (by decide) ?_
                            obtain ⟨r318, e319, h⟩ := x_bind h
                            refine x_cS (As := [.int r316, .int (13 : Int32)]) (wc := ([] : va_W)) (w1 := ([] : va_W)) (pre := []) (post := ((WArr G a_row 38 row_c) ++ ((WLR G a ar al af ax ad aq r307.2) ++ (WArr G a_strains 6 strains_c)))) (rest := []) (st1 := [.int r318]) (ws1 := ((WArr G a_row 38 row_c) ++ ((WLR G a ar al af ax ad aq r307.2) ++ (WArr G a_strains 6 strains_c)))) dL_law_1859 (c_L_up e319) pk_L_up ml_L_15 rfl rfl rfl rfl rfl rfl rfl ?_
                            refine x_istore [(28, .int r318), (27, .int (r297 - r299)), (26, .int r284), (25, .int r282.1), (24, .int r280.1), (0, .ref sb), (1, .ref (a 0)), (2, .ref (a_row 0)), (3, .int x3), (4, .int x4), (5, .int x5), (6, .int x6), (7, .int x7), (9, .int x9), (10, .int x10), (13, .int x13), (22, .int x22), (23, .int x23)] dL_law_1862 (by decide) rfl ?_
                            refine x_aload_n dL_law_1864 6 rfl rfl ?_
                            refine x_iload dL_law_1865 15 rfl ?_
                            refine x_iconst 0 dL_law_1867 (by decide) ?_
                            obtain ⟨r320, e321, h⟩ := x_bind h
                            refine x_cV (As := [.int x13, .int (0 : Int32)]) (wc := (WLR G a ar al af ax ad aq r307.2)) (w1 := (WLR G a ar al af ax ad aq r320.2)) (pre := (WArr G a_row 38 row_c)) (post := (WArr G a_strains 6 strains_c)) (rest := []) (st1 := [.int r320.1]) (ws1 := ((WArr G a_row 38 row_c) ++ ((WLR G a ar al af ax ad aq r320.2) ++ (WArr G a_strains 6 strains_c)))) (ci := 4) 0 dL_law_1868 (c_LR_odds (a := a) e321) pk_X6_odds ml_L_131 (by simp only [List.append_assoc, List.append_nil, List.nil_append]) rfl rfl rfl rfl rfl rfl rfl rfl (by simp only [List.append_assoc, List.append_nil, List.nil_append]) ?_
                            refine x_iconst 1 dL_law_1871 (by decide) ?_
                            refine x_icmp_ne 1991 dL_law_1872 (by decide) (fun c322 => ?_) (fun c322 => ?_)
                            · have h := x_neg c322 h
                              refine x_iconst 0 dL_law_1991 (by decide) ?_
                              cases h
                            · have h := x_pos c322 h
                              refine x_aload_n dL_law_1875 6 rfl rfl ?_
                              obtain ⟨r323, e324, h⟩ := x_bind h
                              refine x_cV (As := []) (wc := (WLR G a ar al af ax ad aq r320.2)) (w1 := (WLR G a ar al af ax ad aq r320.2)) (pre := (WArr G a_row 38 row_c)) (post := (WArr G a_strains 6 strains_c)) (rest := []) (st1 := [.long r323]) (ws1 := ((WArr G a_row 38 row_c) ++ ((WLR G a ar al af ax ad aq r320.2) ++ (WArr G a_strains 6 strains_c)))) (ci := 4) 0 dL_law_1876 (c_LR_upper (a := a) e324) pk_X6_upper ml_L_134 (by simp only [List.append_assoc, List.append_nil, List.nil_append]) rfl rfl rfl rfl rfl rfl rfl rfl (by simp only [List.append_assoc, List.append_nil, List.nil_append]) ?_
                              refine x_iload dL_law_1879 14 rfl ?_
                              refine x_iload dL_law_1881 15 rfl ?_
                              refine x_ishr dL_law_1883 ?_
                              refine x_iconst 1 dL_law_1884 (by decide) ?_
                              refine x_iand dL_law_1885 ?_
                              refine x_i2l dL_law_1886 ?_
                              refine x_lcmp dL_law_1887 ?_
                              refine x_if_ne 1991 dL_law_1888 (by decide) (fun c325 => ?_) (fun c325 => ?_)
                              · have h := x_neg c325 h
                                refine x_iconst 0 dL_law_1991 (by decide) ?_
                                cases h
                              · have h := x_pos c325 h
                                refine x_aload_n dL_law_1891 6 rfl rfl ?_
                                obtain ⟨r326, e327, h⟩ := x_bind h
                                refine x_cV (As := []) (wc := (WLR G a ar al af ax ad aq r320.2)) (w1 := (WLR G a ar al af ax ad aq r320.2)) (pre := (WArr G a_row 38 row_c)) (post := (WArr G a_strains 6 strains_c)) (rest := []) (st1 := [.long r326]) (ws1 := ((WArr G a_row 38 row_c) ++ ((WLR G a ar al af ax ad aq r320.2) ++ (WArr G a_strains 6 strains_c)))) (ci := 4) 0 dL_law_1892 (c_LR_lower (a := a) e327) pk_X6_lower ml_L_138 (by simp only [List.append_assoc, List.append_nil, List.nil_append]) rfl rfl rfl rfl rfl rfl rfl rfl (by simp only [List.append_assoc, List.append_nil, List.nil_append]) ?_
                                refine x_lconst 1 dL_law_1895 (by decide) ?_
                                refine x_lcmp dL_law_1896 ?_
                                refine x_if_ne 1991 dL_law_1897 (by decide) (fun c328 => ?_) (fun c328 => ?_)
                                · have h := x_neg c328 h
                                  refine x_iconst 0 dL_law_1991 (by decide) ?_
                                  cases h
                                · have h := x_pos c328 h
                                  refine x_aload_n dL_law_1900 6 rfl rfl ?_
                                  refine x_iload dL_law_1901 15 rfl ?_
                                  refine x_iload dL_law_1903 0 rfl ?_
                                  obtain ⟨r329, e330, h⟩ := x_bind h
                                  refine x_cV (As := [.int x13, .int r318]) (wc := (WLR G a ar al af ax ad aq r320.2)) (w1 := (WLR G a ar al af ax ad aq r329.2)) (pre := (WArr G a_row 38 row_c)) (post := (WArr G a_strains 6 strains_c)) (rest := []) (st1 := [.int r329.1]) (ws1 := ((WArr G a_row 38 row_c) ++ ((WLR G a ar al af ax ad aq r329.2) ++ (WArr G a_strains 6 strains_c)))) (ci := 4) 0 dL_law_1905 (c_LR_odds (a := a) e330) pk_X6_odds ml_L_131 (by simp only [List.append_assoc, List.append_nil, List.nil_append]) rfl rfl rfl rfl rfl rfl rfl rfl (by simp only [List.append_assoc, List.append_nil, List.nil_append]) ?_
                                  refine x_iconst 1 dL_law_1908 (by decide) ?_
                                  refine x_icmp_ne 1991 dL_law_1909 (by decide) (fun c331 => ?_) (fun c331 => ?_)
                                  · have h := x_neg c331 h
                                    refine x_iconst 0 dL_law_1991 (by decide) ?_
                                    cases h
                                  · have h := x_pos c331 h
                                    refine x_aload_n dL_law_1912 6 rfl rfl ?_
                                    obtain ⟨r332, e333, h⟩ := x_bind h
                                    refine x_cV (As := []) (wc := (WLR G a ar al af ax ad aq r329.2)) (w1 := (WLR G a ar al af ax ad aq r329.2)) (pre := (WArr G a_row 38 row_c)) (post := (WArr G a_strains 6 strains_c)) (rest := []) (st1 := [.long r332]) (ws1 := ((WArr G a_row 38 row_c) ++ ((WLR G a ar al af ax ad aq r329.2) ++ (WArr G a_strains 6 strains_c)))) (ci := 4) 0 dL_law_1913 (c_LR_upper (a := a) e333) pk_X6_upper ml_L_134 (by simp only [List.append_assoc, List.append_nil, List.nil_append]) rfl rfl rfl rfl rfl rfl rfl rfl (by simp only [List.append_assoc, List.append_nil, List.nil_append]) ?_
                                    refine x_lconst 0 dL_law_1916 (by decide) ?_
                                    refine x_lcmp dL_law_1917 ?_
                                    refine x_if_lt 1991 dL_law_1918 (by decide) (fun c334 => ?_) (fun c334 => ?_)
                                    · have h := x_pos c334 h
                                      refine x_iconst 0 dL_law_1991 (by decide) ?_
                                      cases h
                                    · have h := x_neg c334 h
                                      refine x_aload_n dL_law_1921 6 rfl rfl ?_
                                      obtain ⟨r335, e336, h⟩ := x_bind h
                                      refine x_cV (As := []) (wc := (WLR G a ar al af ax ad aq r329.2)) (w1 := (WLR G a ar al af ax ad aq r329.2)) (pre := (WArr G a_row 38 row_c)) (post := (WArr G a_strains 6 strains_c)) (rest := []) (st1 := [.long r335]) (ws1 := ((WArr G a_row 38 row_c) ++ ((WLR G a ar al af ax ad aq r329.2) ++ (WArr G a_strains 6 strains_c)))) (ci := 4) 0 dL_law_1922 (c_LR_upper (a := a) e336) pk_X6_upper ml_L_134 (by simp only [List.append_assoc, List.append_nil, List.nil_append]) rfl rfl rfl rfl rfl rfl rfl rfl (by simp only [List.append_assoc, List.append_nil, List.nil_append]) ?_
                                      refine x_aload_n dL_law_1925 6 rfl rfl ?_
                                      obtain ⟨r337, e338, h⟩ := x_bind h
                                      refine x_cV (As := []) (wc := (WLR G a ar al af ax ad aq r329.2)) (w1 := (WLR G a ar al af ax ad aq r329.2)) (pre := (WArr G a_row 38 row_c)) (post := (WArr G a_strains 6 strains_c)) (rest := [.long r335]) (st1 := [.long r337, .long r335]) (ws1 := ((WArr G a_row 38 row_c) ++ ((WLR G a ar al af ax ad aq r329.2) ++ (WArr G a_strains 6 strains_c)))) (ci := 4) 0 dL_law_1926 (c_LR_lower (a := a) e338) pk_X6_lower ml_L_138 (by simp only [List.append_assoc, List.append_nil, List.nil_append]) rfl rfl rfl rfl rfl rfl rfl rfl (by simp only [List.append_assoc, List.append_nil, List.nil_append]) ?_
                                      refine x_lcmp dL_law_1929 ?_
                                      refine x_if_gt 1991 dL_law_1930 (by decide) (fun c339 => ?_) (fun c339 => ?_)
                                      · have h := x_pos c339 h
                                        refine x_iconst 0 dL_law_1991 (by decide) ?_
                                        cases h
                                      · have h := x_neg c339 h
                                        refine x_aload_n dL_law_1933 6 rfl rfl ?_
                                        refine x_iconst 0 dL_law_1934 (by decide) ?_
                                        obtain ⟨r340, e341, h⟩ := x_bind h
                                        refine x_cV (As := [.int (0 : Int32)]) (wc := (WLR G a ar al af ax ad aq r329.2)) (w1 := (WLR G a ar al af ax ad aq r340.2)) (pre := (WArr G a_row 38 row_c)) (post := (WArr G a_strains 6 strains_c)) (rest := []) (st1 := [.int r340.1]) (ws1 := ((WArr G a_row 38 row_c) ++ ((WLR G a ar al af ax ad aq r340.2) ++ (WArr G a_strains 6 strains_c)))) (ci := 4) 0 dL_law_1935 (c_LR_mid (a := a) e341) pk_X6_mid ml_L_141 (by simp only [List.append_assoc, List.append_nil, List.nil_append]) rfl rfl rfl rfl rfl rfl rfl rfl (by simp only [List.append_assoc, List.append_nil, List.nil_append]) ?_
                                        refine x_iconst 1 dL_law_1938 (by decide) ?_
                                        refine x_icmp_ne 1991 dL_law_1939 (by decide) (fun c342 => ?_) (fun c342 => ?_)
                                        · have h := x_neg c342 h
                                          refine x_iconst 0 dL_law_1991 (by decide) ?_
                                          cases h
                                        · have h := x_pos c342 h
                                          refine x_aload_n dL_law_1942 6 rfl rfl ?_
                                          obtain ⟨r343, e344, h⟩ := x_bind h
                                          refine x_cV (As := []) (wc := (WLR G a ar al af ax ad aq r340.2)) (w1 := (WLR G a ar al af ax ad aq r340.2)) (pre := (WArr G a_row 38 row_c)) (post := (WArr G a_strains 6 strains_c)) (rest := []) (st1 := [.long r343]) (ws1 := ((WArr G a_row 38 row_c) ++ ((WLR G a ar al af ax ad aq r340.2) ++ (WArr G a_strains 6 strains_c)))) (ci := 4) 0 dL_law_1943 (c_LR_upper (a := a) e344) pk_X6_upper ml_L_134 (by simp only [List.append_assoc, List.append_nil, List.nil_append]) rfl rfl rfl rfl rfl rfl rfl rfl (by simp only [List.append_assoc, List.append_nil, List.nil_append]) ?_
                                          refine x_iload dL_law_1946 14 rfl ?_
                                          obtain ⟨r345, e346, h⟩ := x_bind h
                                          refine x_cS (As := [.int x10]) (wc := ([] : va_W)) (w1 := ([] : va_W)) (pre := []) (post := ((WArr G a_row 38 row_c) ++ ((WLR G a ar al af ax ad aq r340.2) ++ (WArr G a_strains 6 strains_c)))) (rest := [.long r343]) (st1 := [.int r345, .long r343]) (ws1 := ((WArr G a_row 38 row_c) ++ ((WLR G a ar al af ax ad aq r340.2) ++ (WArr G a_strains 6 strains_c)))) dL_law_1948 (c_L_bits e346) pk_L_bits ml_L_102 rfl rfl rfl rfl rfl rfl rfl ?_
                                          refine x_i2l dL_law_1951 ?_
                                          refine x_lcmp dL_law_1952 ?_
                                          refine x_if_ne 1991 dL_law_1953 (by decide) (fun c347 => ?_) (fun c347 => ?_)
                                          · have h := x_neg c347 h
                                            refine x_iconst 0 dL_law_1991 (by decide) ?_
                                            cases h
                                          · have h := x_pos c347 h
                                            refine x_aload_n dL_law_1956 6 rfl rfl ?_
                                            refine x_iload dL_law_1957 0 rfl ?_
                                            obtain ⟨r348, e349, h⟩ := x_bind h
                                            refine x_cV (As := [.int r318]) (wc := (WLR G a ar al af ax ad aq r340.2)) (w1 := (WLR G a ar al af ax ad aq r348.2)) (pre := (WArr G a_row 38 row_c)) (post := (WArr G a_strains 6 strains_c)) (rest := []) (st1 := [.int r348.1]) (ws1 := ((WArr G a_row 38 row_c) ++ ((WLR G a ar al af ax ad aq r348.2) ++ (WArr G a_strains 6 strains_c)))) (ci := 4) 0 dL_law_1959 (c_LR_mid (a := a) e349) pk_X6_mid ml_L_141 (by simp only [List.append_assoc, List.append_nil, List.nil_append]) rfl rfl rfl rfl rfl rfl rfl rfl (by simp only [List.append_assoc, List.append_nil, List.nil_append]) ?_
                                            refine x_iconst 1 dL_law_1962 (by decide) ?_
                                            refine x_icmp_ne 1991 dL_law_1963 (by decide) (fun c350 => ?_) (fun c350 => ?_)
                                            · have h := x_neg c350 h
                                              refine x_iconst 0 dL_law_1991 (by decide) ?_
                                              cases h
                                            · have h := x_pos c350 h
                                              refine x_aload_n dL_law_1966 6 rfl rfl ?_
                                              obtain ⟨r351, e352, h⟩ := x_bind h
                                              refine x_cV (As := []) (wc := (WLR G a ar al af ax ad aq r348.2)) (w1 := (WLR G a ar al af ax ad aq r348.2)) (pre := (WArr G a_row 38 row_c)) (post := (WArr G a_strains 6 strains_c)) (rest := []) (st1 := [.long r351]) (ws1 := ((WArr G a_row 38 row_c) ++ ((WLR G a ar al af ax ad aq r348.2) ++ (WArr G a_strains 6 strains_c)))) (ci := 4) 0 dL_law_1967 (c_LR_upper (a := a) e352) pk_X6_upper ml_L_134 (by simp only [List.append_assoc, List.append_nil, List.nil_append]) rfl rfl rfl rfl rfl rfl rfl rfl (by simp only [List.append_assoc, List.append_nil, List.nil_append]) ?_
                                              refine x_lconst 0 dL_law_1970 (by decide) ?_
                                              refine x_lcmp dL_law_1971 ?_
                                              refine x_if_lt 1991 dL_law_1972 (by decide) (fun c353 => ?_) (fun c353 => ?_)
                                              · have h := x_pos c353 h
                                                refine x_iconst 0 dL_law_1991 (by decide) ?_
                                                cases h
                                              · have h := x_neg c353 h
                                                refine x_aload_n dL_law_1975 6 rfl rfl ?_
                                                obtain ⟨r354, e355, h⟩ := x_bind h
                                                refine x_cV (As := []) (wc := (WLR G a ar al af ax ad aq r348.2)) (w1 := (WLR G a ar al af ax ad aq r348.2)) (pre := (WArr G a_row 38 row_c)) (post := (WArr G a_strains 6 strains_c)) (rest := []) (st1 := [.long r354]) (ws1 := ((WArr G a_row 38 row_c) ++ ((WLR G a ar al af ax ad aq r348.2) ++ (WArr G a_strains 6 strains_c)))) (ci := 4) 0 dL_law_1976 (c_LR_upper (a := a) e355) pk_X6_upper ml_L_134 (by simp only [List.append_assoc, List.append_nil, List.nil_append]) rfl rfl rfl rfl rfl rfl rfl rfl (by simp only [List.append_assoc, List.append_nil, List.nil_append]) ?_
                                                refine x_iload dL_law_1979 9 rfl ?_
                                                refine x_i2l dL_law_1981 ?_
                                                refine x_aload_n dL_law_1982 6 rfl rfl ?_
                                                obtain ⟨r356, e357, h⟩ := x_bind h
                                                refine x_cV (As := []) (wc := (WLR G a ar al af ax ad aq r348.2)) (w1 := (WLR G a ar al af ax ad aq r348.2)) (pre := (WArr G a_row 38 row_c)) (post := (WArr G a_strains 6 strains_c)) (rest := [.long x4.toInt64, .long r354]) (st1 := [.long r356, .long x4.toInt64, .long r354]) (ws1 := ((WArr G a_row 38 row_c) ++ ((WLR G a ar al af ax ad aq r348.2) ++ (WArr G a_strains 6 strains_c)))) (ci := 4) 0 dL_law_1983 (c_LR_lower (a := a) e357) pk_X6_lower ml_L_138 (by simp only [List.append_assoc, List.append_nil, List.nil_append]) rfl rfl rfl rfl rfl rfl rfl rfl (by simp only [List.append_assoc, List.append_nil, List.nil_append]) ?_
                                                refine x_lmul dL_law_1986 ?_
                                                refine x_lcmp dL_law_1987 ?_
                                                refine x_if_le 1993 dL_law_1988 (by decide) (fun c358 => ?_) (fun c358 => ?_)
                                                · have h := x_pos c358 h
                                                  refine x_aload_n dL_law_1993 5 rfl rfl ?_
                                                  refine x_bipush 28 dL_law_1994 (by decide) ?_
                                                  obtain ⟨r359, e360, h⟩ := x_bind h
                                                  refine x_cSs (As := [.ref sb, .int (28 : Int32)]) (wc := ([] : va_W)) (w1 := ([] : va_W)) (pre := []) (post := ((WArr G a_row 38 row_c) ++ ((WLR G a ar al af ax ad aq r348.2) ++ (WArr G a_strains 6 strains_c)))) (rest := []) (st1 := [.int r359]) (ws1 := ((WArr G a_row 38 row_c) ++ ((WLR G a ar al af ax ad aq r348.2) ++ (WArr G a_strains 6 strains_c)))) x_sc_CL dL_law_1996 (c_L_cell e360) pk_L_cell ml_L_9 rfl rfl rfl rfl rfl rfl rfl ?_
                                                  refine x_bipush 15 dL_law_1999 (by decide) ?_
                                                  obtain ⟨r361, e362, h⟩ := x_bind h
                                                  refine x_cS (As := [.int r359, .int (15 : Int32)]) (wc := ([] : va_W)) (w1 := ([] : va_W)) (pre := []) (post := ((WArr G a_row 38 row_c) ++ ((WLR G a ar al af ax ad aq r348.2) ++ (WArr G a_strains 6 strains_c)))) (rest := []) (st1 := [.int r361]) (ws1 := ((WArr G a_row 38 row_c) ++ ((WLR G a ar al af ax ad aq r348.2) ++ (WArr G a_strains 6 strains_c)))) dL_law_2001 (c_L_up e362) pk_L_up ml_L_15 rfl rfl rfl rfl rfl rfl rfl ?_
                                                  refine x_istore [(29, .int r361), (28, .int r318), (27, .int (r297 - r299)), (26, .int r284), (25, .int r282.1), (24, .int r280.1), (0, .ref sb), (1, .ref (a 0)), (2, .ref (a_row 0)), (3, .int x3), (4, .int x4), (5, .int x5), (6, .int x6), (7, .int x7), (9, .int x9), (10, .int x10), (13, .int x13), (22, .int x22), (23, .int x23)] dL_law_2004 (by decide) rfl ?_
                                                  refine x_bipush 16 dL_law_2006 (by decide) ?_
                                                  refine x_newa (a0 := (16, .inl (fun _ => 0))) 0 16 dL_law_2008 ac_int rfl rfl x_nm_int (fun cA => rfl) (by decide) (by decide) (by decide) (by decide) (fun q363 => ?_)
                                                  refine x_ws (ws' := ((WArr G a_row 38 row_c) ++ ((WLR G a ar al af ax ad aq r348.2) ++ ((WArr G a_strains 6 strains_c) ++ (WArr G (fun _ => q363) 16 ((fun _ => 0))))))) (by simp only [List.append_assoc]; rfl) ?_
                                                  refine x_astore [(30, .ref ((fun _ => q363) 0)), (29, .int r361), (28, .int r318), (27, .int (r297 - r299)), (26, .int r284), (25, .int r282.1), (24, .int r280.1), (0, .ref sb), (1, .ref (a 0)), (2, .ref (a_row 0)), (3, .int x3), (4, .int x4), (5, .int x5), (6, .int x6), (7, .int x7), (9, .int x9), (10, .int x10), (13, .int x13), (22, .int x22), (23, .int x23)] dL_law_2010 (by decide) rfl ?_
                                                  refine x_lv [7, 8, 9, 10, 12, 13, 14, 15, 1, 0] rfl ?_
                                                  exact w_L_law_b2012 (a_was := (fun _ => q363))  _ _ _ _ _ _ _ _ _ _ h
                                                · have h := x_neg c358 h
                                                  refine x_iconst 0 dL_law_1991 (by decide) ?_
                                                  cases h
                          · have h := x_neg c315 h
                            refine x_iconst 0 dL_law_1849 (by decide) ?_
                            cases h
                · have h := x_neg c296 h
                  refine x_iconst 0 dL_law_1779 (by decide) ?_
                  cases h
    · have h := x_neg c279 h
      refine x_aload_n dL_law_1640 0 rfl rfl ?_
      refine x_bipush 18 dL_law_1641 (by decide) ?_
      refine x_iload dL_law_1643 13 rfl ?_
      refine x_iadd dL_law_1645 ?_
      obtain ⟨r364, e365, h⟩ := x_bind h
      refine x_cSs (As := [.ref sb, .int ((18 : Int32) + x24)]) (wc := ([] : va_W)) (w1 := ([] : va_W)) (pre := []) (post := ((WArr G a_row 38 row_c) ++ ((WLR G a ar al af ax ad aq S) ++ (WArr G a_strains 6 strains_c)))) (rest := []) (st1 := [.int r364]) (ws1 := ((WArr G a_row 38 row_c) ++ ((WLR G a ar al af ax ad aq S) ++ (WArr G a_strains 6 strains_c)))) x_sc_CL dL_law_1646 (c_L_cell e365) pk_L_cell ml_L_9 rfl rfl rfl rfl rfl rfl rfl ?_
      refine x_bipush 100 dL_law_1649 (by decide) ?_
      obtain ⟨r366, e367, h⟩ := x_bind h
      refine x_cS (As := [.int r364, .int (100 : Int32)]) (wc := ([] : va_W)) (w1 := ([] : va_W)) (pre := []) (post := ((WArr G a_row 38 row_c) ++ ((WLR G a ar al af ax ad aq S) ++ (WArr G a_strains 6 strains_c)))) (rest := []) (st1 := [.int r366]) (ws1 := ((WArr G a_row 38 row_c) ++ ((WLR G a ar al af ax ad aq S) ++ (WArr G a_strains 6 strains_c)))) dL_law_1651 (c_L_up e367) pk_L_up ml_L_15 rfl rfl rfl rfl rfl rfl rfl ?_
      refine x_istore [(25, .int r366), (0, .ref sb), (1, .ref (a 0)), (2, .ref (a_row 0)), (3, .int x3), (4, .int x4), (5, .int x5), (6, .int x6), (7, .int x7), (9, .int x9), (10, .int x10), (13, .int x13), (22, .int x22), (23, .int x23), (24, .int x24)] dL_law_1654 (by decide) rfl ?_
      refine x_aload_n dL_law_1656 2 rfl rfl ?_
      refine x_iconst 3 dL_law_1657 (by decide) ?_
      refine x_iconst 2 dL_law_1658 (by decide) ?_
      refine x_iload dL_law_1659 14 rfl ?_
      refine x_imul dL_law_1661 ?_
      refine x_iload dL_law_1662 0 rfl ?_
      obtain ⟨r368, e369, h⟩ := x_bind h
      refine x_cV (As := [.int (3 : Int32), .int ((2 : Int32) * x24), .int r366]) (wc := (WLR G a ar al af ax ad aq S)) (w1 := (WLR G a ar al af ax ad aq r368.2)) (pre := (WArr G a_row 38 row_c)) (post := (WArr G a_strains 6 strains_c)) (rest := []) (st1 := [.int r368.1]) (ws1 := ((WArr G a_row 38 row_c) ++ ((WLR G a ar al af ax ad aq r368.2) ++ (WArr G a_strains 6 strains_c)))) (ci := 4) 0 dL_law_1664 (c_LR_lay (a := a) e369) pk_X6_lay ml_L_114 (by simp only [List.append_assoc, List.append_nil, List.nil_append]) rfl rfl rfl rfl rfl rfl rfl rfl (by simp only [List.append_assoc, List.append_nil, List.nil_append]) ?_
      refine x_iconst 1 dL_law_1667 (by decide) ?_
      refine x_icmp_ne 1694 dL_law_1668 (by decide) (fun c370 => ?_) (fun c370 => ?_)
      · have h := x_neg c370 h
        refine x_iconst 0 dL_law_1694 (by decide) ?_
        cases h
      · have h := x_pos c370 h
        refine x_aload_n dL_law_1671 2 rfl rfl ?_
        refine x_iconst 3 dL_law_1672 (by decide) ?_
        refine x_iconst 2 dL_law_1673 (by decide) ?_
        refine x_iload dL_law_1674 14 rfl ?_
        refine x_imul dL_law_1676 ?_
        refine x_iconst 1 dL_law_1677 (by decide) ?_
        refine x_iadd dL_law_1678 ?_
        refine x_aload_n dL_law_1679 2 rfl rfl ?_
        refine x_iload dL_law_1680 13 rfl ?_
        refine x_iload dL_law_1682 0 rfl ?_
        obtain ⟨r371, e372, h⟩ := x_bind h
        refine x_cV (As := [.int x23, .int r366]) (wc := (WLR G a ar al af ax ad aq r368.2)) (w1 := (WLR G a ar al af ax ad aq r368.2)) (pre := (WArr G a_row 38 row_c)) (post := (WArr G a_strains 6 strains_c)) (rest := [.int (((2 : Int32) * x24) + (1 : Int32)), .int (3 : Int32), .ref (a 0)]) (st1 := [.int r371, .int (((2 : Int32) * x24) + (1 : Int32)), .int (3 : Int32), .ref (a 0)]) (ws1 := ((WArr G a_row 38 row_c) ++ ((WLR G a ar al af ax ad aq r368.2) ++ (WArr G a_strains 6 strains_c)))) (ci := 4) 0 dL_law_1684 (c_LR_passes (a := a) e372) pk_X6_passes ml_L_116 (by simp only [List.append_assoc, List.append_nil, List.nil_append]) rfl rfl rfl rfl rfl rfl rfl rfl (by simp only [List.append_assoc, List.append_nil, List.nil_append]) ?_
        obtain ⟨r373, e374, h⟩ := x_bind h
        refine x_cV (As := [.int (3 : Int32), .int (((2 : Int32) * x24) + (1 : Int32)), .int r371]) (wc := (WLR G a ar al af ax ad aq r368.2)) (w1 := (WLR G a ar al af ax ad aq r373.2)) (pre := (WArr G a_row 38 row_c)) (post := (WArr G a_strains 6 strains_c)) (rest := []) (st1 := [.int r373.1]) (ws1 := ((WArr G a_row 38 row_c) ++ ((WLR G a ar al af ax ad aq r373.2) ++ (WArr G a_strains 6 strains_c)))) (ci := 4) 0 dL_law_1687 (c_LR_lay (a := a) e374) pk_X6_lay ml_L_114 (by simp only [List.append_assoc, List.append_nil, List.nil_append]) rfl rfl rfl rfl rfl rfl rfl rfl (by simp only [List.append_assoc, List.append_nil, List.nil_append]) ?_
        refine x_iconst 1 dL_law_1690 (by decide) ?_
        refine x_icmp_eq 1696 dL_law_1691 (by decide) (fun c375 => ?_) (fun c375 => ?_)
        · have h := x_pos c375 h
          refine x_iinc (j := 14) (1 : Int32) [(24, .int (x24 + (1 : Int32))), (25, .int r366), (0, .ref sb), (1, .ref (a 0)), (2, .ref (a_row 0)), (3, .int x3), (4, .int x4), (5, .int x5), (6, .int x6), (7, .int x7), (9, .int x9), (10, .int x10), (13, .int x13), (22, .int x22), (23, .int x23)] dL_law_1696 (by decide) rfl (by decide) rfl ?_
          refine x_goto 1633 dL_law_1699 (by decide) ?_
          refine x_lv [2, 3, 4, 5, 6, 7, 8, 9, 10, 11, 12, 13, 14, 0] rfl ?_
          exact ih _ _ _ _ _ _ _ _ _ _ _ _ _ _ h
        · have h := x_neg c375 h
          refine x_iconst 0 dL_law_1694 (by decide) ?_
          cases h
def M_L_law_b1587 (xs : Nat → Int32) (L : Nat) (row_c : (Nat → Int32)) (S : x_S) (strains_c : (Nat → Int32)) (x3 : Int32) (x4 : Int32) (x5 : Int32) (x6 : Int32) (x7 : Int32) (x9 : Int32) (x10 : Int32) (x13 : Int32) : Option (Unit) :=
  (M_L_cell xs L (16 : Int32)).bind fun r268 =>
  (M_L_up r268 (9 : Int32)).bind fun r270 =>
  (M_L_cell xs L (17 : Int32)).bind fun r272 =>
  (M_L_up r272 x3).bind fun r274 =>
  (M_LR_row S (3 : Int32) ((2 : Int32) * r270)).bind fun r276 =>
  if r276.1 = ((2 : Int32) * r270) then
  (M_L_law_b1633 xs L x_fuel row_c r276.2 strains_c x3 x4 x5 x6 x7 x9 x10 x13 r270 r274 (0 : Int32))
  else
  (none)
set_option maxHeartbeats 4000000 in
set_option maxRecDepth 100000 in
theorem w_L_law_b1587 {sb : Nat} {xs : Nat → Int32} {G : x_G} {l : Launch} {a : Nat → Nat} {ar : Nat → Nat} {al : Nat → Nat} {af : Nat → Nat} {ax : Nat → Nat} {ad : Nat → Nat} {aq : Nat → Nat} {a_row : Nat → Nat} {a_strains : Nat → Nat} {L : Nat} {res : Unit} (row_c : (Nat → Int32)) (S : x_S) (strains_c : (Nat → Int32)) (x3 : Int32) (x4 : Int32) (x5 : Int32) (x6 : Int32) (x7 : Int32) (x9 : Int32) (x10 : Int32) (x13 : Int32) (h : M_L_law_b1587 xs L row_c S strains_c x3 x4 x5 x6 x7 x9 x10 x13 = some res) : X G l RL cL_law 38 room_1 (x_CL sb L xs) 42 883 1587 [(0, .ref sb), (1, .ref (a 0)), (2, .ref (a_row 0)), (3, .int x3), (4, .int x4), (5, .int x5), (6, .int x6), (7, .int x7), (9, .int x9), (10, .int x10), (13, .int x13)] [] ((WArr G a_row 38 row_c) ++ ((WLR G a ar al af ax ad aq S) ++ (WArr G a_strains 6 strains_c))) := by
  unfold M_L_law_b1587 at h
  refine x_aload_n dL_law_1587 0 rfl rfl ?_
  refine x_bipush 16 dL_law_1588 (by decide) ?_
  obtain ⟨r268, e269, h⟩ := x_bind h
  refine x_cSs (As := [.ref sb, .int (16 : Int32)]) (wc := ([] : va_W)) (w1 := ([] : va_W)) (pre := []) (post := ((WArr G a_row 38 row_c) ++ ((WLR G a ar al af ax ad aq S) ++ (WArr G a_strains 6 strains_c)))) (rest := []) (st1 := [.int r268]) (ws1 := ((WArr G a_row 38 row_c) ++ ((WLR G a ar al af ax ad aq S) ++ (WArr G a_strains 6 strains_c)))) x_sc_CL dL_law_1590 (c_L_cell e269) pk_L_cell ml_L_9 rfl rfl rfl rfl rfl rfl rfl ?_
  refine x_bipush 9 dL_law_1593 (by decide) ?_
  obtain ⟨r270, e271, h⟩ := x_bind h
  refine x_cS (As := [.int r268, .int (9 : Int32)]) (wc := ([] : va_W)) (w1 := ([] : va_W)) (pre := []) (post := ((WArr G a_row 38 row_c) ++ ((WLR G a ar al af ax ad aq S) ++ (WArr G a_strains 6 strains_c)))) (rest := []) (st1 := [.int r270]) (ws1 := ((WArr G a_row 38 row_c) ++ ((WLR G a ar al af ax ad aq S) ++ (WArr G a_strains 6 strains_c)))) dL_law_1595 (c_L_up e271) pk_L_up ml_L_15 rfl rfl rfl rfl rfl rfl rfl ?_
  refine x_istore [(22, .int r270), (0, .ref sb), (1, .ref (a 0)), (2, .ref (a_row 0)), (3, .int x3), (4, .int x4), (5, .int x5), (6, .int x6), (7, .int x7), (9, .int x9), (10, .int x10), (13, .int x13)] dL_law_1598 (by decide) rfl ?_
  refine x_aload_n dL_law_1600 1 rfl rfl ?_
  refine x_bipush 17 dL_law_1601 (by decide) ?_
  obtain ⟨r272, e273, h⟩ := x_bind h
  refine x_cSs (As := [.ref sb, .int (17 : Int32)]) (wc := ([] : va_W)) (w1 := ([] : va_W)) (pre := []) (post := ((WArr G a_row 38 row_c) ++ ((WLR G a ar al af ax ad aq S) ++ (WArr G a_strains 6 strains_c)))) (rest := []) (st1 := [.int r272]) (ws1 := ((WArr G a_row 38 row_c) ++ ((WLR G a ar al af ax ad aq S) ++ (WArr G a_strains 6 strains_c)))) x_sc_CL dL_law_1603 (c_L_cell e273) pk_L_cell ml_L_9 rfl rfl rfl rfl rfl rfl rfl ?_
  refine x_iload_n dL_law_1606 4 rfl rfl ?_
  obtain ⟨r274, e275, h⟩ := x_bind h
  refine x_cS (As := [.int r272, .int x3]) (wc := ([] : va_W)) (w1 := ([] : va_W)) (pre := []) (post := ((WArr G a_row 38 row_c) ++ ((WLR G a ar al af ax ad aq S) ++ (WArr G a_strains 6 strains_c)))) (rest := []) (st1 := [.int r274]) (ws1 := ((WArr G a_row 38 row_c) ++ ((WLR G a ar al af ax ad aq S) ++ (WArr G a_strains 6 strains_c)))) dL_law_1607 (c_L_up e275) pk_L_up ml_L_15 rfl rfl rfl rfl rfl rfl rfl ?_
  refine x_istore [(23, .int r274), (22, .int r270), (0, .ref sb), (1, .ref (a 0)), (2, .ref (a_row 0)), (3, .int x3), (4, .int x4), (5, .int x5), (6, .int x6), (7, .int x7), (9, .int x9), (10, .int x10), (13, .int x13)] dL_law_1610 (by decide) rfl ?_
  refine x_aload_n dL_law_1612 3 rfl rfl ?_
  refine x_iconst 3 dL_law_1613 (by decide) ?_
  refine x_iconst 2 dL_law_1614 (by decide) ?_
  refine x_iload dL_law_1615 1 rfl ?_
  refine x_imul dL_law_1617 ?_
  obtain ⟨r276, e277, h⟩ := x_bind h
  refine x_cV (As := [.int (3 : Int32), .int ((2 : Int32) * r270)]) (wc := (WLR G a ar al af ax ad aq S)) (w1 := (WLR G a ar al af ax ad aq r276.2)) (pre := (WArr G a_row 38 row_c)) (post := (WArr G a_strains 6 strains_c)) (rest := []) (st1 := [.int r276.1]) (ws1 := ((WArr G a_row 38 row_c) ++ ((WLR G a ar al af ax ad aq r276.2) ++ (WArr G a_strains 6 strains_c)))) (ci := 4) 0 dL_law_1618 (c_LR_row (a := a) e277) pk_X6_row ml_L_111 (by simp only [List.append_assoc, List.append_nil, List.nil_append]) rfl rfl rfl rfl rfl rfl rfl rfl (by simp only [List.append_assoc, List.append_nil, List.nil_append]) ?_
  refine x_iconst 2 dL_law_1621 (by decide) ?_
  refine x_iload dL_law_1622 1 rfl ?_
  refine x_imul dL_law_1624 ?_
  refine x_icmp_eq 1630 dL_law_1625 (by decide) (fun c278 => ?_) (fun c278 => ?_)
  · have h := x_pos c278 h
    refine x_iconst 0 dL_law_1630 (by decide) ?_
    refine x_istore [(24, .int (0 : Int32)), (23, .int r274), (22, .int r270), (0, .ref sb), (1, .ref (a 0)), (2, .ref (a_row 0)), (3, .int x3), (4, .int x4), (5, .int x5), (6, .int x6), (7, .int x7), (9, .int x9), (10, .int x10), (13, .int x13)] dL_law_1631 (by decide) rfl ?_
    refine x_lv [3, 4, 5, 6, 7, 8, 9, 10, 11, 12, 13, 2, 1, 0] rfl ?_
    exact w_L_law_b1633  _ _ _ _ _ _ _ _ _ _ _ _ _ _ _ h
  · have h := x_neg c278 h
    refine x_iconst 0 dL_law_1628 (by decide) ?_
    cases h
def M_L_law_b1451 (xs : Nat → Int32) (L : Nat) : Nat → (Nat → Int32) → x_S → (Nat → Int32) → Int32 → Int32 → Int32 → Int32 → Int32 → Int32 → Int32 → Int32 → Int32 → Int32 → Int32 → Int32 → Int32 → Int32 → Option (Unit)
  | 0, _, _, _, _, _, _, _, _, _, _, _, _, _, _, _, _, _ => none
  | n + 1, row_c, S, strains_c, x3, x4, x5, x6, x7, x8, x9, x10, x13, x18, x19, x20, x21, x22 =>
    if x3 ≤ x22 then
    (if x19 < 0 then
    (none)
    else
    (if (x21 + x19) = x18 then
    (if x19 ≤ 0 then
    (M_L_law_b1587 xs L row_c S strains_c x3 x4 x5 x6 x7 x9 x10 x13)
    else
    (if x21 = x20 then
    (M_L_law_b1587 xs L row_c S strains_c x3 x4 x5 x6 x7 x9 x10 x13)
    else
    (none)))
    else
    (none)))
    else
    ((M_LR_at S (4 : Int32) x22).bind fun r256 =>
    if r256.1 = (1 : Int32) then
    ((M_LR_asked r256.2).bind fun r259 =>
    M_L_law_b1476 xs L (fun (row_c' : (Nat → Int32)) (S' : x_S) (strains_c' : (Nat → Int32)) (x3' : Int32) (x4' : Int32) (x5' : Int32) (x6' : Int32) (x7' : Int32) (x8' : Int32) (x9' : Int32) (x10' : Int32) (x13' : Int32) (x18' : Int32) (x19' : Int32) (x20' : Int32) (x21' : Int32) (x22' : Int32) => M_L_law_b1451 xs L n row_c' S' strains_c' x3' x4' x5' x6' x7' x8' x9' x10' x13' x18' x19' x20' x21' x22') row_c r256.2 strains_c x3 x4 x5 x6 x7 x8 x9 x10 x13 x18 x19 x20 x21 x22 r259)
    else
    (M_L_law_b1476 xs L (fun (row_c' : (Nat → Int32)) (S' : x_S) (strains_c' : (Nat → Int32)) (x3' : Int32) (x4' : Int32) (x5' : Int32) (x6' : Int32) (x7' : Int32) (x8' : Int32) (x9' : Int32) (x10' : Int32) (x13' : Int32) (x18' : Int32) (x19' : Int32) (x20' : Int32) (x21' : Int32) (x22' : Int32) => M_L_law_b1451 xs L n row_c' S' strains_c' x3' x4' x5' x6' x7' x8' x9' x10' x13' x18' x19' x20' x21' x22') row_c r256.2 strains_c x3 x4 x5 x6 x7 x8 x9 x10 x13 x18 x19 x20 x21 x22 (-1 : Int32)))
set_option maxHeartbeats 4000000 in
set_option maxRecDepth 100000 in
theorem w_L_law_b1451 {sb : Nat} {xs : Nat → Int32} {G : x_G} {l : Launch} {a : Nat → Nat} {ar : Nat → Nat} {al : Nat → Nat} {af : Nat → Nat} {ax : Nat → Nat} {ad : Nat → Nat} {aq : Nat → Nat} {a_row : Nat → Nat} {a_strains : Nat → Nat} {L : Nat} {res : Unit} : ∀ (n : Nat) (row_c : (Nat → Int32)) (S : x_S) (strains_c : (Nat → Int32)) (x3 : Int32) (x4 : Int32) (x5 : Int32) (x6 : Int32) (x7 : Int32) (x8 : Int32) (x9 : Int32) (x10 : Int32) (x13 : Int32) (x18 : Int32) (x19 : Int32) (x20 : Int32) (x21 : Int32) (x22 : Int32), M_L_law_b1451 xs L n row_c S strains_c x3 x4 x5 x6 x7 x8 x9 x10 x13 x18 x19 x20 x21 x22 = some res → X G l RL cL_law 38 room_1 (x_CL sb L xs) 42 883 1451 [(0, .ref sb), (1, .ref (a 0)), (2, .ref (a_row 0)), (3, .int x3), (4, .int x4), (5, .int x5), (6, .int x6), (7, .int x7), (8, .int x8), (9, .int x9), (10, .int x10), (11, .ref (a_strains 0)), (13, .int x13), (18, .int x18), (19, .int x19), (20, .int x20), (21, .int x21), (22, .int x22)] [] ((WArr G a_row 38 row_c) ++ ((WLR G a ar al af ax ad aq S) ++ (WArr G a_strains 6 strains_c))) := by
  intro n
  induction n with
  | zero =>
    intro _ _ _ _ _ _ _ _ _ _ _ _ _ _ _ _ _ h
    cases h
  | succ n ih =>
    intro row_c S strains_c x3 x4 x5 x6 x7 x8 x9 x10 x13 x18 x19 x20 x21 x22 h
    rw [M_L_law_b1451] at h
    refine x_iload dL_law_1451 17 rfl ?_
    refine x_iload_n dL_law_1453 3 rfl rfl ?_
    refine x_icmp_ge 1558 dL_law_1454 (by decide) (fun c251 => ?_) (fun c251 => ?_)
    · have h := x_pos c251 h
      refine x_iload dL_law_1558 14 rfl ?_
      refine x_if_lt 1585 dL_law_1560 (by decide) (fun c252 => ?_) (fun c252 => ?_)
      · have h := x_pos c252 h
        refine x_iconst 0 dL_law_1585 (by decide) ?_
        cases h
      · have h := x_neg c252 h
        refine x_iload dL_law_1563 16 rfl ?_
        refine x_iload dL_law_1565 14 rfl ?_
        refine x_iadd dL_law_1567 ?_
        refine x_iload dL_law_1568 13 rfl ?_
        refine x_icmp_ne 1585 dL_law_1570 (by decide) (fun c253 => ?_) (fun c253 => ?_)
        · have h := x_neg c253 h
          refine x_iconst 0 dL_law_1585 (by decide) ?_
          cases h
        · have h := x_pos c253 h
          refine x_iload dL_law_1573 14 rfl ?_
          refine x_if_le 1587 dL_law_1575 (by decide) (fun c254 => ?_) (fun c254 => ?_)
          · have h := x_pos c254 h
            refine x_lv [0, 1, 2, 3, 4, 5, 6, 7, 9, 10, 12] rfl ?_
            exact w_L_law_b1587  _ _ _ _ _ _ _ _ _ _ _ h
          · have h := x_neg c254 h
            refine x_iload dL_law_1578 16 rfl ?_
            refine x_iload dL_law_1580 15 rfl ?_
            refine x_icmp_eq 1587 dL_law_1582 (by decide) (fun c255 => ?_) (fun c255 => ?_)
            · have h := x_pos c255 h
              refine x_lv [0, 1, 2, 3, 4, 5, 6, 7, 9, 10, 12] rfl ?_
              exact w_L_law_b1587  _ _ _ _ _ _ _ _ _ _ _ h
            · have h := x_neg c255 h
              refine x_iconst 0 dL_law_1585 (by decide) ?_
              cases h
    · have h := x_neg c251 h
      refine x_aload_n dL_law_1457 1 rfl rfl ?_
      refine x_iconst 4 dL_law_1458 (by decide) ?_
      refine x_iload dL_law_1459 17 rfl ?_
      obtain ⟨r256, e257, h⟩ := x_bind h
      refine x_cV (As := [.int (4 : Int32), .int x22]) (wc := (WLR G a ar al af ax ad aq S)) (w1 := (WLR G a ar al af ax ad aq r256.2)) (pre := (WArr G a_row 38 row_c)) (post := (WArr G a_strains 6 strains_c)) (rest := []) (st1 := [.int r256.1]) (ws1 := ((WArr G a_row 38 row_c) ++ ((WLR G a ar al af ax ad aq r256.2) ++ (WArr G a_strains 6 strains_c)))) (ci := 4) 0 dL_law_1461 (c_LR_at (a := a) e257) pk_X6_at ml_L_87 (by simp only [List.append_assoc, List.append_nil, List.nil_append]) rfl rfl rfl rfl rfl rfl rfl rfl (by simp only [List.append_assoc, List.append_nil, List.nil_append]) ?_
      refine x_iconst 1 dL_law_1464 (by decide) ?_
      refine x_icmp_ne 1475 dL_law_1465 (by decide) (fun c258 => ?_) (fun c258 => ?_)
      · have h := x_neg c258 h
        refine x_iconst (-1 : Int32) dL_law_1475 (by decide) ?_
        exact w_L_law_b1476 (fun row_c' S' strains_c' x3' x4' x5' x6' x7' x8' x9' x10' x13' x18' x19' x20' x21' x22' h => ih row_c' S' strains_c' x3' x4' x5' x6' x7' x8' x9' x10' x13' x18' x19' x20' x21' x22' h) _ _ _ _ _ _ _ _ _ _ _ _ _ _ _ _ _ _ h
      · have h := x_pos c258 h
        refine x_aload_n dL_law_1468 1 rfl rfl ?_
        obtain ⟨r259, e260, h⟩ := x_bind h
        refine x_cV (As := []) (wc := (WLR G a ar al af ax ad aq r256.2)) (w1 := (WLR G a ar al af ax ad aq r256.2)) (pre := (WArr G a_row 38 row_c)) (post := (WArr G a_strains 6 strains_c)) (rest := []) (st1 := [.int r259]) (ws1 := ((WArr G a_row 38 row_c) ++ ((WLR G a ar al af ax ad aq r256.2) ++ (WArr G a_strains 6 strains_c)))) (ci := 4) 0 dL_law_1469 (c_LR_asked (a := a) e260) pk_X6_asked ml_L_42 (by simp only [List.append_assoc, List.append_nil, List.nil_append]) rfl rfl rfl rfl rfl rfl rfl rfl (by simp only [List.append_assoc, List.append_nil, List.nil_append]) ?_
        refine x_goto 1476 dL_law_1472 (by decide) ?_
        exact w_L_law_b1476 (fun row_c' S' strains_c' x3' x4' x5' x6' x7' x8' x9' x10' x13' x18' x19' x20' x21' x22' h => ih row_c' S' strains_c' x3' x4' x5' x6' x7' x8' x9' x10' x13' x18' x19' x20' x21' x22' h) _ _ _ _ _ _ _ _ _ _ _ _ _ _ _ _ _ _ h
def M_L_law_b1337 (xs : Nat → Int32) (L : Nat) : Nat → (Nat → Int32) → x_S → (Nat → Int32) → Int32 → Int32 → Int32 → Int32 → Int32 → Int32 → Int32 → Int32 → Int32 → Int32 → Int32 → Option (Unit)
  | 0, _, _, _, _, _, _, _, _, _, _, _, _, _, _ => none
  | n + 1, row_c, S, strains_c, x3, x4, x5, x6, x7, x8, x9, x10, x13, x17, x18 =>
    if x3 ≤ x18 then
    ((M_L_cell xs L (15 : Int32)).bind fun r231 =>
    (M_L_up r231 (61 : Int32)).bind fun r233 =>
    (M_LR_share S r233 (4 : Int32)).bind fun r235 =>
    M_L_law_b1451 xs L x_fuel row_c r235.2 strains_c x3 x4 x5 x6 x7 x8 x9 x10 x13 r233 r235.1 (0 : Int32) (0 : Int32) (0 : Int32))
    else
    (if ((x9 >>> (x18 &&& (31 : Int32))) &&& (1 : Int32)) = 0 then
    ((M_LR_cut S x18).bind fun r238 =>
    (M_L_bits x9).bind fun r240 =>
    if r238.1 = (r240 + (1 : Int32)) then
    ((M_LR_lawful r238.2).bind fun r243 =>
    if r243 = x10 then
    (M_L_law_b1383 xs L (fun (row_c' : (Nat → Int32)) (S' : x_S) (strains_c' : (Nat → Int32)) (x3' : Int32) (x4' : Int32) (x5' : Int32) (x6' : Int32) (x7' : Int32) (x8' : Int32) (x9' : Int32) (x10' : Int32) (x13' : Int32) (x17' : Int32) (x18' : Int32) => M_L_law_b1337 xs L n row_c' S' strains_c' x3' x4' x5' x6' x7' x8' x9' x10' x13' x17' x18') row_c r238.2 strains_c x3 x4 x5 x6 x7 x8 x9 x10 x13 x17 x18 (1 : Int32))
    else
    (M_L_law_b1383 xs L (fun (row_c' : (Nat → Int32)) (S' : x_S) (strains_c' : (Nat → Int32)) (x3' : Int32) (x4' : Int32) (x5' : Int32) (x6' : Int32) (x7' : Int32) (x8' : Int32) (x9' : Int32) (x10' : Int32) (x13' : Int32) (x17' : Int32) (x18' : Int32) => M_L_law_b1337 xs L n row_c' S' strains_c' x3' x4' x5' x6' x7' x8' x9' x10' x13' x17' x18') row_c r238.2 strains_c x3 x4 x5 x6 x7 x8 x9 x10 x13 x17 x18 (0 : Int32)))
    else
    (none))
    else
    (M_L_law_b1414 xs L (fun (row_c' : (Nat → Int32)) (S' : x_S) (strains_c' : (Nat → Int32)) (x3' : Int32) (x4' : Int32) (x5' : Int32) (x6' : Int32) (x7' : Int32) (x8' : Int32) (x9' : Int32) (x10' : Int32) (x13' : Int32) (x17' : Int32) (x18' : Int32) => M_L_law_b1337 xs L n row_c' S' strains_c' x3' x4' x5' x6' x7' x8' x9' x10' x13' x17' x18') row_c S strains_c x3 x4 x5 x6 x7 x8 x9 x10 x13 x17 x18))
set_option maxHeartbeats 4000000 in
set_option maxRecDepth 100000 in
theorem w_L_law_b1337 {sb : Nat} {xs : Nat → Int32} {G : x_G} {l : Launch} {a : Nat → Nat} {ar : Nat → Nat} {al : Nat → Nat} {af : Nat → Nat} {ax : Nat → Nat} {ad : Nat → Nat} {aq : Nat → Nat} {a_row : Nat → Nat} {a_strains : Nat → Nat} {L : Nat} {res : Unit} : ∀ (n : Nat) (row_c : (Nat → Int32)) (S : x_S) (strains_c : (Nat → Int32)) (x3 : Int32) (x4 : Int32) (x5 : Int32) (x6 : Int32) (x7 : Int32) (x8 : Int32) (x9 : Int32) (x10 : Int32) (x13 : Int32) (x17 : Int32) (x18 : Int32), M_L_law_b1337 xs L n row_c S strains_c x3 x4 x5 x6 x7 x8 x9 x10 x13 x17 x18 = some res → X G l RL cL_law 38 room_1 (x_CL sb L xs) 42 883 1337 [(0, .ref sb), (1, .ref (a 0)), (2, .ref (a_row 0)), (3, .int x3), (4, .int x4), (5, .int x5), (6, .int x6), (7, .int x7), (8, .int x8), (9, .int x9), (10, .int x10), (11, .ref (a_strains 0)), (13, .int x13), (17, .int x17), (18, .int x18)] [] ((WArr G a_row 38 row_c) ++ ((WLR G a ar al af ax ad aq S) ++ (WArr G a_strains 6 strains_c))) := by
  intro n
  induction n with
  | zero =>
    intro _ _ _ _ _ _ _ _ _ _ _ _ _ _ h
    cases h
  | succ n ih =>
    intro row_c S strains_c x3 x4 x5 x6 x7 x8 x9 x10 x13 x17 x18 h
    rw [M_L_law_b1337] at h
    refine x_iload dL_law_1337 14 rfl ?_
    refine x_iload_n dL_law_1339 3 rfl rfl ?_
    refine x_icmp_ge 1420 dL_law_1340 (by decide) (fun c230 => ?_) (fun c230 => ?_)
    · have h := x_pos c230 h
      refine x_aload_n dL_law_1420 0 rfl rfl ?_
      refine x_bipush 15 dL_law_1421 (by decide) ?_
      obtain ⟨r231, e232, h⟩ := x_bind h
      refine x_cSs (As := [.ref sb, .int (15 : Int32)]) (wc := ([] : va_W)) (w1 := ([] : va_W)) (pre := []) (post := ((WArr G a_row 38 row_c) ++ ((WLR G a ar al af ax ad aq S) ++ (WArr G a_strains 6 strains_c)))) (rest := []) (st1 := [.int r231]) (ws1 := ((WArr G a_row 38 row_c) ++ ((WLR G a ar al af ax ad aq S) ++ (WArr G a_strains 6 strains_c)))) x_sc_CL dL_law_1423 (c_L_cell e232) pk_L_cell ml_L_9 rfl rfl rfl rfl rfl rfl rfl ?_
      refine x_bipush 61 dL_law_1426 (by decide) ?_
      obtain ⟨r233, e234, h⟩ := x_bind h
      refine x_cS (As := [.int r231, .int (61 : Int32)]) (wc := ([] : va_W)) (w1 := ([] : va_W)) (pre := []) (post := ((WArr G a_row 38 row_c) ++ ((WLR G a ar al af ax ad aq S) ++ (WArr G a_strains 6 strains_c)))) (rest := []) (st1 := [.int r233]) (ws1 := ((WArr G a_row 38 row_c) ++ ((WLR G a ar al af ax ad aq S) ++ (WArr G a_strains 6 strains_c)))) dL_law_1428 (c_L_up e234) pk_L_up ml_L_15 rfl rfl rfl rfl rfl rfl rfl ?_
      refine x_istore [(18, .int r233), (0, .ref sb), (1, .ref (a 0)), (2, .ref (a_row 0)), (3, .int x3), (4, .int x4), (5, .int x5), (6, .int x6), (7, .int x7), (8, .int x8), (9, .int x9), (10, .int x10), (11, .ref (a_strains 0)), (13, .int x13), (17, .int x17)] dL_law_1431 (by decide) rfl ?_
      refine x_aload_n dL_law_1433 2 rfl rfl ?_
      refine x_iload dL_law_1434 0 rfl ?_
      refine x_iconst 4 dL_law_1436 (by decide) ?_
      obtain ⟨r235, e236, h⟩ := x_bind h
      refine x_cV (As := [.int r233, .int (4 : Int32)]) (wc := (WLR G a ar al af ax ad aq S)) (w1 := (WLR G a ar al af ax ad aq r235.2)) (pre := (WArr G a_row 38 row_c)) (post := (WArr G a_strains 6 strains_c)) (rest := []) (st1 := [.int r235.1]) (ws1 := ((WArr G a_row 38 row_c) ++ ((WLR G a ar al af ax ad aq r235.2) ++ (WArr G a_strains 6 strains_c)))) (ci := 4) 0 dL_law_1437 (c_LR_share (a := a) e236) pk_X6_share ml_L_108 (by simp only [List.append_assoc, List.append_nil, List.nil_append]) rfl rfl rfl rfl rfl rfl rfl rfl (by simp only [List.append_assoc, List.append_nil, List.nil_append]) ?_
      refine x_istore [(19, .int r235.1), (18, .int r233), (0, .ref sb), (1, .ref (a 0)), (2, .ref (a_row 0)), (3, .int x3), (4, .int x4), (5, .int x5), (6, .int x6), (7, .int x7), (8, .int x8), (9, .int x9), (10, .int x10), (11, .ref (a_strains 0)), (13, .int x13), (17, .int x17)] dL_law_1440 (by decide) rfl ?_
      refine x_iconst 0 dL_law_1442 (by decide) ?_
      refine x_istore [(20, .int (0 : Int32)), (19, .int r235.1), (18, .int r233), (0, .ref sb), (1, .ref (a 0)), (2, .ref (a_row 0)), (3, .int x3), (4, .int x4), (5, .int x5), (6, .int x6), (7, .int x7), (8, .int x8), (9, .int x9), (10, .int x10), (11, .ref (a_strains 0)), (13, .int x13), (17, .int x17)] dL_law_1443 (by decide) rfl ?_
      refine x_iconst 0 dL_law_1445 (by decide) ?_
      refine x_istore [(21, .int (0 : Int32)), (20, .int (0 : Int32)), (19, .int r235.1), (18, .int r233), (0, .ref sb), (1, .ref (a 0)), (2, .ref (a_row 0)), (3, .int x3), (4, .int x4), (5, .int x5), (6, .int x6), (7, .int x7), (8, .int x8), (9, .int x9), (10, .int x10), (11, .ref (a_strains 0)), (13, .int x13), (17, .int x17)] dL_law_1446 (by decide) rfl ?_
      refine x_iconst 0 dL_law_1448 (by decide) ?_
      refine x_istore [(22, .int (0 : Int32)), (21, .int (0 : Int32)), (20, .int (0 : Int32)), (19, .int r235.1), (18, .int r233), (0, .ref sb), (1, .ref (a 0)), (2, .ref (a_row 0)), (3, .int x3), (4, .int x4), (5, .int x5), (6, .int x6), (7, .int x7), (8, .int x8), (9, .int x9), (10, .int x10), (11, .ref (a_strains 0)), (13, .int x13), (17, .int x17)] dL_law_1449 (by decide) rfl ?_
      refine x_lv [5, 6, 7, 8, 9, 10, 11, 12, 13, 14, 15, 16, 17, 4, 3, 2, 1, 0] rfl ?_
      exact w_L_law_b1451  _ _ _ _ _ _ _ _ _ _ _ _ _ _ _ _ _ _ h
    · have h := x_neg c230 h
      refine x_iload dL_law_1343 9 rfl ?_
      refine x_iload dL_law_1345 14 rfl ?_
      refine x_ishr dL_law_1347 ?_
      refine x_iconst 1 dL_law_1348 (by decide) ?_
      refine x_iand dL_law_1349 ?_
      refine x_if_ne 1414 dL_law_1350 (by decide) (fun c237 => ?_) (fun c237 => ?_)
      · have h := x_neg c237 h
        exact w_L_law_b1414 (fun row_c' S' strains_c' x3' x4' x5' x6' x7' x8' x9' x10' x13' x17' x18' h => ih row_c' S' strains_c' x3' x4' x5' x6' x7' x8' x9' x10' x13' x17' x18' h) _ _ _ _ _ _ _ _ _ _ _ _ _ _ h
      · have h := x_pos c237 h
        refine x_aload_n dL_law_1353 1 rfl rfl ?_
        refine x_iload dL_law_1354 14 rfl ?_
        obtain ⟨r238, e239, h⟩ := x_bind h
        refine x_cV (As := [.int x18]) (wc := (WLR G a ar al af ax ad aq S)) (w1 := (WLR G a ar al af ax ad aq r238.2)) (pre := (WArr G a_row 38 row_c)) (post := (WArr G a_strains 6 strains_c)) (rest := []) (st1 := [.int r238.1]) (ws1 := ((WArr G a_row 38 row_c) ++ ((WLR G a ar al af ax ad aq r238.2) ++ (WArr G a_strains 6 strains_c)))) (ci := 4) 0 dL_law_1356 (c_LR_cut (a := a) e239) pk_X6_cut ml_L_105 (by simp only [List.append_assoc, List.append_nil, List.nil_append]) rfl rfl rfl rfl rfl rfl rfl rfl (by simp only [List.append_assoc, List.append_nil, List.nil_append]) ?_
        refine x_iload dL_law_1359 9 rfl ?_
        obtain ⟨r240, e241, h⟩ := x_bind h
        refine x_cS (As := [.int x9]) (wc := ([] : va_W)) (w1 := ([] : va_W)) (pre := []) (post := ((WArr G a_row 38 row_c) ++ ((WLR G a ar al af ax ad aq r238.2) ++ (WArr G a_strains 6 strains_c)))) (rest := [.int r238.1]) (st1 := [.int r240, .int r238.1]) (ws1 := ((WArr G a_row 38 row_c) ++ ((WLR G a ar al af ax ad aq r238.2) ++ (WArr G a_strains 6 strains_c)))) dL_law_1361 (c_L_bits e241) pk_L_bits ml_L_102 rfl rfl rfl rfl rfl rfl rfl ?_
        refine x_iconst 1 dL_law_1364 (by decide) ?_
        refine x_iadd dL_law_1365 ?_
        refine x_icmp_ne 1412 dL_law_1366 (by decide) (fun c242 => ?_) (fun c242 => ?_)
        · have h := x_neg c242 h
          refine x_iconst 0 dL_law_1412 (by decide) ?_
          cases h
        · have h := x_pos c242 h
          refine x_aload_n dL_law_1369 1 rfl rfl ?_
          obtain ⟨r243, e244, h⟩ := x_bind h
          refine x_cV (As := []) (wc := (WLR G a ar al af ax ad aq r238.2)) (w1 := (WLR G a ar al af ax ad aq r238.2)) (pre := (WArr G a_row 38 row_c)) (post := (WArr G a_strains 6 strains_c)) (rest := []) (st1 := [.int r243]) (ws1 := ((WArr G a_row 38 row_c) ++ ((WLR G a ar al af ax ad aq r238.2) ++ (WArr G a_strains 6 strains_c)))) (ci := 4) 0 dL_law_1370 (c_LR_lawful (a := a) e244) pk_X6_lawful ml_L_65 (by simp only [List.append_assoc, List.append_nil, List.nil_append]) rfl rfl rfl rfl rfl rfl rfl rfl (by simp only [List.append_assoc, List.append_nil, List.nil_append]) ?_
          refine x_iload dL_law_1373 10 rfl ?_
          refine x_icmp_ne 1382 dL_law_1375 (by decide) (fun c245 => ?_) (fun c245 => ?_)
          · have h := x_neg c245 h
            refine x_iconst 0 dL_law_1382 (by decide) ?_
            exact w_L_law_b1383 (fun row_c' S' strains_c' x3' x4' x5' x6' x7' x8' x9' x10' x13' x17' x18' h => ih row_c' S' strains_c' x3' x4' x5' x6' x7' x8' x9' x10' x13' x17' x18' h) _ _ _ _ _ _ _ _ _ _ _ _ _ _ _ h
          · have h := x_pos c245 h
            refine x_iconst 1 dL_law_1378 (by decide) ?_
            refine x_goto 1383 dL_law_1379 (by decide) ?_
            exact w_L_law_b1383 (fun row_c' S' strains_c' x3' x4' x5' x6' x7' x8' x9' x10' x13' x17' x18' h => ih row_c' S' strains_c' x3' x4' x5' x6' x7' x8' x9' x10' x13' x17' x18' h) _ _ _ _ _ _ _ _ _ _ _ _ _ _ _ h
def M_L_law_b1309 (xs : Nat → Int32) (L : Nat) (row_c : (Nat → Int32)) (S : x_S) (strains_c : (Nat → Int32)) (x3 : Int32) (x4 : Int32) (x5 : Int32) (x6 : Int32) (x7 : Int32) (x8 : Int32) (x9 : Int32) (x10 : Int32) (x13 : Int32) (x17 : Int32) : Option (Unit) :=
  (M_LR_on S (0 : Int32)).bind fun r225 =>
  if r225.1 = x5 then
  (if x17 < 0 then
  (none)
  else
  (if (x17 &&& x9) = 0 then
  (M_L_law_b1337 xs L x_fuel row_c r225.2 strains_c x3 x4 x5 x6 x7 x8 x9 x10 x13 x17 (0 : Int32))
  else
  (none)))
  else
  (none)
set_option maxHeartbeats 4000000 in
set_option maxRecDepth 100000 in
theorem w_L_law_b1309 {sb : Nat} {xs : Nat → Int32} {G : x_G} {l : Launch} {a : Nat → Nat} {ar : Nat → Nat} {al : Nat → Nat} {af : Nat → Nat} {ax : Nat → Nat} {ad : Nat → Nat} {aq : Nat → Nat} {a_row : Nat → Nat} {a_strains : Nat → Nat} {L : Nat} {res : Unit} (row_c : (Nat → Int32)) (S : x_S) (strains_c : (Nat → Int32)) (x3 : Int32) (x4 : Int32) (x5 : Int32) (x6 : Int32) (x7 : Int32) (x8 : Int32) (x9 : Int32) (x10 : Int32) (x13 : Int32) (x17 : Int32) (h : M_L_law_b1309 xs L row_c S strains_c x3 x4 x5 x6 x7 x8 x9 x10 x13 x17 = some res) : X G l RL cL_law 38 room_1 (x_CL sb L xs) 42 883 1309 [(0, .ref sb), (1, .ref (a 0)), (2, .ref (a_row 0)), (3, .int x3), (4, .int x4), (5, .int x5), (6, .int x6), (7, .int x7), (8, .int x8), (9, .int x9), (10, .int x10), (11, .ref (a_strains 0)), (13, .int x13), (17, .int x17)] [] ((WArr G a_row 38 row_c) ++ ((WLR G a ar al af ax ad aq S) ++ (WArr G a_strains 6 strains_c))) := by
  unfold M_L_law_b1309 at h
  refine x_aload_n dL_law_1309 1 rfl rfl ?_
  refine x_iconst 0 dL_law_1310 (by decide) ?_
  obtain ⟨r225, e226, h⟩ := x_bind h
  refine x_cV (As := [.int (0 : Int32)]) (wc := (WLR G a ar al af ax ad aq S)) (w1 := (WLR G a ar al af ax ad aq r225.2)) (pre := (WArr G a_row 38 row_c)) (post := (WArr G a_strains 6 strains_c)) (rest := []) (st1 := [.int r225.1]) (ws1 := ((WArr G a_row 38 row_c) ++ ((WLR G a ar al af ax ad aq r225.2) ++ (WArr G a_strains 6 strains_c)))) (ci := 4) 0 dL_law_1311 (c_LR_on (a := a) e226) pk_X6_on ml_L_93 (by simp only [List.append_assoc, List.append_nil, List.nil_append]) rfl rfl rfl rfl rfl rfl rfl rfl (by simp only [List.append_assoc, List.append_nil, List.nil_append]) ?_
  refine x_iload dL_law_1314 5 rfl ?_
  refine x_icmp_ne 1332 dL_law_1316 (by decide) (fun c227 => ?_) (fun c227 => ?_)
  · have h := x_neg c227 h
    refine x_iconst 0 dL_law_1332 (by decide) ?_
    cases h
  · have h := x_pos c227 h
    refine x_iload dL_law_1319 13 rfl ?_
    refine x_if_lt 1332 dL_law_1321 (by decide) (fun c228 => ?_) (fun c228 => ?_)
    · have h := x_pos c228 h
      refine x_iconst 0 dL_law_1332 (by decide) ?_
      cases h
    · have h := x_neg c228 h
      refine x_iload dL_law_1324 13 rfl ?_
      refine x_iload dL_law_1326 9 rfl ?_
      refine x_iand dL_law_1328 ?_
      refine x_if_eq 1334 dL_law_1329 (by decide) (fun c229 => ?_) (fun c229 => ?_)
      · have h := x_pos c229 h
        refine x_iconst 0 dL_law_1334 (by decide) ?_
        refine x_istore [(18, .int (0 : Int32)), (0, .ref sb), (1, .ref (a 0)), (2, .ref (a_row 0)), (3, .int x3), (4, .int x4), (5, .int x5), (6, .int x6), (7, .int x7), (8, .int x8), (9, .int x9), (10, .int x10), (11, .ref (a_strains 0)), (13, .int x13), (17, .int x17)] dL_law_1335 (by decide) rfl ?_
        refine x_lv [1, 2, 3, 4, 5, 6, 7, 8, 9, 10, 11, 12, 13, 14, 0] rfl ?_
        exact w_L_law_b1337  _ _ _ _ _ _ _ _ _ _ _ _ _ _ _ h
      · have h := x_neg c229 h
        refine x_iconst 0 dL_law_1332 (by decide) ?_
        cases h
def M_L_law_b1297 (xs : Nat → Int32) (L : Nat) (row_c : (Nat → Int32)) (S : x_S) (strains_c : (Nat → Int32)) (x3 : Int32) (x4 : Int32) (x5 : Int32) (x6 : Int32) (x7 : Int32) (x8 : Int32) (x9 : Int32) (x10 : Int32) (x13 : Int32) (x15 : Int32) (x17 : Int32) : Option (Unit) :=
  if x15 < 0 then
  (M_L_law_b1309 xs L row_c S strains_c x3 x4 x5 x6 x7 x8 x9 x10 x13 x17)
  else
  ((M_LR_lawful S).bind fun r222 =>
  if r222 = 0 then
  (M_L_law_b1309 xs L row_c S strains_c x3 x4 x5 x6 x7 x8 x9 x10 x13 x17)
  else
  (none))
set_option maxHeartbeats 4000000 in
set_option maxRecDepth 100000 in
theorem w_L_law_b1297 {sb : Nat} {xs : Nat → Int32} {G : x_G} {l : Launch} {a : Nat → Nat} {ar : Nat → Nat} {al : Nat → Nat} {af : Nat → Nat} {ax : Nat → Nat} {ad : Nat → Nat} {aq : Nat → Nat} {a_row : Nat → Nat} {a_strains : Nat → Nat} {L : Nat} {res : Unit} (row_c : (Nat → Int32)) (S : x_S) (strains_c : (Nat → Int32)) (x3 : Int32) (x4 : Int32) (x5 : Int32) (x6 : Int32) (x7 : Int32) (x8 : Int32) (x9 : Int32) (x10 : Int32) (x13 : Int32) (x15 : Int32) (x17 : Int32) (h : M_L_law_b1297 xs L row_c S strains_c x3 x4 x5 x6 x7 x8 x9 x10 x13 x15 x17 = some res) : X G l RL cL_law 38 room_1 (x_CL sb L xs) 42 883 1297 [(0, .ref sb), (1, .ref (a 0)), (2, .ref (a_row 0)), (3, .int x3), (4, .int x4), (5, .int x5), (6, .int x6), (7, .int x7), (8, .int x8), (9, .int x9), (10, .int x10), (11, .ref (a_strains 0)), (13, .int x13), (15, .int x15), (17, .int x17)] [] ((WArr G a_row 38 row_c) ++ ((WLR G a ar al af ax ad aq S) ++ (WArr G a_strains 6 strains_c))) := by
  unfold M_L_law_b1297 at h
  refine x_iload dL_law_1297 13 rfl ?_
  refine x_if_lt 1309 dL_law_1299 (by decide) (fun c221 => ?_) (fun c221 => ?_)
  · have h := x_pos c221 h
    refine x_lv [0, 1, 2, 3, 4, 5, 6, 7, 8, 9, 10, 11, 12, 14] rfl ?_
    exact w_L_law_b1309  _ _ _ _ _ _ _ _ _ _ _ _ _ h
  · have h := x_neg c221 h
    refine x_aload_n dL_law_1302 1 rfl rfl ?_
    obtain ⟨r222, e223, h⟩ := x_bind h
    refine x_cV (As := []) (wc := (WLR G a ar al af ax ad aq S)) (w1 := (WLR G a ar al af ax ad aq S)) (pre := (WArr G a_row 38 row_c)) (post := (WArr G a_strains 6 strains_c)) (rest := []) (st1 := [.int r222]) (ws1 := ((WArr G a_row 38 row_c) ++ ((WLR G a ar al af ax ad aq S) ++ (WArr G a_strains 6 strains_c)))) (ci := 4) 0 dL_law_1303 (c_LR_lawful (a := a) e223) pk_X6_lawful ml_L_65 (by simp only [List.append_assoc, List.append_nil, List.nil_append]) rfl rfl rfl rfl rfl rfl rfl rfl (by simp only [List.append_assoc, List.append_nil, List.nil_append]) ?_
    refine x_if_ne 1332 dL_law_1306 (by decide) (fun c224 => ?_) (fun c224 => ?_)
    · have h := x_neg c224 h
      refine x_iconst 0 dL_law_1332 (by decide) ?_
      cases h
    · have h := x_pos c224 h
      refine x_lv [0, 1, 2, 3, 4, 5, 6, 7, 8, 9, 10, 11, 12, 14] rfl ?_
      exact w_L_law_b1309  _ _ _ _ _ _ _ _ _ _ _ _ _ h
def M_L_law_b1250 (xs : Nat → Int32) (L : Nat) : Nat → (Nat → Int32) → x_S → (Nat → Int32) → Int32 → Int32 → Int32 → Int32 → Int32 → Int32 → Int32 → Int32 → Int32 → Int32 → Int32 → Int32 → Int32 → Option (Unit)
  | 0, _, _, _, _, _, _, _, _, _, _, _, _, _, _, _, _ => none
  | n + 1, row_c, S, strains_c, x3, x4, x5, x6, x7, x8, x9, x10, x13, x15, x16, x17, x18 =>
    if x3 ≤ x18 then
    (M_L_law_b1297 xs L row_c S strains_c x3 x4 x5 x6 x7 x8 x9 x10 x13 x15 x17)
    else
    (if x15 ≤ 0 then
    (M_L_law_b1297 xs L row_c S strains_c x3 x4 x5 x6 x7 x8 x9 x10 x13 x15 x17)
    else
    (if ((x16 >>> (x18 &&& (31 : Int32))) &&& (1 : Int32)) = (1 : Int32) then
    ((M_LR_lawful S).bind fun r215 =>
    if r215 = 0 then
    (none)
    else
    ((M_LR_cut S x18).bind fun r218 =>
    if (1 : Int32) ≤ r218.1 then
    (M_L_law_b1291 xs L (fun (row_c' : (Nat → Int32)) (S' : x_S) (strains_c' : (Nat → Int32)) (x3' : Int32) (x4' : Int32) (x5' : Int32) (x6' : Int32) (x7' : Int32) (x8' : Int32) (x9' : Int32) (x10' : Int32) (x13' : Int32) (x15' : Int32) (x16' : Int32) (x17' : Int32) (x18' : Int32) => M_L_law_b1250 xs L n row_c' S' strains_c' x3' x4' x5' x6' x7' x8' x9' x10' x13' x15' x16' x17' x18') row_c r218.2 strains_c x3 x4 x5 x6 x7 x8 x9 x10 x13 x15 x16 x17 x18)
    else
    (none)))
    else
    (M_L_law_b1291 xs L (fun (row_c' : (Nat → Int32)) (S' : x_S) (strains_c' : (Nat → Int32)) (x3' : Int32) (x4' : Int32) (x5' : Int32) (x6' : Int32) (x7' : Int32) (x8' : Int32) (x9' : Int32) (x10' : Int32) (x13' : Int32) (x15' : Int32) (x16' : Int32) (x17' : Int32) (x18' : Int32) => M_L_law_b1250 xs L n row_c' S' strains_c' x3' x4' x5' x6' x7' x8' x9' x10' x13' x15' x16' x17' x18') row_c S strains_c x3 x4 x5 x6 x7 x8 x9 x10 x13 x15 x16 x17 x18)))
set_option maxHeartbeats 4000000 in
set_option maxRecDepth 100000 in
theorem w_L_law_b1250 {sb : Nat} {xs : Nat → Int32} {G : x_G} {l : Launch} {a : Nat → Nat} {ar : Nat → Nat} {al : Nat → Nat} {af : Nat → Nat} {ax : Nat → Nat} {ad : Nat → Nat} {aq : Nat → Nat} {a_row : Nat → Nat} {a_strains : Nat → Nat} {L : Nat} {res : Unit} : ∀ (n : Nat) (row_c : (Nat → Int32)) (S : x_S) (strains_c : (Nat → Int32)) (x3 : Int32) (x4 : Int32) (x5 : Int32) (x6 : Int32) (x7 : Int32) (x8 : Int32) (x9 : Int32) (x10 : Int32) (x13 : Int32) (x15 : Int32) (x16 : Int32) (x17 : Int32) (x18 : Int32), M_L_law_b1250 xs L n row_c S strains_c x3 x4 x5 x6 x7 x8 x9 x10 x13 x15 x16 x17 x18 = some res → X G l RL cL_law 38 room_1 (x_CL sb L xs) 42 883 1250 [(0, .ref sb), (1, .ref (a 0)), (2, .ref (a_row 0)), (3, .int x3), (4, .int x4), (5, .int x5), (6, .int x6), (7, .int x7), (8, .int x8), (9, .int x9), (10, .int x10), (11, .ref (a_strains 0)), (13, .int x13), (15, .int x15), (16, .int x16), (17, .int x17), (18, .int x18)] [] ((WArr G a_row 38 row_c) ++ ((WLR G a ar al af ax ad aq S) ++ (WArr G a_strains 6 strains_c))) := by
  intro n
  induction n with
  | zero =>
    intro _ _ _ _ _ _ _ _ _ _ _ _ _ _ _ _ h
    cases h
  | succ n ih =>
    intro row_c S strains_c x3 x4 x5 x6 x7 x8 x9 x10 x13 x15 x16 x17 x18 h
    rw [M_L_law_b1250] at h
    refine x_iload dL_law_1250 16 rfl ?_
    refine x_iload_n dL_law_1252 3 rfl rfl ?_
    refine x_icmp_ge 1297 dL_law_1253 (by decide) (fun c212 => ?_) (fun c212 => ?_)
    · have h := x_pos c212 h
      refine x_lv [0, 1, 2, 3, 4, 5, 6, 7, 8, 9, 10, 11, 12, 13, 15] rfl ?_
      exact w_L_law_b1297  _ _ _ _ _ _ _ _ _ _ _ _ _ _ h
    · have h := x_neg c212 h
      refine x_iload dL_law_1256 13 rfl ?_
      refine x_if_le 1297 dL_law_1258 (by decide) (fun c213 => ?_) (fun c213 => ?_)
      · have h := x_pos c213 h
        refine x_lv [0, 1, 2, 3, 4, 5, 6, 7, 8, 9, 10, 11, 12, 13, 15] rfl ?_
        exact w_L_law_b1297  _ _ _ _ _ _ _ _ _ _ _ _ _ _ h
      · have h := x_neg c213 h
        refine x_iload dL_law_1261 14 rfl ?_
        refine x_iload dL_law_1263 16 rfl ?_
        refine x_ishr dL_law_1265 ?_
        refine x_iconst 1 dL_law_1266 (by decide) ?_
        refine x_iand dL_law_1267 ?_
        refine x_iconst 1 dL_law_1268 (by decide) ?_
        refine x_icmp_ne 1291 dL_law_1269 (by decide) (fun c214 => ?_) (fun c214 => ?_)
        · have h := x_neg c214 h
          exact w_L_law_b1291 (fun row_c' S' strains_c' x3' x4' x5' x6' x7' x8' x9' x10' x13' x15' x16' x17' x18' h => ih row_c' S' strains_c' x3' x4' x5' x6' x7' x8' x9' x10' x13' x15' x16' x17' x18' h) _ _ _ _ _ _ _ _ _ _ _ _ _ _ _ _ h
        · have h := x_pos c214 h
          refine x_aload_n dL_law_1272 1 rfl rfl ?_
          obtain ⟨r215, e216, h⟩ := x_bind h
          refine x_cV (As := []) (wc := (WLR G a ar al af ax ad aq S)) (w1 := (WLR G a ar al af ax ad aq S)) (pre := (WArr G a_row 38 row_c)) (post := (WArr G a_strains 6 strains_c)) (rest := []) (st1 := [.int r215]) (ws1 := ((WArr G a_row 38 row_c) ++ ((WLR G a ar al af ax ad aq S) ++ (WArr G a_strains 6 strains_c)))) (ci := 4) 0 dL_law_1273 (c_LR_lawful (a := a) e216) pk_X6_lawful ml_L_65 (by simp only [List.append_assoc, List.append_nil, List.nil_append]) rfl rfl rfl rfl rfl rfl rfl rfl (by simp only [List.append_assoc, List.append_nil, List.nil_append]) ?_
          refine x_if_eq 1289 dL_law_1276 (by decide) (fun c217 => ?_) (fun c217 => ?_)
          · have h := x_pos c217 h
            refine x_iconst 0 dL_law_1289 (by decide) ?_
            cases h
          · have h := x_neg c217 h
            refine x_aload_n dL_law_1279 1 rfl rfl ?_
            refine x_iload dL_law_1280 16 rfl ?_
            obtain ⟨r218, e219, h⟩ := x_bind h
            refine x_cV (As := [.int x18]) (wc := (WLR G a ar al af ax ad aq S)) (w1 := (WLR G a ar al af ax ad aq r218.2)) (pre := (WArr G a_row 38 row_c)) (post := (WArr G a_strains 6 strains_c)) (rest := []) (st1 := [.int r218.1]) (ws1 := ((WArr G a_row 38 row_c) ++ ((WLR G a ar al af ax ad aq r218.2) ++ (WArr G a_strains 6 strains_c)))) (ci := 4) 0 dL_law_1282 (c_LR_cut (a := a) e219) pk_X6_cut ml_L_105 (by simp only [List.append_assoc, List.append_nil, List.nil_append]) rfl rfl rfl rfl rfl rfl rfl rfl (by simp only [List.append_assoc, List.append_nil, List.nil_append]) ?_
            refine x_iconst 1 dL_law_1285 (by decide) ?_
            refine x_icmp_ge 1291 dL_law_1286 (by decide) (fun c220 => ?_) (fun c220 => ?_)
            · have h := x_pos c220 h
              exact w_L_law_b1291 (fun row_c' S' strains_c' x3' x4' x5' x6' x7' x8' x9' x10' x13' x15' x16' x17' x18' h => ih row_c' S' strains_c' x3' x4' x5' x6' x7' x8' x9' x10' x13' x15' x16' x17' x18' h) _ _ _ _ _ _ _ _ _ _ _ _ _ _ _ _ h
            · have h := x_neg c220 h
              refine x_iconst 0 dL_law_1289 (by decide) ?_
              cases h
def M_L_law_b1247 (xs : Nat → Int32) (L : Nat) (row_c : (Nat → Int32)) (S : x_S) (strains_c : (Nat → Int32)) (x3 : Int32) (x4 : Int32) (x5 : Int32) (x6 : Int32) (x7 : Int32) (x8 : Int32) (x9 : Int32) (x10 : Int32) (x13 : Int32) (x15 : Int32) (x16 : Int32) (x17 : Int32) : Option (Unit) :=
  M_L_law_b1250 xs L x_fuel row_c S strains_c x3 x4 x5 x6 x7 x8 x9 x10 x13 x15 x16 x17 (0 : Int32)
set_option maxHeartbeats 4000000 in
set_option maxRecDepth 100000 in
theorem w_L_law_b1247 {sb : Nat} {xs : Nat → Int32} {G : x_G} {l : Launch} {a : Nat → Nat} {ar : Nat → Nat} {al : Nat → Nat} {af : Nat → Nat} {ax : Nat → Nat} {ad : Nat → Nat} {aq : Nat → Nat} {a_row : Nat → Nat} {a_strains : Nat → Nat} {L : Nat} {res : Unit} (row_c : (Nat → Int32)) (S : x_S) (strains_c : (Nat → Int32)) (x3 : Int32) (x4 : Int32) (x5 : Int32) (x6 : Int32) (x7 : Int32) (x8 : Int32) (x9 : Int32) (x10 : Int32) (x13 : Int32) (x15 : Int32) (x16 : Int32) (x17 : Int32) (h : M_L_law_b1247 xs L row_c S strains_c x3 x4 x5 x6 x7 x8 x9 x10 x13 x15 x16 x17 = some res) : X G l RL cL_law 38 room_1 (x_CL sb L xs) 42 883 1247 [(0, .ref sb), (1, .ref (a 0)), (2, .ref (a_row 0)), (3, .int x3), (4, .int x4), (5, .int x5), (6, .int x6), (7, .int x7), (8, .int x8), (9, .int x9), (10, .int x10), (11, .ref (a_strains 0)), (13, .int x13), (15, .int x15), (16, .int x16), (17, .int x17)] [] ((WArr G a_row 38 row_c) ++ ((WLR G a ar al af ax ad aq S) ++ (WArr G a_strains 6 strains_c))) := by
  unfold M_L_law_b1247 at h
  refine x_iconst 0 dL_law_1247 (by decide) ?_
  refine x_istore [(18, .int (0 : Int32)), (0, .ref sb), (1, .ref (a 0)), (2, .ref (a_row 0)), (3, .int x3), (4, .int x4), (5, .int x5), (6, .int x6), (7, .int x7), (8, .int x8), (9, .int x9), (10, .int x10), (11, .ref (a_strains 0)), (13, .int x13), (15, .int x15), (16, .int x16), (17, .int x17)] dL_law_1248 (by decide) rfl ?_
  refine x_lv [1, 2, 3, 4, 5, 6, 7, 8, 9, 10, 11, 12, 13, 14, 15, 16, 0] rfl ?_
  exact w_L_law_b1250  _ _ _ _ _ _ _ _ _ _ _ _ _ _ _ _ _ h
def M_L_law_b1242 (xs : Nat → Int32) (L : Nat) (row_c : (Nat → Int32)) (S : x_S) (strains_c : (Nat → Int32)) (x3 : Int32) (x4 : Int32) (x5 : Int32) (x6 : Int32) (x7 : Int32) (x8 : Int32) (x9 : Int32) (x10 : Int32) (x13 : Int32) (x15 : Int32) (x16 : Int32) (x17 : Int32) (s0 : Int32) (s1 : Int32) : Option (Unit) :=
  if s0 = s1 then
  (M_L_law_b1247 xs L row_c S strains_c x3 x4 x5 x6 x7 x8 x9 x10 x13 x15 x16 x17)
  else
  (none)
set_option maxHeartbeats 4000000 in
set_option maxRecDepth 100000 in
theorem w_L_law_b1242 {sb : Nat} {xs : Nat → Int32} {G : x_G} {l : Launch} {a : Nat → Nat} {ar : Nat → Nat} {al : Nat → Nat} {af : Nat → Nat} {ax : Nat → Nat} {ad : Nat → Nat} {aq : Nat → Nat} {a_row : Nat → Nat} {a_strains : Nat → Nat} {L : Nat} {res : Unit} (row_c : (Nat → Int32)) (S : x_S) (strains_c : (Nat → Int32)) (x3 : Int32) (x4 : Int32) (x5 : Int32) (x6 : Int32) (x7 : Int32) (x8 : Int32) (x9 : Int32) (x10 : Int32) (x13 : Int32) (x15 : Int32) (x16 : Int32) (x17 : Int32) (s0 : Int32) (s1 : Int32) (h : M_L_law_b1242 xs L row_c S strains_c x3 x4 x5 x6 x7 x8 x9 x10 x13 x15 x16 x17 s0 s1 = some res) : X G l RL cL_law 38 room_1 (x_CL sb L xs) 42 883 1242 [(0, .ref sb), (1, .ref (a 0)), (2, .ref (a_row 0)), (3, .int x3), (4, .int x4), (5, .int x5), (6, .int x6), (7, .int x7), (8, .int x8), (9, .int x9), (10, .int x10), (11, .ref (a_strains 0)), (13, .int x13), (15, .int x15), (16, .int x16), (17, .int x17)] [.int s1, .int s0] ((WArr G a_row 38 row_c) ++ ((WLR G a ar al af ax ad aq S) ++ (WArr G a_strains 6 strains_c))) := by
  unfold M_L_law_b1242 at h
  refine x_icmp_eq 1247 dL_law_1242 (by decide) (fun c211 => ?_) (fun c211 => ?_)
  · have h := x_pos c211 h
    exact w_L_law_b1247  _ _ _ _ _ _ _ _ _ _ _ _ _ _ _ h
  · have h := x_neg c211 h
    refine x_iconst 0 dL_law_1245 (by decide) ?_
    cases h
def M_L_law_b1232 (xs : Nat → Int32) (L : Nat) (row_c : (Nat → Int32)) (S : x_S) (strains_c : (Nat → Int32)) (x3 : Int32) (x4 : Int32) (x5 : Int32) (x6 : Int32) (x7 : Int32) (x8 : Int32) (x9 : Int32) (x10 : Int32) (x13 : Int32) (x15 : Int32) (x16 : Int32) (x17 : Int32) (s0 : Int32) : Option (Unit) :=
  if x10 = 0 then
  (M_L_law_b1242 xs L row_c S strains_c x3 x4 x5 x6 x7 x8 x9 x10 x13 x15 x16 x17 s0 (1 : Int32))
  else
  (M_L_law_b1242 xs L row_c S strains_c x3 x4 x5 x6 x7 x8 x9 x10 x13 x15 x16 x17 s0 (0 : Int32))
set_option maxHeartbeats 4000000 in
set_option maxRecDepth 100000 in
theorem w_L_law_b1232 {sb : Nat} {xs : Nat → Int32} {G : x_G} {l : Launch} {a : Nat → Nat} {ar : Nat → Nat} {al : Nat → Nat} {af : Nat → Nat} {ax : Nat → Nat} {ad : Nat → Nat} {aq : Nat → Nat} {a_row : Nat → Nat} {a_strains : Nat → Nat} {L : Nat} {res : Unit} (row_c : (Nat → Int32)) (S : x_S) (strains_c : (Nat → Int32)) (x3 : Int32) (x4 : Int32) (x5 : Int32) (x6 : Int32) (x7 : Int32) (x8 : Int32) (x9 : Int32) (x10 : Int32) (x13 : Int32) (x15 : Int32) (x16 : Int32) (x17 : Int32) (s0 : Int32) (h : M_L_law_b1232 xs L row_c S strains_c x3 x4 x5 x6 x7 x8 x9 x10 x13 x15 x16 x17 s0 = some res) : X G l RL cL_law 38 room_1 (x_CL sb L xs) 42 883 1232 [(0, .ref sb), (1, .ref (a 0)), (2, .ref (a_row 0)), (3, .int x3), (4, .int x4), (5, .int x5), (6, .int x6), (7, .int x7), (8, .int x8), (9, .int x9), (10, .int x10), (11, .ref (a_strains 0)), (13, .int x13), (15, .int x15), (16, .int x16), (17, .int x17)] [.int s0] ((WArr G a_row 38 row_c) ++ ((WLR G a ar al af ax ad aq S) ++ (WArr G a_strains 6 strains_c))) := by
  unfold M_L_law_b1232 at h
  refine x_iload dL_law_1232 10 rfl ?_
  refine x_if_ne 1241 dL_law_1234 (by decide) (fun c210 => ?_) (fun c210 => ?_)
  · have h := x_neg c210 h
    refine x_iconst 0 dL_law_1241 (by decide) ?_
    exact w_L_law_b1242  _ _ _ _ _ _ _ _ _ _ _ _ _ _ _ _ _ h
  · have h := x_pos c210 h
    refine x_iconst 1 dL_law_1237 (by decide) ?_
    refine x_goto 1242 dL_law_1238 (by decide) ?_
    exact w_L_law_b1242  _ _ _ _ _ _ _ _ _ _ _ _ _ _ _ _ _ h
def M_L_law_b1154 (xs : Nat → Int32) (L : Nat) (row_c : (Nat → Int32)) (S : x_S) (strains_c : (Nat → Int32)) (x3 : Int32) (x4 : Int32) (x5 : Int32) (x6 : Int32) (x7 : Int32) (x8 : Int32) (x9 : Int32) (x10 : Int32) (x13 : Int32) : Option (Unit) :=
  (M_LR_on S (0 : Int32)).bind fun r193 =>
  if r193.1 = x5 then
  ((M_LR_fall r193.2).bind fun r196 =>
  (M_LR_asked r196.2).bind fun r198 =>
  (M_LR_idle r196.2).bind fun r200 =>
  if r196.1 = (-9 : Int32) then
  (if x10 = 0 then
  (none)
  else
  (M_L_law_b1247 xs L row_c r196.2 strains_c x3 x4 x5 x6 x7 x8 x9 x10 x13 r196.1 r198 r200))
  else
  (if r196.1 < 0 then
  (none)
  else
  ((M_L_bits r198).bind fun r204 =>
  if r196.1 = r204 then
  (if (r198 &&& x9) = 0 then
  (if r196.1 = 0 then
  (M_L_law_b1232 xs L row_c r196.2 strains_c x3 x4 x5 x6 x7 x8 x9 x10 x13 r196.1 r198 r200 (1 : Int32))
  else
  (M_L_law_b1232 xs L row_c r196.2 strains_c x3 x4 x5 x6 x7 x8 x9 x10 x13 r196.1 r198 r200 (0 : Int32)))
  else
  (none))
  else
  (none))))
  else
  (none)
set_option maxHeartbeats 4000000 in
set_option maxRecDepth 100000 in
theorem w_L_law_b1154 {sb : Nat} {xs : Nat → Int32} {G : x_G} {l : Launch} {a : Nat → Nat} {ar : Nat → Nat} {al : Nat → Nat} {af : Nat → Nat} {ax : Nat → Nat} {ad : Nat → Nat} {aq : Nat → Nat} {a_row : Nat → Nat} {a_strains : Nat → Nat} {L : Nat} {res : Unit} (row_c : (Nat → Int32)) (S : x_S) (strains_c : (Nat → Int32)) (x3 : Int32) (x4 : Int32) (x5 : Int32) (x6 : Int32) (x7 : Int32) (x8 : Int32) (x9 : Int32) (x10 : Int32) (x13 : Int32) (h : M_L_law_b1154 xs L row_c S strains_c x3 x4 x5 x6 x7 x8 x9 x10 x13 = some res) : X G l RL cL_law 38 room_1 (x_CL sb L xs) 42 883 1154 [(0, .ref sb), (1, .ref (a 0)), (2, .ref (a_row 0)), (3, .int x3), (4, .int x4), (5, .int x5), (6, .int x6), (7, .int x7), (8, .int x8), (9, .int x9), (10, .int x10), (11, .ref (a_strains 0)), (13, .int x13)] [] ((WArr G a_row 38 row_c) ++ ((WLR G a ar al af ax ad aq S) ++ (WArr G a_strains 6 strains_c))) := by
  unfold M_L_law_b1154 at h
  refine x_aload_n dL_law_1154 1 rfl rfl ?_
  refine x_iconst 0 dL_law_1155 (by decide) ?_
  obtain ⟨r193, e194, h⟩ := x_bind h
  refine x_cV (As := [.int (0 : Int32)]) (wc := (WLR G a ar al af ax ad aq S)) (w1 := (WLR G a ar al af ax ad aq r193.2)) (pre := (WArr G a_row 38 row_c)) (post := (WArr G a_strains 6 strains_c)) (rest := []) (st1 := [.int r193.1]) (ws1 := ((WArr G a_row 38 row_c) ++ ((WLR G a ar al af ax ad aq r193.2) ++ (WArr G a_strains 6 strains_c)))) (ci := 4) 0 dL_law_1156 (c_LR_on (a := a) e194) pk_X6_on ml_L_93 (by simp only [List.append_assoc, List.append_nil, List.nil_append]) rfl rfl rfl rfl rfl rfl rfl rfl (by simp only [List.append_assoc, List.append_nil, List.nil_append]) ?_
  refine x_iload dL_law_1159 5 rfl ?_
  refine x_icmp_eq 1166 dL_law_1161 (by decide) (fun c195 => ?_) (fun c195 => ?_)
  · have h := x_pos c195 h
    refine x_aload_n dL_law_1166 1 rfl rfl ?_
    obtain ⟨r196, e197, h⟩ := x_bind h
    refine x_cV (As := []) (wc := (WLR G a ar al af ax ad aq r193.2)) (w1 := (WLR G a ar al af ax ad aq r196.2)) (pre := (WArr G a_row 38 row_c)) (post := (WArr G a_strains 6 strains_c)) (rest := []) (st1 := [.int r196.1]) (ws1 := ((WArr G a_row 38 row_c) ++ ((WLR G a ar al af ax ad aq r196.2) ++ (WArr G a_strains 6 strains_c)))) (ci := 4) 0 dL_law_1167 (c_LR_fall (a := a) e197) pk_X6_fall ml_L_96 (by simp only [List.append_assoc, List.append_nil, List.nil_append]) rfl rfl rfl rfl rfl rfl rfl rfl (by simp only [List.append_assoc, List.append_nil, List.nil_append]) ?_
    refine x_istore [(15, .int r196.1), (0, .ref sb), (1, .ref (a 0)), (2, .ref (a_row 0)), (3, .int x3), (4, .int x4), (5, .int x5), (6, .int x6), (7, .int x7), (8, .int x8), (9, .int x9), (10, .int x10), (11, .ref (a_strains 0)), (13, .int x13)] dL_law_1170 (by decide) rfl ?_
    refine x_aload_n dL_law_1172 2 rfl rfl ?_
    obtain ⟨r198, e199, h⟩ := x_bind h
    refine x_cV (As := []) (wc := (WLR G a ar al af ax ad aq r196.2)) (w1 := (WLR G a ar al af ax ad aq r196.2)) (pre := (WArr G a_row 38 row_c)) (post := (WArr G a_strains 6 strains_c)) (rest := []) (st1 := [.int r198]) (ws1 := ((WArr G a_row 38 row_c) ++ ((WLR G a ar al af ax ad aq r196.2) ++ (WArr G a_strains 6 strains_c)))) (ci := 4) 0 dL_law_1173 (c_LR_asked (a := a) e199) pk_X6_asked ml_L_42 (by simp only [List.append_assoc, List.append_nil, List.nil_append]) rfl rfl rfl rfl rfl rfl rfl rfl (by simp only [List.append_assoc, List.append_nil, List.nil_append]) ?_
    refine x_istore [(16, .int r198), (15, .int r196.1), (0, .ref sb), (1, .ref (a 0)), (2, .ref (a_row 0)), (3, .int x3), (4, .int x4), (5, .int x5), (6, .int x6), (7, .int x7), (8, .int x8), (9, .int x9), (10, .int x10), (11, .ref (a_strains 0)), (13, .int x13)] dL_law_1176 (by decide) rfl ?_
    refine x_aload_n dL_law_1178 3 rfl rfl ?_
    obtain ⟨r200, e201, h⟩ := x_bind h
    refine x_cV (As := []) (wc := (WLR G a ar al af ax ad aq r196.2)) (w1 := (WLR G a ar al af ax ad aq r196.2)) (pre := (WArr G a_row 38 row_c)) (post := (WArr G a_strains 6 strains_c)) (rest := []) (st1 := [.int r200]) (ws1 := ((WArr G a_row 38 row_c) ++ ((WLR G a ar al af ax ad aq r196.2) ++ (WArr G a_strains 6 strains_c)))) (ci := 4) 0 dL_law_1179 (c_LR_idle (a := a) e201) pk_X6_idle ml_L_99 (by simp only [List.append_assoc, List.append_nil, List.nil_append]) rfl rfl rfl rfl rfl rfl rfl rfl (by simp only [List.append_assoc, List.append_nil, List.nil_append]) ?_
    refine x_istore [(17, .int r200), (16, .int r198), (15, .int r196.1), (0, .ref sb), (1, .ref (a 0)), (2, .ref (a_row 0)), (3, .int x3), (4, .int x4), (5, .int x5), (6, .int x6), (7, .int x7), (8, .int x8), (9, .int x9), (10, .int x10), (11, .ref (a_strains 0)), (13, .int x13)] dL_law_1182 (by decide) rfl ?_
    refine x_iload dL_law_1184 2 rfl ?_
    refine x_bipush (-9 : Int32) dL_law_1186 (by decide) ?_
    refine x_icmp_ne 1199 dL_law_1188 (by decide) (fun c202 => ?_) (fun c202 => ?_)
    · have h := x_neg c202 h
      refine x_iload dL_law_1199 2 rfl ?_
      refine x_if_lt 1245 dL_law_1201 (by decide) (fun c203 => ?_) (fun c203 => ?_)
      · have h := x_pos c203 h
        refine x_iconst 0 dL_law_1245 (by decide) ?_
        cases h
      · have h := x_neg c203 h
        refine x_iload dL_law_1204 2 rfl ?_
        refine x_iload dL_law_1206 1 rfl ?_
        obtain ⟨r204, e205, h⟩ := x_bind h
        refine x_cS (As := [.int r198]) (wc := ([] : va_W)) (w1 := ([] : va_W)) (pre := []) (post := ((WArr G a_row 38 row_c) ++ ((WLR G a ar al af ax ad aq r196.2) ++ (WArr G a_strains 6 strains_c)))) (rest := [.int r196.1]) (st1 := [.int r204, .int r196.1]) (ws1 := ((WArr G a_row 38 row_c) ++ ((WLR G a ar al af ax ad aq r196.2) ++ (WArr G a_strains 6 strains_c)))) dL_law_1208 (c_L_bits e205) pk_L_bits ml_L_102 rfl rfl rfl rfl rfl rfl rfl ?_
        refine x_icmp_ne 1245 dL_law_1211 (by decide) (fun c206 => ?_) (fun c206 => ?_)
        · have h := x_neg c206 h
          refine x_iconst 0 dL_law_1245 (by decide) ?_
          cases h
        · have h := x_pos c206 h
          refine x_iload dL_law_1214 1 rfl ?_
          refine x_iload dL_law_1216 12 rfl ?_
          refine x_iand dL_law_1218 ?_
          refine x_if_ne 1245 dL_law_1219 (by decide) (fun c207 => ?_) (fun c207 => ?_)
          · have h := x_neg c207 h
            refine x_iconst 0 dL_law_1245 (by decide) ?_
            cases h
          · have h := x_pos c207 h
            refine x_iload dL_law_1222 2 rfl ?_
            refine x_if_ne 1231 dL_law_1224 (by decide) (fun c208 => ?_) (fun c208 => ?_)
            · have h := x_neg c208 h
              refine x_iconst 0 dL_law_1231 (by decide) ?_
              refine x_lv [3, 4, 5, 6, 7, 8, 9, 10, 11, 12, 13, 14, 15, 2, 1, 0] rfl ?_
              exact w_L_law_b1232  _ _ _ _ _ _ _ _ _ _ _ _ _ _ _ _ h
            · have h := x_pos c208 h
              refine x_iconst 1 dL_law_1227 (by decide) ?_
              refine x_goto 1232 dL_law_1228 (by decide) ?_
              refine x_lv [3, 4, 5, 6, 7, 8, 9, 10, 11, 12, 13, 14, 15, 2, 1, 0] rfl ?_
              exact w_L_law_b1232  _ _ _ _ _ _ _ _ _ _ _ _ _ _ _ _ h
    · have h := x_pos c202 h
      refine x_iload dL_law_1191 13 rfl ?_
      refine x_if_ne 1247 dL_law_1193 (by decide) (fun c209 => ?_) (fun c209 => ?_)
      · have h := x_neg c209 h
        refine x_lv [3, 4, 5, 6, 7, 8, 9, 10, 11, 12, 13, 14, 15, 2, 1, 0] rfl ?_
        exact w_L_law_b1247  _ _ _ _ _ _ _ _ _ _ _ _ _ _ _ h
      · have h := x_pos c209 h
        refine x_goto 1245 dL_law_1196 (by decide) ?_
        refine x_iconst 0 dL_law_1245 (by decide) ?_
        cases h
  · have h := x_neg c195 h
    refine x_iconst 0 dL_law_1164 (by decide) ?_
    cases h
def M_L_law_b1013 (xs : Nat → Int32) (L : Nat) : Nat → (Nat → Int32) → x_S → (Nat → Int32) → Int32 → Int32 → Int32 → Int32 → Int32 → Int32 → Int32 → Int32 → Int32 → Int32 → Int32 → Option (Unit)
  | 0, _, _, _, _, _, _, _, _, _, _, _, _, _, _ => none
  | n + 1, row_c, S, strains_c, x3, x4, x5, x6, x7, x8, x9, x10, x13, x14, x15 =>
    if x14 ≤ x15 then
    (if x14 ≤ 0 then
    (M_L_law_b1154 xs L row_c S strains_c x3 x4 x5 x6 x7 x8 x9 x10 x13)
    else
    ((M_LR_count S (6 : Int32)).bind fun r168 =>
    if r168 = x9 then
    ((M_LR_least S x13 (5 : Int32)).bind fun r171 =>
    if r171.1 = 0 then
    (M_L_law_b1154 xs L row_c r171.2 strains_c x3 x4 x5 x6 x7 x8 x9 x10 x13)
    else
    (none))
    else
    (none)))
    else
    ((M_LR_at S (5 : Int32) x15).bind fun r174 =>
    (M_LR_asked r174.2).bind fun r176 =>
    if r174.1 = (1 : Int32) then
    (if r176 < 0 then
    (none)
    else
    (if (11 : Int32) < r176 then
    (none)
    else
    (if x3 ≤ (r176 - r176 / (6 : Int32) * (6 : Int32)) then
    (none)
    else
    (if (6 : Int32) ≤ r176 then
    ((M_LR_slack r174.2 (r176 - (6 : Int32))).bind fun r183 =>
    if r183.1 < 0 then
    (none)
    else
    (M_L_law_b1094 xs L (fun (row_c' : (Nat → Int32)) (S' : x_S) (strains_c' : (Nat → Int32)) (x3' : Int32) (x4' : Int32) (x5' : Int32) (x6' : Int32) (x7' : Int32) (x8' : Int32) (x9' : Int32) (x10' : Int32) (x13' : Int32) (x14' : Int32) (x15' : Int32) => M_L_law_b1013 xs L n row_c' S' strains_c' x3' x4' x5' x6' x7' x8' x9' x10' x13' x14' x15') row_c r183.2 strains_c x3 x4 x5 x6 x7 x8 x9 x10 x13 x14 x15))
    else
    ((M_LR_haul r174.2 r176 (1 : Int32)).bind fun r186 =>
    if r186.1 = 0 then
    (M_L_law_b1094 xs L (fun (row_c' : (Nat → Int32)) (S' : x_S) (strains_c' : (Nat → Int32)) (x3' : Int32) (x4' : Int32) (x5' : Int32) (x6' : Int32) (x7' : Int32) (x8' : Int32) (x9' : Int32) (x10' : Int32) (x13' : Int32) (x14' : Int32) (x15' : Int32) => M_L_law_b1013 xs L n row_c' S' strains_c' x3' x4' x5' x6' x7' x8' x9' x10' x13' x14' x15') row_c r186.2 strains_c x3 x4 x5 x6 x7 x8 x9 x10 x13 x14 x15)
    else
    (none))))))
    else
    (none))
set_option maxHeartbeats 4000000 in
set_option maxRecDepth 100000 in
theorem w_L_law_b1013 {sb : Nat} {xs : Nat → Int32} {G : x_G} {l : Launch} {a : Nat → Nat} {ar : Nat → Nat} {al : Nat → Nat} {af : Nat → Nat} {ax : Nat → Nat} {ad : Nat → Nat} {aq : Nat → Nat} {a_row : Nat → Nat} {a_strains : Nat → Nat} {L : Nat} {res : Unit} : ∀ (n : Nat) (row_c : (Nat → Int32)) (S : x_S) (strains_c : (Nat → Int32)) (x3 : Int32) (x4 : Int32) (x5 : Int32) (x6 : Int32) (x7 : Int32) (x8 : Int32) (x9 : Int32) (x10 : Int32) (x13 : Int32) (x14 : Int32) (x15 : Int32), M_L_law_b1013 xs L n row_c S strains_c x3 x4 x5 x6 x7 x8 x9 x10 x13 x14 x15 = some res → X G l RL cL_law 38 room_1 (x_CL sb L xs) 42 883 1013 [(0, .ref sb), (1, .ref (a 0)), (2, .ref (a_row 0)), (3, .int x3), (4, .int x4), (5, .int x5), (6, .int x6), (7, .int x7), (8, .int x8), (9, .int x9), (10, .int x10), (11, .ref (a_strains 0)), (13, .int x13), (14, .int x14), (15, .int x15)] [] ((WArr G a_row 38 row_c) ++ ((WLR G a ar al af ax ad aq S) ++ (WArr G a_strains 6 strains_c))) := by
  intro n
  induction n with
  | zero =>
    intro _ _ _ _ _ _ _ _ _ _ _ _ _ _ h
    cases h
  | succ n ih =>
    intro row_c S strains_c x3 x4 x5 x6 x7 x8 x9 x10 x13 x14 x15 h
    rw [M_L_law_b1013] at h
    refine x_iload dL_law_1013 14 rfl ?_
    refine x_iload dL_law_1015 13 rfl ?_
    refine x_icmp_ge 1128 dL_law_1017 (by decide) (fun c166 => ?_) (fun c166 => ?_)
    · have h := x_pos c166 h
      refine x_iload dL_law_1128 13 rfl ?_
      refine x_if_le 1154 dL_law_1130 (by decide) (fun c167 => ?_) (fun c167 => ?_)
      · have h := x_pos c167 h
        refine x_lv [0, 1, 2, 3, 4, 5, 6, 7, 8, 9, 10, 11, 12] rfl ?_
        exact w_L_law_b1154  _ _ _ _ _ _ _ _ _ _ _ _ h
      · have h := x_neg c167 h
        refine x_aload_n dL_law_1133 1 rfl rfl ?_
        refine x_bipush 6 dL_law_1134 (by decide) ?_
        obtain ⟨r168, e169, h⟩ := x_bind h
        refine x_cV (As := [.int (6 : Int32)]) (wc := (WLR G a ar al af ax ad aq S)) (w1 := (WLR G a ar al af ax ad aq S)) (pre := (WArr G a_row 38 row_c)) (post := (WArr G a_strains 6 strains_c)) (rest := []) (st1 := [.int r168]) (ws1 := ((WArr G a_row 38 row_c) ++ ((WLR G a ar al af ax ad aq S) ++ (WArr G a_strains 6 strains_c)))) (ci := 4) 0 dL_law_1136 (c_LR_count (a := a) e169) pk_X6_count ml_L_62 (by simp only [List.append_assoc, List.append_nil, List.nil_append]) rfl rfl rfl rfl rfl rfl rfl rfl (by simp only [List.append_assoc, List.append_nil, List.nil_append]) ?_
        refine x_iload dL_law_1139 9 rfl ?_
        refine x_icmp_ne 1164 dL_law_1141 (by decide) (fun c170 => ?_) (fun c170 => ?_)
        · have h := x_neg c170 h
          refine x_iconst 0 dL_law_1164 (by decide) ?_
          cases h
        · have h := x_pos c170 h
          refine x_aload_n dL_law_1144 1 rfl rfl ?_
          refine x_iload dL_law_1145 12 rfl ?_
          refine x_iconst 5 dL_law_1147 (by decide) ?_
          obtain ⟨r171, e172, h⟩ := x_bind h
          refine x_cV (As := [.int x13, .int (5 : Int32)]) (wc := (WLR G a ar al af ax ad aq S)) (w1 := (WLR G a ar al af ax ad aq r171.2)) (pre := (WArr G a_row 38 row_c)) (post := (WArr G a_strains 6 strains_c)) (rest := []) (st1 := [.int r171.1]) (ws1 := ((WArr G a_row 38 row_c) ++ ((WLR G a ar al af ax ad aq r171.2) ++ (WArr G a_strains 6 strains_c)))) (ci := 4) 0 dL_law_1148 (c_LR_least (a := a) e172) pk_X6_least ml_L_84 (by simp only [List.append_assoc, List.append_nil, List.nil_append]) rfl rfl rfl rfl rfl rfl rfl rfl (by simp only [List.append_assoc, List.append_nil, List.nil_append]) ?_
          refine x_if_ne 1164 dL_law_1151 (by decide) (fun c173 => ?_) (fun c173 => ?_)
          · have h := x_neg c173 h
            refine x_iconst 0 dL_law_1164 (by decide) ?_
            cases h
          · have h := x_pos c173 h
            refine x_lv [0, 1, 2, 3, 4, 5, 6, 7, 8, 9, 10, 11, 12] rfl ?_
            exact w_L_law_b1154  _ _ _ _ _ _ _ _ _ _ _ _ h
    · have h := x_neg c166 h
      refine x_aload_n dL_law_1020 1 rfl rfl ?_
      refine x_iconst 5 dL_law_1021 (by decide) ?_
      refine x_iload dL_law_1022 14 rfl ?_
      obtain ⟨r174, e175, h⟩ := x_bind h
      refine x_cV (As := [.int (5 : Int32), .int x15]) (wc := (WLR G a ar al af ax ad aq S)) (w1 := (WLR G a ar al af ax ad aq r174.2)) (pre := (WArr G a_row 38 row_c)) (post := (WArr G a_strains 6 strains_c)) (rest := []) (st1 := [.int r174.1]) (ws1 := ((WArr G a_row 38 row_c) ++ ((WLR G a ar al af ax ad aq r174.2) ++ (WArr G a_strains 6 strains_c)))) (ci := 4) 0 dL_law_1024 (c_LR_at (a := a) e175) pk_X6_at ml_L_87 (by simp only [List.append_assoc, List.append_nil, List.nil_append]) rfl rfl rfl rfl rfl rfl rfl rfl (by simp only [List.append_assoc, List.append_nil, List.nil_append]) ?_
      refine x_istore [(16, .int r174.1), (0, .ref sb), (1, .ref (a 0)), (2, .ref (a_row 0)), (3, .int x3), (4, .int x4), (5, .int x5), (6, .int x6), (7, .int x7), (8, .int x8), (9, .int x9), (10, .int x10), (11, .ref (a_strains 0)), (13, .int x13), (14, .int x14), (15, .int x15)] dL_law_1027 (by decide) rfl ?_
      refine x_aload_n dL_law_1029 2 rfl rfl ?_
      obtain ⟨r176, e177, h⟩ := x_bind h
      refine x_cV (As := []) (wc := (WLR G a ar al af ax ad aq r174.2)) (w1 := (WLR G a ar al af ax ad aq r174.2)) (pre := (WArr G a_row 38 row_c)) (post := (WArr G a_strains 6 strains_c)) (rest := []) (st1 := [.int r176]) (ws1 := ((WArr G a_row 38 row_c) ++ ((WLR G a ar al af ax ad aq r174.2) ++ (WArr G a_strains 6 strains_c)))) (ci := 4) 0 dL_law_1030 (c_LR_asked (a := a) e177) pk_X6_asked ml_L_42 (by simp only [List.append_assoc, List.append_nil, List.nil_append]) rfl rfl rfl rfl rfl rfl rfl rfl (by simp only [List.append_assoc, List.append_nil, List.nil_append]) ?_
      refine x_istore [(17, .int r176), (16, .int r174.1), (0, .ref sb), (1, .ref (a 0)), (2, .ref (a_row 0)), (3, .int x3), (4, .int x4), (5, .int x5), (6, .int x6), (7, .int x7), (8, .int x8), (9, .int x9), (10, .int x10), (11, .ref (a_strains 0)), (13, .int x13), (14, .int x14), (15, .int x15)] dL_law_1033 (by decide) rfl ?_
      refine x_iload dL_law_1035 1 rfl ?_
      refine x_iconst 1 dL_law_1037 (by decide) ?_
      refine x_icmp_ne 1120 dL_law_1038 (by decide) (fun c178 => ?_) (fun c178 => ?_)
      · have h := x_neg c178 h
        refine x_iconst 0 dL_law_1120 (by decide) ?_
        cases h
      · have h := x_pos c178 h
        refine x_iload dL_law_1041 0 rfl ?_
        refine x_if_lt 1120 dL_law_1043 (by decide) (fun c179 => ?_) (fun c179 => ?_)
        · have h := x_pos c179 h
          refine x_iconst 0 dL_law_1120 (by decide) ?_
          cases h
        · have h := x_neg c179 h
          refine x_iload dL_law_1046 0 rfl ?_
          refine x_bipush 11 dL_law_1048 (by decide) ?_
          refine x_icmp_gt 1120 dL_law_1050 (by decide) (fun c180 => ?_) (fun c180 => ?_)
          · have h := x_pos c180 h
            refine x_iconst 0 dL_law_1120 (by decide) ?_
            cases h
          · have h := x_neg c180 h
            refine x_iload dL_law_1053 0 rfl ?_
            refine x_bipush 6 dL_law_1055 (by decide) ?_
            refine x_irem dL_law_1057 (by decide) ?_
            refine x_iload_n dL_law_1058 5 rfl rfl ?_
            refine x_icmp_ge 1120 dL_law_1059 (by decide) (fun c181 => ?_) (fun c181 => ?_)
            · have h := x_pos c181 h
              refine x_iconst 0 dL_law_1120 (by decide) ?_
              cases h
            · have h := x_neg c181 h
              refine x_iload dL_law_1062 0 rfl ?_
              refine x_bipush 6 dL_law_1064 (by decide) ?_
              refine x_icmp_ge 1082 dL_law_1066 (by decide) (fun c182 => ?_) (fun c182 => ?_)
              · have h := x_pos c182 h
                refine x_aload_n dL_law_1082 3 rfl rfl ?_
                refine x_iload dL_law_1083 0 rfl ?_
                refine x_bipush 6 dL_law_1085 (by decide) ?_
                refine x_isub dL_law_1087 ?_
                obtain ⟨r183, e184, h⟩ := x_bind h
                refine x_cV (As := [.int (r176 - (6 : Int32))]) (wc := (WLR G a ar al af ax ad aq r174.2)) (w1 := (WLR G a ar al af ax ad aq r183.2)) (pre := (WArr G a_row 38 row_c)) (post := (WArr G a_strains 6 strains_c)) (rest := []) (st1 := [.int r183.1]) (ws1 := ((WArr G a_row 38 row_c) ++ ((WLR G a ar al af ax ad aq r183.2) ++ (WArr G a_strains 6 strains_c)))) (ci := 4) 0 dL_law_1088 (c_LR_slack (a := a) e184) pk_X6_slack ml_L_90 (by simp only [List.append_assoc, List.append_nil, List.nil_append]) rfl rfl rfl rfl rfl rfl rfl rfl (by simp only [List.append_assoc, List.append_nil, List.nil_append]) ?_
                refine x_if_lt 1120 dL_law_1091 (by decide) (fun c185 => ?_) (fun c185 => ?_)
                · have h := x_pos c185 h
                  refine x_iconst 0 dL_law_1120 (by decide) ?_
                  cases h
                · have h := x_neg c185 h
                  refine x_lv [2, 3, 4, 5, 6, 7, 8, 9, 10, 11, 12, 13, 14, 15, 16] rfl ?_
                  exact w_L_law_b1094 (fun row_c' S' strains_c' x3' x4' x5' x6' x7' x8' x9' x10' x13' x14' x15' h => ih row_c' S' strains_c' x3' x4' x5' x6' x7' x8' x9' x10' x13' x14' x15' h) _ _ _ _ _ _ _ _ _ _ _ _ _ _ h
              · have h := x_neg c182 h
                refine x_aload_n dL_law_1069 3 rfl rfl ?_
                refine x_iload dL_law_1070 0 rfl ?_
                refine x_iconst 1 dL_law_1072 (by decide) ?_
                obtain ⟨r186, e187, h⟩ := x_bind h
                refine x_cV (As := [.int r176, .int (1 : Int32)]) (wc := (WLR G a ar al af ax ad aq r174.2)) (w1 := (WLR G a ar al af ax ad aq r186.2)) (pre := (WArr G a_row 38 row_c)) (post := (WArr G a_strains 6 strains_c)) (rest := []) (st1 := [.int r186.1]) (ws1 := ((WArr G a_row 38 row_c) ++ ((WLR G a ar al af ax ad aq r186.2) ++ (WArr G a_strains 6 strains_c)))) (ci := 4) 0 dL_law_1073 (c_LR_haul (a := a) e187) pk_X6_haul ml_L_75 (by simp only [List.append_assoc, List.append_nil, List.nil_append]) rfl rfl rfl rfl rfl rfl rfl rfl (by simp only [List.append_assoc, List.append_nil, List.nil_append]) ?_
                refine x_if_eq 1094 dL_law_1076 (by decide) (fun c188 => ?_) (fun c188 => ?_)
                · have h := x_pos c188 h
                  refine x_lv [2, 3, 4, 5, 6, 7, 8, 9, 10, 11, 12, 13, 14, 15, 16] rfl ?_
                  exact w_L_law_b1094 (fun row_c' S' strains_c' x3' x4' x5' x6' x7' x8' x9' x10' x13' x14' x15' h => ih row_c' S' strains_c' x3' x4' x5' x6' x7' x8' x9' x10' x13' x14' x15' h) _ _ _ _ _ _ _ _ _ _ _ _ _ _ h
                · have h := x_neg c188 h
                  refine x_goto 1120 dL_law_1079 (by decide) ?_
                  refine x_iconst 0 dL_law_1120 (by decide) ?_
                  cases h
def M_L_law_b1005 (xs : Nat → Int32) (L : Nat) (row_c : (Nat → Int32)) (S : x_S) (strains_c : (Nat → Int32)) (x3 : Int32) (x4 : Int32) (x5 : Int32) (x6 : Int32) (x7 : Int32) (x8 : Int32) (x9 : Int32) (x10 : Int32) (x13 : Int32) (x14 : Int32) (s0 : Int32) (s1 : Int32) : Option (Unit) :=
  if s0 = s1 then
  (M_L_law_b1013 xs L x_fuel row_c S strains_c x3 x4 x5 x6 x7 x8 x9 x10 x13 x14 (0 : Int32))
  else
  (none)
set_option maxHeartbeats 4000000 in
set_option maxRecDepth 100000 in
theorem w_L_law_b1005 {sb : Nat} {xs : Nat → Int32} {G : x_G} {l : Launch} {a : Nat → Nat} {ar : Nat → Nat} {al : Nat → Nat} {af : Nat → Nat} {ax : Nat → Nat} {ad : Nat → Nat} {aq : Nat → Nat} {a_row : Nat → Nat} {a_strains : Nat → Nat} {L : Nat} {res : Unit} (row_c : (Nat → Int32)) (S : x_S) (strains_c : (Nat → Int32)) (x3 : Int32) (x4 : Int32) (x5 : Int32) (x6 : Int32) (x7 : Int32) (x8 : Int32) (x9 : Int32) (x10 : Int32) (x13 : Int32) (x14 : Int32) (s0 : Int32) (s1 : Int32) (h : M_L_law_b1005 xs L row_c S strains_c x3 x4 x5 x6 x7 x8 x9 x10 x13 x14 s0 s1 = some res) : X G l RL cL_law 38 room_1 (x_CL sb L xs) 42 883 1005 [(0, .ref sb), (1, .ref (a 0)), (2, .ref (a_row 0)), (3, .int x3), (4, .int x4), (5, .int x5), (6, .int x6), (7, .int x7), (8, .int x8), (9, .int x9), (10, .int x10), (11, .ref (a_strains 0)), (13, .int x13), (14, .int x14)] [.int s1, .int s0] ((WArr G a_row 38 row_c) ++ ((WLR G a ar al af ax ad aq S) ++ (WArr G a_strains 6 strains_c))) := by
  unfold M_L_law_b1005 at h
  refine x_icmp_eq 1010 dL_law_1005 (by decide) (fun c165 => ?_) (fun c165 => ?_)
  · have h := x_pos c165 h
    refine x_iconst 0 dL_law_1010 (by decide) ?_
    refine x_istore [(15, .int (0 : Int32)), (0, .ref sb), (1, .ref (a 0)), (2, .ref (a_row 0)), (3, .int x3), (4, .int x4), (5, .int x5), (6, .int x6), (7, .int x7), (8, .int x8), (9, .int x9), (10, .int x10), (11, .ref (a_strains 0)), (13, .int x13), (14, .int x14)] dL_law_1011 (by decide) rfl ?_
    refine x_lv [1, 2, 3, 4, 5, 6, 7, 8, 9, 10, 11, 12, 13, 14, 0] rfl ?_
    exact w_L_law_b1013  _ _ _ _ _ _ _ _ _ _ _ _ _ _ _ h
  · have h := x_neg c165 h
    refine x_iconst 0 dL_law_1008 (by decide) ?_
    cases h
def M_L_law_b989 (xs : Nat → Int32) (L : Nat) (row_c : (Nat → Int32)) (S : x_S) (strains_c : (Nat → Int32)) (x3 : Int32) (x4 : Int32) (x5 : Int32) (x6 : Int32) (x7 : Int32) (x8 : Int32) (x9 : Int32) (x10 : Int32) (x13 : Int32) (x14 : Int32) (s0 : Int32) : Option (Unit) :=
  if ((x10 >>> (x13 &&& (31 : Int32))) &&& (1 : Int32)) = (1 : Int32) then
  (M_L_law_b1005 xs L row_c S strains_c x3 x4 x5 x6 x7 x8 x9 x10 x13 x14 s0 (1 : Int32))
  else
  (M_L_law_b1005 xs L row_c S strains_c x3 x4 x5 x6 x7 x8 x9 x10 x13 x14 s0 (0 : Int32))
set_option maxHeartbeats 4000000 in
set_option maxRecDepth 100000 in
theorem w_L_law_b989 {sb : Nat} {xs : Nat → Int32} {G : x_G} {l : Launch} {a : Nat → Nat} {ar : Nat → Nat} {al : Nat → Nat} {af : Nat → Nat} {ax : Nat → Nat} {ad : Nat → Nat} {aq : Nat → Nat} {a_row : Nat → Nat} {a_strains : Nat → Nat} {L : Nat} {res : Unit} (row_c : (Nat → Int32)) (S : x_S) (strains_c : (Nat → Int32)) (x3 : Int32) (x4 : Int32) (x5 : Int32) (x6 : Int32) (x7 : Int32) (x8 : Int32) (x9 : Int32) (x10 : Int32) (x13 : Int32) (x14 : Int32) (s0 : Int32) (h : M_L_law_b989 xs L row_c S strains_c x3 x4 x5 x6 x7 x8 x9 x10 x13 x14 s0 = some res) : X G l RL cL_law 38 room_1 (x_CL sb L xs) 42 883 989 [(0, .ref sb), (1, .ref (a 0)), (2, .ref (a_row 0)), (3, .int x3), (4, .int x4), (5, .int x5), (6, .int x6), (7, .int x7), (8, .int x8), (9, .int x9), (10, .int x10), (11, .ref (a_strains 0)), (13, .int x13), (14, .int x14)] [.int s0] ((WArr G a_row 38 row_c) ++ ((WLR G a ar al af ax ad aq S) ++ (WArr G a_strains 6 strains_c))) := by
  unfold M_L_law_b989 at h
  refine x_iload dL_law_989 10 rfl ?_
  refine x_iload dL_law_991 12 rfl ?_
  refine x_ishr dL_law_993 ?_
  refine x_iconst 1 dL_law_994 (by decide) ?_
  refine x_iand dL_law_995 ?_
  refine x_iconst 1 dL_law_996 (by decide) ?_
  refine x_icmp_ne 1004 dL_law_997 (by decide) (fun c164 => ?_) (fun c164 => ?_)
  · have h := x_neg c164 h
    refine x_iconst 0 dL_law_1004 (by decide) ?_
    exact w_L_law_b1005  _ _ _ _ _ _ _ _ _ _ _ _ _ _ _ h
  · have h := x_pos c164 h
    refine x_iconst 1 dL_law_1000 (by decide) ?_
    refine x_goto 1005 dL_law_1001 (by decide) ?_
    exact w_L_law_b1005  _ _ _ _ _ _ _ _ _ _ _ _ _ _ _ h
def M_L_law_b979 (xs : Nat → Int32) (L : Nat) (row_c : (Nat → Int32)) (S : x_S) (strains_c : (Nat → Int32)) (x3 : Int32) (x4 : Int32) (x5 : Int32) (x6 : Int32) (x7 : Int32) (x8 : Int32) (x9 : Int32) (x10 : Int32) (x13 : Int32) (x14 : Int32) : Option (Unit) :=
  if x14 = 0 then
  (M_L_law_b989 xs L row_c S strains_c x3 x4 x5 x6 x7 x8 x9 x10 x13 x14 (1 : Int32))
  else
  (M_L_law_b989 xs L row_c S strains_c x3 x4 x5 x6 x7 x8 x9 x10 x13 x14 (0 : Int32))
set_option maxHeartbeats 4000000 in
set_option maxRecDepth 100000 in
theorem w_L_law_b979 {sb : Nat} {xs : Nat → Int32} {G : x_G} {l : Launch} {a : Nat → Nat} {ar : Nat → Nat} {al : Nat → Nat} {af : Nat → Nat} {ax : Nat → Nat} {ad : Nat → Nat} {aq : Nat → Nat} {a_row : Nat → Nat} {a_strains : Nat → Nat} {L : Nat} {res : Unit} (row_c : (Nat → Int32)) (S : x_S) (strains_c : (Nat → Int32)) (x3 : Int32) (x4 : Int32) (x5 : Int32) (x6 : Int32) (x7 : Int32) (x8 : Int32) (x9 : Int32) (x10 : Int32) (x13 : Int32) (x14 : Int32) (h : M_L_law_b979 xs L row_c S strains_c x3 x4 x5 x6 x7 x8 x9 x10 x13 x14 = some res) : X G l RL cL_law 38 room_1 (x_CL sb L xs) 42 883 979 [(0, .ref sb), (1, .ref (a 0)), (2, .ref (a_row 0)), (3, .int x3), (4, .int x4), (5, .int x5), (6, .int x6), (7, .int x7), (8, .int x8), (9, .int x9), (10, .int x10), (11, .ref (a_strains 0)), (13, .int x13), (14, .int x14)] [] ((WArr G a_row 38 row_c) ++ ((WLR G a ar al af ax ad aq S) ++ (WArr G a_strains 6 strains_c))) := by
  unfold M_L_law_b979 at h
  refine x_iload dL_law_979 13 rfl ?_
  refine x_if_ne 988 dL_law_981 (by decide) (fun c163 => ?_) (fun c163 => ?_)
  · have h := x_neg c163 h
    refine x_iconst 0 dL_law_988 (by decide) ?_
    exact w_L_law_b989  _ _ _ _ _ _ _ _ _ _ _ _ _ _ h
  · have h := x_pos c163 h
    refine x_iconst 1 dL_law_984 (by decide) ?_
    refine x_goto 989 dL_law_985 (by decide) ?_
    exact w_L_law_b989  _ _ _ _ _ _ _ _ _ _ _ _ _ _ h
def M_L_law_b438 (xs : Nat → Int32) (L : Nat) : Nat → (Nat → Int32) → x_S → (Nat → Int32) → Int32 → Int32 → Int32 → Int32 → Int32 → Int32 → Int32 → Int32 → Int32 → Option (Unit)
  | 0, _, _, _, _, _, _, _, _, _, _, _, _ => none
  | n + 1, row_c, S, strains_c, x3, x4, x5, x6, x7, x8, x9, x10, x13 =>
    if x3 ≤ x13 then
    ((M_L_cell xs L (14 : Int32)).bind fun r73 =>
    (M_L_up r73 x4).bind fun r75 =>
    (M_LR_least S r75 (5 : Int32)).bind fun r77 =>
    if r77.1 < (-9 : Int32) then
    (none)
    else
    (if (4 : Int32) < r77.1 then
    (none)
    else
    (if 0 ≤ r77.1 then
    (M_L_law_b979 xs L row_c r77.2 strains_c x3 x4 x5 x6 x7 x8 x9 x10 r75 r77.1)
    else
    (if r77.1 = (-9 : Int32) then
    (M_L_law_b979 xs L row_c r77.2 strains_c x3 x4 x5 x6 x7 x8 x9 x10 r75 r77.1)
    else
    (none)))))
    else
    (if (((x8 ||| x9) >>> (x13 &&& (31 : Int32))) &&& (1 : Int32)) = 0 then
    (M_L_law_b462 xs L (fun (row_c' : (Nat → Int32)) (S' : x_S) (strains_c' : (Nat → Int32)) (x3' : Int32) (x4' : Int32) (x5' : Int32) (x6' : Int32) (x7' : Int32) (x8' : Int32) (x9' : Int32) (x10' : Int32) (x13' : Int32) => M_L_law_b438 xs L n row_c' S' strains_c' x3' x4' x5' x6' x7' x8' x9' x10' x13') row_c S strains_c x3 x4 x5 x6 x7 x8 x9 x10 x13 (1 : Int32))
    else
    (M_L_law_b462 xs L (fun (row_c' : (Nat → Int32)) (S' : x_S) (strains_c' : (Nat → Int32)) (x3' : Int32) (x4' : Int32) (x5' : Int32) (x6' : Int32) (x7' : Int32) (x8' : Int32) (x9' : Int32) (x10' : Int32) (x13' : Int32) => M_L_law_b438 xs L n row_c' S' strains_c' x3' x4' x5' x6' x7' x8' x9' x10' x13') row_c S strains_c x3 x4 x5 x6 x7 x8 x9 x10 x13 (0 : Int32)))
set_option maxHeartbeats 4000000 in
set_option maxRecDepth 100000 in
theorem w_L_law_b438 {sb : Nat} {xs : Nat → Int32} {G : x_G} {l : Launch} {a : Nat → Nat} {ar : Nat → Nat} {al : Nat → Nat} {af : Nat → Nat} {ax : Nat → Nat} {ad : Nat → Nat} {aq : Nat → Nat} {a_row : Nat → Nat} {a_strains : Nat → Nat} {L : Nat} {res : Unit} : ∀ (n : Nat) (row_c : (Nat → Int32)) (S : x_S) (strains_c : (Nat → Int32)) (x3 : Int32) (x4 : Int32) (x5 : Int32) (x6 : Int32) (x7 : Int32) (x8 : Int32) (x9 : Int32) (x10 : Int32) (x13 : Int32), M_L_law_b438 xs L n row_c S strains_c x3 x4 x5 x6 x7 x8 x9 x10 x13 = some res → X G l RL cL_law 38 room_1 (x_CL sb L xs) 42 883 438 [(0, .ref sb), (1, .ref (a 0)), (2, .ref (a_row 0)), (3, .int x3), (4, .int x4), (5, .int x5), (6, .int x6), (7, .int x7), (8, .int x8), (9, .int x9), (10, .int x10), (11, .ref (a_strains 0)), (13, .int x13)] [] ((WArr G a_row 38 row_c) ++ ((WLR G a ar al af ax ad aq S) ++ (WArr G a_strains 6 strains_c))) := by
  intro n
  induction n with
  | zero =>
    intro _ _ _ _ _ _ _ _ _ _ _ _ h
    cases h
  | succ n ih =>
    intro row_c S strains_c x3 x4 x5 x6 x7 x8 x9 x10 x13 h
    rw [M_L_law_b438] at h
    refine x_iload dL_law_438 12 rfl ?_
    refine x_iload_n dL_law_440 3 rfl rfl ?_
    refine x_icmp_ge 932 dL_law_441 (by decide) (fun c72 => ?_) (fun c72 => ?_)
    · have h := x_pos c72 h
      refine x_aload_n dL_law_932 0 rfl rfl ?_
      refine x_bipush 14 dL_law_933 (by decide) ?_
      obtain ⟨r73, e74, h⟩ := x_bind h
      refine x_cSs (As := [.ref sb, .int (14 : Int32)]) (wc := ([] : va_W)) (w1 := ([] : va_W)) (pre := []) (post := ((WArr G a_row 38 row_c) ++ ((WLR G a ar al af ax ad aq S) ++ (WArr G a_strains 6 strains_c)))) (rest := []) (st1 := [.int r73]) (ws1 := ((WArr G a_row 38 row_c) ++ ((WLR G a ar al af ax ad aq S) ++ (WArr G a_strains 6 strains_c)))) x_sc_CL dL_law_935 (c_L_cell e74) pk_L_cell ml_L_9 rfl rfl rfl rfl rfl rfl rfl ?_
      refine x_iload dL_law_938 4 rfl ?_
      obtain ⟨r75, e76, h⟩ := x_bind h
      refine x_cS (As := [.int r73, .int x4]) (wc := ([] : va_W)) (w1 := ([] : va_W)) (pre := []) (post := ((WArr G a_row 38 row_c) ++ ((WLR G a ar al af ax ad aq S) ++ (WArr G a_strains 6 strains_c)))) (rest := []) (st1 := [.int r75]) (ws1 := ((WArr G a_row 38 row_c) ++ ((WLR G a ar al af ax ad aq S) ++ (WArr G a_strains 6 strains_c)))) dL_law_940 (c_L_up e76) pk_L_up ml_L_15 rfl rfl rfl rfl rfl rfl rfl ?_
      refine x_istore [(13, .int r75), (0, .ref sb), (1, .ref (a 0)), (2, .ref (a_row 0)), (3, .int x3), (4, .int x4), (5, .int x5), (6, .int x6), (7, .int x7), (8, .int x8), (9, .int x9), (10, .int x10), (11, .ref (a_strains 0))] dL_law_943 (by decide) rfl ?_
      refine x_aload_n dL_law_945 2 rfl rfl ?_
      refine x_iload dL_law_946 0 rfl ?_
      refine x_iconst 5 dL_law_948 (by decide) ?_
      obtain ⟨r77, e78, h⟩ := x_bind h
      refine x_cV (As := [.int r75, .int (5 : Int32)]) (wc := (WLR G a ar al af ax ad aq S)) (w1 := (WLR G a ar al af ax ad aq r77.2)) (pre := (WArr G a_row 38 row_c)) (post := (WArr G a_strains 6 strains_c)) (rest := []) (st1 := [.int r77.1]) (ws1 := ((WArr G a_row 38 row_c) ++ ((WLR G a ar al af ax ad aq r77.2) ++ (WArr G a_strains 6 strains_c)))) (ci := 4) 0 dL_law_949 (c_LR_least (a := a) e78) pk_X6_least ml_L_84 (by simp only [List.append_assoc, List.append_nil, List.nil_append]) rfl rfl rfl rfl rfl rfl rfl rfl (by simp only [List.append_assoc, List.append_nil, List.nil_append]) ?_
      refine x_istore [(14, .int r77.1), (13, .int r75), (0, .ref sb), (1, .ref (a 0)), (2, .ref (a_row 0)), (3, .int x3), (4, .int x4), (5, .int x5), (6, .int x6), (7, .int x7), (8, .int x8), (9, .int x9), (10, .int x10), (11, .ref (a_strains 0))] dL_law_952 (by decide) rfl ?_
      refine x_iload dL_law_954 0 rfl ?_
      refine x_bipush (-9 : Int32) dL_law_956 (by decide) ?_
      refine x_icmp_lt 1008 dL_law_958 (by decide) (fun c79 => ?_) (fun c79 => ?_)
      · have h := x_pos c79 h
        refine x_iconst 0 dL_law_1008 (by decide) ?_
        cases h
      · have h := x_neg c79 h
        refine x_iload dL_law_961 0 rfl ?_
        refine x_iconst 4 dL_law_963 (by decide) ?_
        refine x_icmp_gt 1008 dL_law_964 (by decide) (fun c80 => ?_) (fun c80 => ?_)
        · have h := x_pos c80 h
          refine x_iconst 0 dL_law_1008 (by decide) ?_
          cases h
        · have h := x_neg c80 h
          refine x_iload dL_law_967 0 rfl ?_
          refine x_if_ge 979 dL_law_969 (by decide) (fun c81 => ?_) (fun c81 => ?_)
          · have h := x_pos c81 h
            refine x_lv [2, 3, 4, 5, 6, 7, 8, 9, 10, 11, 12, 13, 1, 0] rfl ?_
            exact w_L_law_b979  _ _ _ _ _ _ _ _ _ _ _ _ _ h
          · have h := x_neg c81 h
            refine x_iload dL_law_972 0 rfl ?_
            refine x_bipush (-9 : Int32) dL_law_974 (by decide) ?_
            refine x_icmp_ne 1008 dL_law_976 (by decide) (fun c82 => ?_) (fun c82 => ?_)
            · have h := x_neg c82 h
              refine x_iconst 0 dL_law_1008 (by decide) ?_
              cases h
            · have h := x_pos c82 h
              refine x_lv [2, 3, 4, 5, 6, 7, 8, 9, 10, 11, 12, 13, 1, 0] rfl ?_
              exact w_L_law_b979  _ _ _ _ _ _ _ _ _ _ _ _ _ h
    · have h := x_neg c72 h
      refine x_iload dL_law_444 8 rfl ?_
      refine x_iload dL_law_446 9 rfl ?_
      refine x_ior dL_law_448 ?_
      refine x_iload dL_law_449 12 rfl ?_
      refine x_ishr dL_law_451 ?_
      refine x_iconst 1 dL_law_452 (by decide) ?_
      refine x_iand dL_law_453 ?_
      refine x_if_ne 461 dL_law_454 (by decide) (fun c83 => ?_) (fun c83 => ?_)
      · have h := x_neg c83 h
        refine x_iconst 0 dL_law_461 (by decide) ?_
        exact w_L_law_b462 (fun row_c' S' strains_c' x3' x4' x5' x6' x7' x8' x9' x10' x13' h => ih row_c' S' strains_c' x3' x4' x5' x6' x7' x8' x9' x10' x13' h) _ _ _ _ _ _ _ _ _ _ _ _ _ h
      · have h := x_pos c83 h
        refine x_iconst 1 dL_law_457 (by decide) ?_
        refine x_goto 462 dL_law_458 (by decide) ?_
        exact w_L_law_b462 (fun row_c' S' strains_c' x3' x4' x5' x6' x7' x8' x9' x10' x13' h => ih row_c' S' strains_c' x3' x4' x5' x6' x7' x8' x9' x10' x13' h) _ _ _ _ _ _ _ _ _ _ _ _ _ h
def M_L_law_b346 (xs : Nat → Int32) (L : Nat) : Nat → (Nat → Int32) → x_S → (Nat → Int32) → Int32 → Int32 → Int32 → Int32 → Int32 → Int32 → Int32 → Int32 → Int32 → Option (Unit)
  | 0, _, _, _, _, _, _, _, _, _, _, _, _ => none
  | n + 1, row_c, S, strains_c, x3, x4, x5, x6, x7, x8, x9, x10, x13 =>
    if x4 ≤ x13 then
    (M_L_law_b438 xs L x_fuel row_c S strains_c x3 x4 x5 x6 x7 x8 x9 x10 (0 : Int32))
    else
    (if inb ((27 : Int32) + x13) 38 then
    if ((x7 &&& (row_c ((27 : Int32) + x13).toNatClampNeg)) &&& (((1 : Int32) <<< (x3 &&& (31 : Int32))) - (1 : Int32))) = ((row_c ((27 : Int32) + x13).toNatClampNeg) &&& (((1 : Int32) <<< (x3 &&& (31 : Int32))) - (1 : Int32))) then
    (if inb ((31 : Int32) + x13) 38 then
    if (x7 &&& (row_c ((31 : Int32) + x13).toNatClampNeg)) = 0 then
    (M_L_law_b404 xs L (fun (row_c' : (Nat → Int32)) (S' : x_S) (strains_c' : (Nat → Int32)) (x3' : Int32) (x4' : Int32) (x5' : Int32) (x6' : Int32) (x7' : Int32) (x8' : Int32) (x9' : Int32) (x10' : Int32) (x13' : Int32) => M_L_law_b346 xs L n row_c' S' strains_c' x3' x4' x5' x6' x7' x8' x9' x10' x13') row_c S strains_c x3 x4 x5 x6 x7 x8 x9 x10 x13 (1 : Int32))
    else
    (M_L_law_b403 xs L (fun (row_c' : (Nat → Int32)) (S' : x_S) (strains_c' : (Nat → Int32)) (x3' : Int32) (x4' : Int32) (x5' : Int32) (x6' : Int32) (x7' : Int32) (x8' : Int32) (x9' : Int32) (x10' : Int32) (x13' : Int32) => M_L_law_b346 xs L n row_c' S' strains_c' x3' x4' x5' x6' x7' x8' x9' x10' x13') row_c S strains_c x3 x4 x5 x6 x7 x8 x9 x10 x13)
    else none)
    else
    (M_L_law_b403 xs L (fun (row_c' : (Nat → Int32)) (S' : x_S) (strains_c' : (Nat → Int32)) (x3' : Int32) (x4' : Int32) (x5' : Int32) (x6' : Int32) (x7' : Int32) (x8' : Int32) (x9' : Int32) (x10' : Int32) (x13' : Int32) => M_L_law_b346 xs L n row_c' S' strains_c' x3' x4' x5' x6' x7' x8' x9' x10' x13') row_c S strains_c x3 x4 x5 x6 x7 x8 x9 x10 x13)
    else none)
set_option maxHeartbeats 4000000 in
set_option maxRecDepth 100000 in
theorem w_L_law_b346 {sb : Nat} {xs : Nat → Int32} {G : x_G} {l : Launch} {a : Nat → Nat} {ar : Nat → Nat} {al : Nat → Nat} {af : Nat → Nat} {ax : Nat → Nat} {ad : Nat → Nat} {aq : Nat → Nat} {a_row : Nat → Nat} {a_strains : Nat → Nat} {L : Nat} {res : Unit} : ∀ (n : Nat) (row_c : (Nat → Int32)) (S : x_S) (strains_c : (Nat → Int32)) (x3 : Int32) (x4 : Int32) (x5 : Int32) (x6 : Int32) (x7 : Int32) (x8 : Int32) (x9 : Int32) (x10 : Int32) (x13 : Int32), M_L_law_b346 xs L n row_c S strains_c x3 x4 x5 x6 x7 x8 x9 x10 x13 = some res → X G l RL cL_law 38 room_1 (x_CL sb L xs) 42 883 346 [(0, .ref sb), (1, .ref (a 0)), (2, .ref (a_row 0)), (3, .int x3), (4, .int x4), (5, .int x5), (6, .int x6), (7, .int x7), (8, .int x8), (9, .int x9), (10, .int x10), (11, .ref (a_strains 0)), (13, .int x13)] [] ((WArr G a_row 38 row_c) ++ ((WLR G a ar al af ax ad aq S) ++ (WArr G a_strains 6 strains_c))) := by
  intro n
  induction n with
  | zero =>
    intro _ _ _ _ _ _ _ _ _ _ _ _ h
    cases h
  | succ n ih =>
    intro row_c S strains_c x3 x4 x5 x6 x7 x8 x9 x10 x13 h
    rw [M_L_law_b346] at h
    refine x_iload dL_law_346 12 rfl ?_
    refine x_iload dL_law_348 4 rfl ?_
    refine x_icmp_ge 435 dL_law_350 (by decide) (fun c65 => ?_) (fun c65 => ?_)
    · have h := x_pos c65 h
      refine x_iconst 0 dL_law_435 (by decide) ?_
      refine x_istore [(13, .int (0 : Int32)), (0, .ref sb), (1, .ref (a 0)), (2, .ref (a_row 0)), (3, .int x3), (4, .int x4), (5, .int x5), (6, .int x6), (7, .int x7), (8, .int x8), (9, .int x9), (10, .int x10), (11, .ref (a_strains 0))] dL_law_436 (by decide) rfl ?_
      refine x_lv [1, 2, 3, 4, 5, 6, 7, 8, 9, 10, 11, 12, 0] rfl ?_
      exact w_L_law_b438  _ _ _ _ _ _ _ _ _ _ _ _ _ h
    · have h := x_neg c65 h
      refine x_iconst 1 dL_law_353 (by decide) ?_
      refine x_iload_n dL_law_354 3 rfl rfl ?_
      refine x_ishl dL_law_355 ?_
      refine x_iconst 1 dL_law_356 (by decide) ?_
      refine x_isub dL_law_357 ?_
      refine x_istore [(14, .int (((1 : Int32) <<< (x3 &&& (31 : Int32))) - (1 : Int32))), (0, .ref sb), (1, .ref (a 0)), (2, .ref (a_row 0)), (3, .int x3), (4, .int x4), (5, .int x5), (6, .int x6), (7, .int x7), (8, .int x8), (9, .int x9), (10, .int x10), (11, .ref (a_strains 0)), (13, .int x13)] dL_law_358 (by decide) rfl ?_
      refine x_iload dL_law_360 8 rfl ?_
      refine x_aload_n dL_law_362 3 rfl rfl ?_
      refine x_bipush 27 dL_law_363 (by decide) ?_
      refine x_iload dL_law_365 13 rfl ?_
      refine x_iadd dL_law_367 ?_
      obtain ⟨b66, h⟩ := x_guard h
      refine x_iald ((27 : Int32) + x13).toNatClampNeg (q0 := 0) dL_law_368 rfl rfl b66 ?_
      refine x_iand dL_law_369 ?_
      refine x_iload dL_law_370 0 rfl ?_
      refine x_iand dL_law_372 ?_
      refine x_aload_n dL_law_373 3 rfl rfl ?_
      refine x_bipush 27 dL_law_374 (by decide) ?_
      refine x_iload dL_law_376 13 rfl ?_
      refine x_iadd dL_law_378 ?_
      refine x_iald ((27 : Int32) + x13).toNatClampNeg (q0 := 0) dL_law_379 rfl rfl b66 ?_
      refine x_iload dL_law_380 0 rfl ?_
      refine x_iand dL_law_382 ?_
      refine x_icmp_ne 403 dL_law_383 (by decide) (fun c67 => ?_) (fun c67 => ?_)
      · have h := x_neg c67 h
        refine x_lv [1, 2, 3, 4, 5, 6, 7, 8, 9, 10, 11, 12, 13] rfl ?_
        exact w_L_law_b403 (fun row_c' S' strains_c' x3' x4' x5' x6' x7' x8' x9' x10' x13' h => ih row_c' S' strains_c' x3' x4' x5' x6' x7' x8' x9' x10' x13' h) _ _ _ _ _ _ _ _ _ _ _ _ h
      · have h := x_pos c67 h
        refine x_iload dL_law_386 8 rfl ?_
        refine x_aload_n dL_law_388 3 rfl rfl ?_
        refine x_bipush 31 dL_law_389 (by decide) ?_
        refine x_iload dL_law_391 13 rfl ?_
        refine x_iadd dL_law_393 ?_
        obtain ⟨b68, h⟩ := x_guard h
        refine x_iald ((31 : Int32) + x13).toNatClampNeg (q0 := 0) dL_law_394 rfl rfl b68 ?_
        refine x_iand dL_law_395 ?_
        refine x_if_ne 403 dL_law_396 (by decide) (fun c69 => ?_) (fun c69 => ?_)
        · have h := x_neg c69 h
          refine x_lv [1, 2, 3, 4, 5, 6, 7, 8, 9, 10, 11, 12, 13] rfl ?_
          exact w_L_law_b403 (fun row_c' S' strains_c' x3' x4' x5' x6' x7' x8' x9' x10' x13' h => ih row_c' S' strains_c' x3' x4' x5' x6' x7' x8' x9' x10' x13' h) _ _ _ _ _ _ _ _ _ _ _ _ h
        · have h := x_pos c69 h
          refine x_iconst 1 dL_law_399 (by decide) ?_
          refine x_goto 404 dL_law_400 (by decide) ?_
          refine x_lv [1, 2, 3, 4, 5, 6, 7, 8, 9, 10, 11, 12, 13] rfl ?_
          exact w_L_law_b404 (fun row_c' S' strains_c' x3' x4' x5' x6' x7' x8' x9' x10' x13' h => ih row_c' S' strains_c' x3' x4' x5' x6' x7' x8' x9' x10' x13' h) _ _ _ _ _ _ _ _ _ _ _ _ _ h
def M_L_law_b139 (xs : Nat → Int32) (L : Nat) : Nat → (Nat → Int32) → x_S → (Nat → Int32) → Int32 → Int32 → Int32 → Int32 → Int32 → Int32 → Int32 → Int32 → Int32 → Int32 → Option (Unit)
  | 0, _, _, _, _, _, _, _, _, _, _, _, _, _ => none
  | n + 1, row_c, S, strains_c, x3, x4, x5, x6, x7, x8, x9, x10, x12, x13 =>
    if x3 ≤ x13 then
    ((M_LR_count S (7 : Int32)).bind fun r36 =>
    if x12 = r36 then
    (if x10 < 0 then
    (none)
    else
    (if x10 < ((1 : Int32) <<< (x4 &&& (31 : Int32))) then
    (M_L_law_b346 xs L x_fuel row_c S strains_c x3 x4 x5 x6 x7 x8 x9 x10 (0 : Int32))
    else
    (none)))
    else
    (none))
    else
    ((M_L_told S x13 (3 : Int32)).bind fun r41 =>
    if inb x13 6 then
    if (((x8 ||| x9) >>> (x13 &&& (31 : Int32))) &&& (1 : Int32)) = (1 : Int32) then
    (M_L_law_b186 xs L (fun (row_c' : (Nat → Int32)) (S' : x_S) (strains_c' : (Nat → Int32)) (x3' : Int32) (x4' : Int32) (x5' : Int32) (x6' : Int32) (x7' : Int32) (x8' : Int32) (x9' : Int32) (x10' : Int32) (x12' : Int32) (x13' : Int32) => M_L_law_b139 xs L n row_c' S' strains_c' x3' x4' x5' x6' x7' x8' x9' x10' x12' x13') row_c r41.2 (upd strains_c x13.toNatClampNeg r41.1) x3 x4 x5 x6 x7 x8 x9 x10 (x12 + ((upd strains_c x13.toNatClampNeg r41.1) x13.toNatClampNeg)) x13 (1 : Int32))
    else
    (M_L_law_b186 xs L (fun (row_c' : (Nat → Int32)) (S' : x_S) (strains_c' : (Nat → Int32)) (x3' : Int32) (x4' : Int32) (x5' : Int32) (x6' : Int32) (x7' : Int32) (x8' : Int32) (x9' : Int32) (x10' : Int32) (x12' : Int32) (x13' : Int32) => M_L_law_b139 xs L n row_c' S' strains_c' x3' x4' x5' x6' x7' x8' x9' x10' x12' x13') row_c r41.2 (upd strains_c x13.toNatClampNeg r41.1) x3 x4 x5 x6 x7 x8 x9 x10 (x12 + ((upd strains_c x13.toNatClampNeg r41.1) x13.toNatClampNeg)) x13 (0 : Int32))
    else none)
set_option maxHeartbeats 4000000 in
set_option maxRecDepth 100000 in
theorem w_L_law_b139 {sb : Nat} {xs : Nat → Int32} {G : x_G} {l : Launch} {a : Nat → Nat} {ar : Nat → Nat} {al : Nat → Nat} {af : Nat → Nat} {ax : Nat → Nat} {ad : Nat → Nat} {aq : Nat → Nat} {a_row : Nat → Nat} {a_strains : Nat → Nat} {L : Nat} {res : Unit} : ∀ (n : Nat) (row_c : (Nat → Int32)) (S : x_S) (strains_c : (Nat → Int32)) (x3 : Int32) (x4 : Int32) (x5 : Int32) (x6 : Int32) (x7 : Int32) (x8 : Int32) (x9 : Int32) (x10 : Int32) (x12 : Int32) (x13 : Int32), M_L_law_b139 xs L n row_c S strains_c x3 x4 x5 x6 x7 x8 x9 x10 x12 x13 = some res → X G l RL cL_law 38 room_1 (x_CL sb L xs) 42 883 139 [(0, .ref sb), (1, .ref (a 0)), (2, .ref (a_row 0)), (3, .int x3), (4, .int x4), (5, .int x5), (6, .int x6), (7, .int x7), (8, .int x8), (9, .int x9), (10, .int x10), (11, .ref (a_strains 0)), (12, .int x12), (13, .int x13)] [] ((WArr G a_row 38 row_c) ++ ((WLR G a ar al af ax ad aq S) ++ (WArr G a_strains 6 strains_c))) := by
  intro n
  induction n with
  | zero =>
    intro _ _ _ _ _ _ _ _ _ _ _ _ _ h
    cases h
  | succ n ih =>
    intro row_c S strains_c x3 x4 x5 x6 x7 x8 x9 x10 x12 x13 h
    rw [M_L_law_b139] at h
    refine x_iload dL_law_139 13 rfl ?_
    refine x_iload_n dL_law_141 3 rfl rfl ?_
    refine x_icmp_ge 316 dL_law_142 (by decide) (fun c35 => ?_) (fun c35 => ?_)
    · have h := x_pos c35 h
      refine x_iload dL_law_316 12 rfl ?_
      refine x_aload_n dL_law_318 1 rfl rfl ?_
      refine x_bipush 7 dL_law_319 (by decide) ?_
      obtain ⟨r36, e37, h⟩ := x_bind h
      refine x_cV (As := [.int (7 : Int32)]) (wc := (WLR G a ar al af ax ad aq S)) (w1 := (WLR G a ar al af ax ad aq S)) (pre := (WArr G a_row 38 row_c)) (post := (WArr G a_strains 6 strains_c)) (rest := [.int x12]) (st1 := [.int r36, .int x12]) (ws1 := ((WArr G a_row 38 row_c) ++ ((WLR G a ar al af ax ad aq S) ++ (WArr G a_strains 6 strains_c)))) (ci := 4) 0 dL_law_321 (c_LR_count (a := a) e37) pk_X6_count ml_L_62 (by simp only [List.append_assoc, List.append_nil, List.nil_append]) rfl rfl rfl rfl rfl rfl rfl rfl (by simp only [List.append_assoc, List.append_nil, List.nil_append]) ?_
      refine x_icmp_ne 341 dL_law_324 (by decide) (fun c38 => ?_) (fun c38 => ?_)
      · have h := x_neg c38 h
        refine x_iconst 0 dL_law_341 (by decide) ?_
        cases h
      · have h := x_pos c38 h
        refine x_iload dL_law_327 10 rfl ?_
        refine x_if_lt 341 dL_law_329 (by decide) (fun c39 => ?_) (fun c39 => ?_)
        · have h := x_pos c39 h
          refine x_iconst 0 dL_law_341 (by decide) ?_
          cases h
        · have h := x_neg c39 h
          refine x_iload dL_law_332 10 rfl ?_
          refine x_iconst 1 dL_law_334 (by decide) ?_
          refine x_iload dL_law_335 4 rfl ?_
          refine x_ishl dL_law_337 ?_
          refine x_icmp_lt 343 dL_law_338 (by decide) (fun c40 => ?_) (fun c40 => ?_)
          · have h := x_pos c40 h
            refine x_iconst 0 dL_law_343 (by decide) ?_
            refine x_istore [(13, .int (0 : Int32)), (0, .ref sb), (1, .ref (a 0)), (2, .ref (a_row 0)), (3, .int x3), (4, .int x4), (5, .int x5), (6, .int x6), (7, .int x7), (8, .int x8), (9, .int x9), (10, .int x10), (11, .ref (a_strains 0)), (12, .int x12)] dL_law_344 (by decide) rfl ?_
            refine x_lv [1, 2, 3, 4, 5, 6, 7, 8, 9, 10, 11, 12, 0] rfl ?_
            exact w_L_law_b346  _ _ _ _ _ _ _ _ _ _ _ _ _ h
          · have h := x_neg c40 h
            refine x_iconst 0 dL_law_341 (by decide) ?_
            cases h
    · have h := x_neg c35 h
      refine x_aload dL_law_145 11 rfl ?_
      refine x_iload dL_law_147 13 rfl ?_
      refine x_aload_n dL_law_149 1 rfl rfl ?_
      refine x_iload dL_law_150 13 rfl ?_
      refine x_iconst 3 dL_law_152 (by decide) ?_
      obtain ⟨r41, e42, h⟩ := x_bind h
      refine x_cS (As := [.ref (a 0), .int x13, .int (3 : Int32)]) (wc := (WLR G a ar al af ax ad aq S)) (w1 := (WLR G a ar al af ax ad aq r41.2)) (pre := (WArr G a_row 38 row_c)) (post := (WArr G a_strains 6 strains_c)) (rest := [.int x13, .ref (a_strains 0)]) (st1 := [.int r41.1, .int x13, .ref (a_strains 0)]) (ws1 := ((WArr G a_row 38 row_c) ++ ((WLR G a ar al af ax ad aq r41.2) ++ (WArr G a_strains 6 strains_c)))) dL_law_153 (c_L_told (a := a) e42) pk_L_told ml_L_68 (by simp only [List.append_assoc, List.append_nil, List.nil_append]) rfl rfl rfl rfl rfl (by simp only [List.append_assoc, List.append_nil, List.nil_append]) ?_
      obtain ⟨b43, h⟩ := x_guard h
      refine x_iast x13.toNatClampNeg (q0 := 41) ((WArr G a_row 38 row_c) ++ ((WLR G a ar al af ax ad aq r41.2) ++ (WArr G a_strains 6 ((upd strains_c x13.toNatClampNeg r41.1))))) dL_law_156 rfl rfl b43 rfl ?_
      refine x_iload dL_law_157 12 rfl ?_
      refine x_aload dL_law_159 11 rfl ?_
      refine x_iload dL_law_161 13 rfl ?_
      refine x_iald x13.toNatClampNeg (q0 := 41) dL_law_163 rfl rfl b43 ?_
      refine x_iadd dL_law_164 ?_
      refine x_istore [(12, .int (x12 + ((upd strains_c x13.toNatClampNeg r41.1) x13.toNatClampNeg))), (0, .ref sb), (1, .ref (a 0)), (2, .ref (a_row 0)), (3, .int x3), (4, .int x4), (5, .int x5), (6, .int x6), (7, .int x7), (8, .int x8), (9, .int x9), (10, .int x10), (11, .ref (a_strains 0)), (13, .int x13)] dL_law_165 (by decide) rfl ?_
      refine x_iload dL_law_167 9 rfl ?_
      refine x_iload dL_law_169 10 rfl ?_
      refine x_ior dL_law_171 ?_
      refine x_iload dL_law_172 13 rfl ?_
      refine x_ishr dL_law_174 ?_
      refine x_iconst 1 dL_law_175 (by decide) ?_
      refine x_iand dL_law_176 ?_
      refine x_iconst 1 dL_law_177 (by decide) ?_
      refine x_icmp_ne 185 dL_law_178 (by decide) (fun c44 => ?_) (fun c44 => ?_)
      · have h := x_neg c44 h
        refine x_iconst 0 dL_law_185 (by decide) ?_
        refine x_lv [1, 2, 3, 4, 5, 6, 7, 8, 9, 10, 11, 12, 0, 13] rfl ?_
        exact w_L_law_b186 (fun row_c' S' strains_c' x3' x4' x5' x6' x7' x8' x9' x10' x12' x13' h => ih row_c' S' strains_c' x3' x4' x5' x6' x7' x8' x9' x10' x12' x13' h) _ _ _ _ _ _ _ _ _ _ _ _ _ _ h
      · have h := x_pos c44 h
        refine x_iconst 1 dL_law_181 (by decide) ?_
        refine x_goto 186 dL_law_182 (by decide) ?_
        refine x_lv [1, 2, 3, 4, 5, 6, 7, 8, 9, 10, 11, 12, 0, 13] rfl ?_
        exact w_L_law_b186 (fun row_c' S' strains_c' x3' x4' x5' x6' x7' x8' x9' x10' x12' x13' h => ih row_c' S' strains_c' x3' x4' x5' x6' x7' x8' x9' x10' x12' x13' h) _ _ _ _ _ _ _ _ _ _ _ _ _ _ h
def M_L_law_b133 (xs : Nat → Int32) (L : Nat) (row_c : (Nat → Int32)) (S : x_S) (strains_c : (Nat → Int32)) (x3 : Int32) (x4 : Int32) (x5 : Int32) (x6 : Int32) (x7 : Int32) (x8 : Int32) (x9 : Int32) (x10 : Int32) : Option (Unit) :=
  M_L_law_b139 xs L x_fuel row_c S strains_c x3 x4 x5 x6 x7 x8 x9 x10 (0 : Int32) (0 : Int32)
set_option maxHeartbeats 4000000 in
set_option maxRecDepth 100000 in
theorem w_L_law_b133 {sb : Nat} {xs : Nat → Int32} {G : x_G} {l : Launch} {a : Nat → Nat} {ar : Nat → Nat} {al : Nat → Nat} {af : Nat → Nat} {ax : Nat → Nat} {ad : Nat → Nat} {aq : Nat → Nat} {a_row : Nat → Nat} {a_strains : Nat → Nat} {L : Nat} {res : Unit} (row_c : (Nat → Int32)) (S : x_S) (strains_c : (Nat → Int32)) (x3 : Int32) (x4 : Int32) (x5 : Int32) (x6 : Int32) (x7 : Int32) (x8 : Int32) (x9 : Int32) (x10 : Int32) (h : M_L_law_b133 xs L row_c S strains_c x3 x4 x5 x6 x7 x8 x9 x10 = some res) : X G l RL cL_law 38 room_1 (x_CL sb L xs) 42 883 133 [(0, .ref sb), (1, .ref (a 0)), (2, .ref (a_row 0)), (3, .int x3), (4, .int x4), (5, .int x5), (6, .int x6), (7, .int x7), (8, .int x8), (9, .int x9), (10, .int x10), (11, .ref (a_strains 0))] [] ((WArr G a_row 38 row_c) ++ ((WLR G a ar al af ax ad aq S) ++ (WArr G a_strains 6 strains_c))) := by
  unfold M_L_law_b133 at h
  refine x_iconst 0 dL_law_133 (by decide) ?_
  refine x_istore [(12, .int (0 : Int32)), (0, .ref sb), (1, .ref (a 0)), (2, .ref (a_row 0)), (3, .int x3), (4, .int x4), (5, .int x5), (6, .int x6), (7, .int x7), (8, .int x8), (9, .int x9), (10, .int x10), (11, .ref (a_strains 0))] dL_law_134 (by decide) rfl ?_
  refine x_iconst 0 dL_law_136 (by decide) ?_
  refine x_istore [(13, .int (0 : Int32)), (12, .int (0 : Int32)), (0, .ref sb), (1, .ref (a 0)), (2, .ref (a_row 0)), (3, .int x3), (4, .int x4), (5, .int x5), (6, .int x6), (7, .int x7), (8, .int x8), (9, .int x9), (10, .int x10), (11, .ref (a_strains 0))] dL_law_137 (by decide) rfl ?_
  refine x_lv [2, 3, 4, 5, 6, 7, 8, 9, 10, 11, 12, 13, 1, 0] rfl ?_
  exact w_L_law_b139  _ _ _ _ _ _ _ _ _ _ _ _ _ _ h
def M_L_law_b13 (xs : Nat → Int32) (L : Nat) (row_c : (Nat → Int32)) (S : x_S) : Option (Unit) :=
  (M_L_lay xs L row_c).bind fun r1 =>
  (M_L_made r1 S).bind fun r3 =>
  if r3.1 = 0 then
  (none)
  else
  ((M_L_cell xs L (11 : Int32)).bind fun r6 =>
  (M_L_up r6 (9 : Int32)).bind fun r8 =>
  (M_L_cell xs L (12 : Int32)).bind fun r10 =>
  (M_L_up r10 (2000000 : Int32)).bind fun r12 =>
  (M_LR_lots r3.2.2 ((1 : Int32) + r8) ((1 : Int32) + r12)).bind fun r14 =>
  if r14.1 < 0 then
  (none)
  else
  ((M_LR_keep r14.2 (0 : Int32)).bind fun r17 =>
  (M_LR_count r17.2 (2 : Int32)).bind fun r19 =>
  if r17.1 = r19 then
  ((M_LR_count r17.2 (2 : Int32)).bind fun r22 =>
  (M_LR_count r17.2 (3 : Int32)).bind fun r24 =>
  (M_LR_count r17.2 (4 : Int32)).bind fun r26 =>
  (M_LR_count r17.2 (5 : Int32)).bind fun r28 =>
  (M_LR_count r17.2 (6 : Int32)).bind fun r30 =>
  (M_LR_lawful r17.2).bind fun r32 =>
  M_L_law_b133 xs L r3.2.1 r17.2 (fun _ => 0) (r3.2.1 0) (r3.2.1 1) r22 r24 r26 r28 r30 r32)
  else
  (none)))
set_option maxHeartbeats 4000000 in
set_option maxRecDepth 100000 in
theorem w_L_law_b13 {sb : Nat} {xs : Nat → Int32} {G : x_G} {l : Launch} {a : Nat → Nat} {ar : Nat → Nat} {al : Nat → Nat} {af : Nat → Nat} {ax : Nat → Nat} {ad : Nat → Nat} {aq : Nat → Nat} {a_row : Nat → Nat} {L : Nat} {res : Unit} (row_c : (Nat → Int32)) (S : x_S) (h : M_L_law_b13 xs L row_c S = some res) : X G l RL cL_law 38 room_1 (x_CL sb L xs) 41 877 13 [(0, .ref sb), (1, .ref (a 0)), (2, .ref (a_row 0))] [] ((WArr G a_row 38 row_c) ++ (WLR G a ar al af ax ad aq S)) := by
  unfold M_L_law_b13 at h
  refine x_aload_n dL_law_13 0 rfl rfl ?_
  refine x_aload_n dL_law_14 2 rfl rfl ?_
  obtain ⟨r1, e2, h⟩ := x_bind h
  refine x_cSs (As := [.ref sb, .ref (a_row 0)]) (wc := (WArr G a_row 38 row_c)) (w1 := (WArr G a_row 38 r1)) (pre := ([] : va_W)) (post := (WLR G a ar al af ax ad aq S)) (rest := []) (st1 := []) (ws1 := ((WArr G a_row 38 r1) ++ (WLR G a ar al af ax ad aq S))) x_sc_CL dL_law_15 (c_L_lay (a_row := a_row) e2) pk_L_lay ml_L_47 (by simp only [List.append_assoc, List.append_nil, List.nil_append]) rfl rfl rfl rfl rfl (by simp only [List.append_assoc, List.append_nil, List.nil_append]) ?_
  refine x_aload_n dL_law_18 1 rfl rfl ?_
  refine x_aload_n dL_law_19 2 rfl rfl ?_
  obtain ⟨r3, e4, h⟩ := x_bind h
  refine x_cS (As := [.ref (a 0), .ref (a_row 0)]) (wc := ((WArr G a_row 38 r1) ++ (WLR G a ar al af ax ad aq S))) (w1 := ((WArr G a_row 38 r3.2.1) ++ (WLR G a ar al af ax ad aq r3.2.2))) (pre := []) (post := []) (rest := []) (st1 := [.int r3.1]) (ws1 := ((WArr G a_row 38 r3.2.1) ++ (WLR G a ar al af ax ad aq r3.2.2))) dL_law_20 (c_L_made (a_row := a_row) (a := a) e4) pk_L_made ml_L_51 (x_full _) rfl rfl rfl rfl rfl (x_full _).symm ?_
  refine x_if_ne 28 dL_law_23 (by decide) (fun c5 => ?_) (fun c5 => ?_)
  · have h := x_neg c5 h
    refine x_aload_n dL_law_28 2 rfl rfl ?_
    refine x_iconst 0 dL_law_29 (by decide) ?_
    refine x_iald 0 (q0 := 0) dL_law_30 (by decide) rfl (by decide) ?_
    refine x_istore_n [(3, .int (r3.2.1 0)), (0, .ref sb), (1, .ref (a 0)), (2, .ref (a_row 0))] dL_law_31 rfl (by decide) rfl ?_
    refine x_aload_n dL_law_32 3 rfl rfl ?_
    refine x_iconst 1 dL_law_33 (by decide) ?_
    refine x_iald 1 (q0 := 0) dL_law_34 (by decide) rfl (by decide) ?_
    refine x_istore [(4, .int (r3.2.1 1)), (3, .int (r3.2.1 0)), (0, .ref sb), (1, .ref (a 0)), (2, .ref (a_row 0))] dL_law_35 (by decide) rfl ?_
    refine x_aload_n dL_law_37 3 rfl rfl ?_
    refine x_iconst 1 dL_law_38 (by decide) ?_
    refine x_aload_n dL_law_39 2 rfl rfl ?_
    refine x_bipush 11 dL_law_40 (by decide) ?_
    obtain ⟨r6, e7, h⟩ := x_bind h
    refine x_cSs (As := [.ref sb, .int (11 : Int32)]) (wc := ([] : va_W)) (w1 := ([] : va_W)) (pre := []) (post := ((WArr G a_row 38 r3.2.1) ++ (WLR G a ar al af ax ad aq r3.2.2))) (rest := [.int (1 : Int32), .ref (a 0)]) (st1 := [.int r6, .int (1 : Int32), .ref (a 0)]) (ws1 := ((WArr G a_row 38 r3.2.1) ++ (WLR G a ar al af ax ad aq r3.2.2))) x_sc_CL dL_law_42 (c_L_cell e7) pk_L_cell ml_L_9 rfl rfl rfl rfl rfl rfl rfl ?_
    refine x_bipush 9 dL_law_45 (by decide) ?_
    obtain ⟨r8, e9, h⟩ := x_bind h
    refine x_cS (As := [.int r6, .int (9 : Int32)]) (wc := ([] : va_W)) (w1 := ([] : va_W)) (pre := []) (post := ((WArr G a_row 38 r3.2.1) ++ (WLR G a ar al af ax ad aq r3.2.2))) (rest := [.int (1 : Int32), .ref (a 0)]) (st1 := [.int r8, .int (1 : Int32), .ref (a 0)]) (ws1 := ((WArr G a_row 38 r3.2.1) ++ (WLR G a ar al af ax ad aq r3.2.2))) dL_law_47 (c_L_up e9) pk_L_up ml_L_15 rfl rfl rfl rfl rfl rfl rfl ?_
    refine x_iadd dL_law_50 ?_
    refine x_iconst 1 dL_law_51 (by decide) ?_
    refine x_aload_n dL_law_52 2 rfl rfl ?_
    refine x_bipush 12 dL_law_53 (by decide) ?_
    obtain ⟨r10, e11, h⟩ := x_bind h
    refine x_cSs (As := [.ref sb, .int (12 : Int32)]) (wc := ([] : va_W)) (w1 := ([] : va_W)) (pre := []) (post := ((WArr G a_row 38 r3.2.1) ++ (WLR G a ar al af ax ad aq r3.2.2))) (rest := [.int (1 : Int32), .int ((1 : Int32) + r8), .ref (a 0)]) (st1 := [.int r10, .int (1 : Int32), .int ((1 : Int32) + r8), .ref (a 0)]) (ws1 := ((WArr G a_row 38 r3.2.1) ++ (WLR G a ar al af ax ad aq r3.2.2))) x_sc_CL dL_law_55 (c_L_cell e11) pk_L_cell ml_L_9 rfl rfl rfl rfl rfl rfl rfl ?_
    refine x_ldc dL_law_58 kc_L_55 ?_
    obtain ⟨r12, e13, h⟩ := x_bind h
    refine x_cS (As := [.int r10, .int (2000000 : Int32)]) (wc := ([] : va_W)) (w1 := ([] : va_W)) (pre := []) (post := ((WArr G a_row 38 r3.2.1) ++ (WLR G a ar al af ax ad aq r3.2.2))) (rest := [.int (1 : Int32), .int ((1 : Int32) + r8), .ref (a 0)]) (st1 := [.int r12, .int (1 : Int32), .int ((1 : Int32) + r8), .ref (a 0)]) (ws1 := ((WArr G a_row 38 r3.2.1) ++ (WLR G a ar al af ax ad aq r3.2.2))) dL_law_60 (c_L_up e13) pk_L_up ml_L_15 rfl rfl rfl rfl rfl rfl rfl ?_
    refine x_iadd dL_law_63 ?_
    obtain ⟨r14, e15, h⟩ := x_bind h
    refine x_cV (As := [.int ((1 : Int32) + r8), .int ((1 : Int32) + r12)]) (wc := (WLR G a ar al af ax ad aq r3.2.2)) (w1 := (WLR G a ar al af ax ad aq r14.2)) (pre := (WArr G a_row 38 r3.2.1)) (post := ([] : va_W)) (rest := []) (st1 := [.int r14.1]) (ws1 := ((WArr G a_row 38 r3.2.1) ++ (WLR G a ar al af ax ad aq r14.2))) (ci := 4) 0 dL_law_64 (c_LR_lots (a := a) e15) pk_X6_lots ml_L_56 (by simp only [List.append_assoc, List.append_nil, List.nil_append]) rfl rfl rfl rfl rfl rfl rfl rfl (by simp only [List.append_assoc, List.append_nil, List.nil_append]) ?_
    refine x_if_lt 83 dL_law_67 (by decide) (fun c16 => ?_) (fun c16 => ?_)
    · have h := x_pos c16 h
      refine x_iconst 0 dL_law_83 (by decide) ?_
      cases h
    · have h := x_neg c16 h
      refine x_aload_n dL_law_70 3 rfl rfl ?_
      refine x_iconst 0 dL_law_71 (by decide) ?_
      obtain ⟨r17, e18, h⟩ := x_bind h
      refine x_cV (As := [.int (0 : Int32)]) (wc := (WLR G a ar al af ax ad aq r14.2)) (w1 := (WLR G a ar al af ax ad aq r17.2)) (pre := (WArr G a_row 38 r3.2.1)) (post := ([] : va_W)) (rest := []) (st1 := [.int r17.1]) (ws1 := ((WArr G a_row 38 r3.2.1) ++ (WLR G a ar al af ax ad aq r17.2))) (ci := 4) 0 dL_law_72 (c_LR_keep (a := a) e18) pk_X6_keep ml_L_59 (by simp only [List.append_assoc, List.append_nil, List.nil_append]) rfl rfl rfl rfl rfl rfl rfl rfl (by simp only [List.append_assoc, List.append_nil, List.nil_append]) ?_
      refine x_aload_n dL_law_75 3 rfl rfl ?_
      refine x_iconst 2 dL_law_76 (by decide) ?_
      obtain ⟨r19, e20, h⟩ := x_bind h
      refine x_cV (As := [.int (2 : Int32)]) (wc := (WLR G a ar al af ax ad aq r17.2)) (w1 := (WLR G a ar al af ax ad aq r17.2)) (pre := (WArr G a_row 38 r3.2.1)) (post := ([] : va_W)) (rest := [.int r17.1]) (st1 := [.int r19, .int r17.1]) (ws1 := ((WArr G a_row 38 r3.2.1) ++ (WLR G a ar al af ax ad aq r17.2))) (ci := 4) 0 dL_law_77 (c_LR_count (a := a) e20) pk_X6_count ml_L_62 (by simp only [List.append_assoc, List.append_nil, List.nil_append]) rfl rfl rfl rfl rfl rfl rfl rfl (by simp only [List.append_assoc, List.append_nil, List.nil_append]) ?_
      refine x_icmp_eq 85 dL_law_80 (by decide) (fun c21 => ?_) (fun c21 => ?_)
      · have h := x_pos c21 h
        refine x_aload_n dL_law_85 3 rfl rfl ?_
        refine x_iconst 2 dL_law_86 (by decide) ?_
        obtain ⟨r22, e23, h⟩ := x_bind h
        refine x_cV (As := [.int (2 : Int32)]) (wc := (WLR G a ar al af ax ad aq r17.2)) (w1 := (WLR G a ar al af ax ad aq r17.2)) (pre := (WArr G a_row 38 r3.2.1)) (post := ([] : va_W)) (rest := []) (st1 := [.int r22]) (ws1 := ((WArr G a_row 38 r3.2.1) ++ (WLR G a ar al af ax ad aq r17.2))) (ci := 4) 0 dL_law_87 (c_LR_count (a := a) e23) pk_X6_count ml_L_62 (by simp only [List.append_assoc, List.append_nil, List.nil_append]) rfl rfl rfl rfl rfl rfl rfl rfl (by simp only [List.append_assoc, List.append_nil, List.nil_append]) ?_
        refine x_istore [(5, .int r22), (4, .int (r3.2.1 1)), (3, .int (r3.2.1 0)), (0, .ref sb), (1, .ref (a 0)), (2, .ref (a_row 0))] dL_law_90 (by decide) rfl ?_
        refine x_aload_n dL_law_92 4 rfl rfl ?_
        refine x_iconst 3 dL_law_93 (by decide) ?_
        obtain ⟨r24, e25, h⟩ := x_bind h
        refine x_cV (As := [.int (3 : Int32)]) (wc := (WLR G a ar al af ax ad aq r17.2)) (w1 := (WLR G a ar al af ax ad aq r17.2)) (pre := (WArr G a_row 38 r3.2.1)) (post := ([] : va_W)) (rest := []) (st1 := [.int r24]) (ws1 := ((WArr G a_row 38 r3.2.1) ++ (WLR G a ar al af ax ad aq r17.2))) (ci := 4) 0 dL_law_94 (c_LR_count (a := a) e25) pk_X6_count ml_L_62 (by simp only [List.append_assoc, List.append_nil, List.nil_append]) rfl rfl rfl rfl rfl rfl rfl rfl (by simp only [List.append_assoc, List.append_nil, List.nil_append]) ?_
        refine x_istore [(6, .int r24), (5, .int r22), (4, .int (r3.2.1 1)), (3, .int (r3.2.1 0)), (0, .ref sb), (1, .ref (a 0)), (2, .ref (a_row 0))] dL_law_97 (by decide) rfl ?_
        refine x_aload_n dL_law_99 5 rfl rfl ?_
        refine x_iconst 4 dL_law_100 (by decide) ?_
        obtain ⟨r26, e27, h⟩ := x_bind h
        refine x_cV (As := [.int (4 : Int32)]) (wc := (WLR G a ar al af ax ad aq r17.2)) (w1 := (WLR G a ar al af ax ad aq r17.2)) (pre := (WArr G a_row 38 r3.2.1)) (post := ([] : va_W)) (rest := []) (st1 := [.int r26]) (ws1 := ((WArr G a_row 38 r3.2.1) ++ (WLR G a ar al af ax ad aq r17.2))) (ci := 4) 0 dL_law_101 (c_LR_count (a := a) e27) pk_X6_count ml_L_62 (by simp only [List.append_assoc, List.append_nil, List.nil_append]) rfl rfl rfl rfl rfl rfl rfl rfl (by simp only [List.append_assoc, List.append_nil, List.nil_append]) ?_
        refine x_istore [(7, .int r26), (6, .int r24), (5, .int r22), (4, .int (r3.2.1 1)), (3, .int (r3.2.1 0)), (0, .ref sb), (1, .ref (a 0)), (2, .ref (a_row 0))] dL_law_104 (by decide) rfl ?_
        refine x_aload_n dL_law_106 6 rfl rfl ?_
        refine x_iconst 5 dL_law_107 (by decide) ?_
        obtain ⟨r28, e29, h⟩ := x_bind h
        refine x_cV (As := [.int (5 : Int32)]) (wc := (WLR G a ar al af ax ad aq r17.2)) (w1 := (WLR G a ar al af ax ad aq r17.2)) (pre := (WArr G a_row 38 r3.2.1)) (post := ([] : va_W)) (rest := []) (st1 := [.int r28]) (ws1 := ((WArr G a_row 38 r3.2.1) ++ (WLR G a ar al af ax ad aq r17.2))) (ci := 4) 0 dL_law_108 (c_LR_count (a := a) e29) pk_X6_count ml_L_62 (by simp only [List.append_assoc, List.append_nil, List.nil_append]) rfl rfl rfl rfl rfl rfl rfl rfl (by simp only [List.append_assoc, List.append_nil, List.nil_append]) ?_
        refine x_istore [(8, .int r28), (7, .int r26), (6, .int r24), (5, .int r22), (4, .int (r3.2.1 1)), (3, .int (r3.2.1 0)), (0, .ref sb), (1, .ref (a 0)), (2, .ref (a_row 0))] dL_law_111 (by decide) rfl ?_
        refine x_aload_n dL_law_113 7 rfl rfl ?_
        refine x_bipush 6 dL_law_114 (by decide) ?_
        obtain ⟨r30, e31, h⟩ := x_bind h
        refine x_cV (As := [.int (6 : Int32)]) (wc := (WLR G a ar al af ax ad aq r17.2)) (w1 := (WLR G a ar al af ax ad aq r17.2)) (pre := (WArr G a_row 38 r3.2.1)) (post := ([] : va_W)) (rest := []) (st1 := [.int r30]) (ws1 := ((WArr G a_row 38 r3.2.1) ++ (WLR G a ar al af ax ad aq r17.2))) (ci := 4) 0 dL_law_116 (c_LR_count (a := a) e31) pk_X6_count ml_L_62 (by simp only [List.append_assoc, List.append_nil, List.nil_append]) rfl rfl rfl rfl rfl rfl rfl rfl (by simp only [List.append_assoc, List.append_nil, List.nil_append]) ?_
        refine x_istore [(9, .int r30), (8, .int r28), (7, .int r26), (6, .int r24), (5, .int r22), (4, .int (r3.2.1 1)), (3, .int (r3.2.1 0)), (0, .ref sb), (1, .ref (a 0)), (2, .ref (a_row 0))] dL_law_119 (by decide) rfl ?_
        refine x_aload_n dL_law_121 8 rfl rfl ?_
        obtain ⟨r32, e33, h⟩ := x_bind h
        refine x_cV (As := []) (wc := (WLR G a ar al af ax ad aq r17.2)) (w1 := (WLR G a ar al af ax ad aq r17.2)) (pre := (WArr G a_row 38 r3.2.1)) (post := ([] : va_W)) (rest := []) (st1 := [.int r32]) (ws1 := ((WArr G a_row 38 r3.2.1) ++ (WLR G a ar al af ax ad aq r17.2))) (ci := 4) 0 dL_law_122 (c_LR_lawful (a := a) e33) pk_X6_lawful ml_L_65 (by simp only [List.append_assoc, List.append_nil, List.nil_append]) rfl rfl rfl rfl rfl rfl rfl rfl (by simp only [List.append_assoc, List.append_nil, List.nil_append]) ?_
        refine x_istore [(10, .int r32), (9, .int r30), (8, .int r28), (7, .int r26), (6, .int r24), (5, .int r22), (4, .int (r3.2.1 1)), (3, .int (r3.2.1 0)), (0, .ref sb), (1, .ref (a 0)), (2, .ref (a_row 0))] dL_law_125 (by decide) rfl ?_
        refine x_bipush 6 dL_law_127 (by decide) ?_
        refine x_newa (a0 := (6, .inl (fun _ => 0))) 0 6 dL_law_129 ac_int rfl rfl x_nm_int (fun cA => rfl) (by decide) (by decide) (by decide) (by decide) (fun q34 => ?_)
        refine x_ws (ws' := ((WArr G a_row 38 r3.2.1) ++ ((WLR G a ar al af ax ad aq r17.2) ++ (WArr G (fun _ => q34) 6 ((fun _ => 0)))))) (by simp only [List.append_assoc]; rfl) ?_
        refine x_astore [(11, .ref ((fun _ => q34) 0)), (10, .int r32), (9, .int r30), (8, .int r28), (7, .int r26), (6, .int r24), (5, .int r22), (4, .int (r3.2.1 1)), (3, .int (r3.2.1 0)), (0, .ref sb), (1, .ref (a 0)), (2, .ref (a_row 0))] dL_law_131 (by decide) rfl ?_
        refine x_lv [9, 10, 11, 8, 7, 6, 5, 4, 3, 2, 1, 0] rfl ?_
        exact w_L_law_b133 (a_strains := (fun _ => q34))  _ _ _ _ _ _ _ _ _ _ _ h
      · have h := x_neg c21 h
        refine x_iconst 0 dL_law_83 (by decide) ?_
        cases h
  · have h := x_pos c5 h
    refine x_iconst 0 dL_law_26 (by decide) ?_
    cases h
