theorem pk_X0_begin : x_pv RX0 yX0_begin cX0_begin 4 none 1 := ⟨⟨co_X0_begin, ni_X0, by decide, by decide +kernel⟩, im_X0_begin, se_X0_begin⟩
def M_X0_begin_b14 : Nat → (Nat → Int64) → Int32 → (Nat → Int32) → Int32 → Option ((Nat → Int64) × Int32 × (Nat → Int32))
  | 0, _, _, _, _ => none
  | n + 1, states, size, keptSizes, x3 =>
    if (3 : Int32) ≤ x3 then
    (some (states, size, keptSizes))
    else
    (if inb x3 3 then
    M_X0_begin_b14 n states size (upd keptSizes x3.toNatClampNeg (-1 : Int32)) (x3 + (1 : Int32))
    else none)
set_option maxHeartbeats 4000000 in
set_option maxRecDepth 100000 in
theorem w_X0_begin_b14 {G : x_G} {l : Launch} {a : Nat → Nat} {kept : (Nat → Nat → Int64)} {res : (Nat → Int64) × Int32 × (Nat → Int32)} : ∀ (n : Nat) (states : (Nat → Int64)) (size : Int32) (keptSizes : (Nat → Int32)) (x3 : Int32), M_X0_begin_b14 n states size keptSizes x3 = some res → X G l RX0 cX0_begin 4 (x_R 0 0 0) (x_Cm G none false (x_is none (WLog G a res.1 res.2.1 kept res.2.2)) 0 0) 0 0 14 [(0, .ref (a 0)), (3, .int x3)] [] (WLog G a states size kept keptSizes) := by
  intro n
  induction n with
  | zero =>
    intro _ _ _ _ h
    cases h
  | succ n ih =>
    intro states size keptSizes x3 h
    rw [M_X0_begin_b14] at h
    refine x_iload_n dX0_begin_14 1 rfl rfl ?_
    refine x_iconst 3 dX0_begin_15 (by decide) ?_
    refine x_icmp_ge 32 dX0_begin_16 (by decide) (fun c1 => ?_) (fun c1 => ?_)
    · have h := x_pos c1 h
      cases h
      exact x_return dX0_begin_32 (x_is.rf _ _)
    · have h := x_neg c1 h
      refine x_aload_n dX0_begin_19 0 rfl rfl ?_
      refine x_get (ci := 0) 3 0 dX0_begin_20 fl_X0_24 inX0 rfl (by decide) ⟨rfl, rfl, rfl⟩ rfl rfl ?_
      refine x_iload_n dX0_begin_23 1 rfl rfl ?_
      refine x_iconst (-1 : Int32) dX0_begin_24 (by decide) ?_
      obtain ⟨b2, h⟩ := x_guard h
      refine x_iast x3.toNatClampNeg (q0 := 3) (WLog G a states size kept ((upd keptSizes x3.toNatClampNeg (-1 : Int32)))) dX0_begin_25 rfl rfl b2 rfl ?_
      refine x_iinc (j := 1) (1 : Int32) [(3, .int (x3 + (1 : Int32))), (0, .ref (a 0))] dX0_begin_26 (by decide) rfl (by decide) rfl ?_
      refine x_goto 14 dX0_begin_29 (by decide) ?_
      refine x_lv [1, 0] rfl ?_
      exact ih _ _ _ _ h
def M_X0_begin (states : (Nat → Int64)) (size : Int32) (keptSizes : (Nat → Int32)) (x1 : Int64) : Option ((Nat → Int64) × Int32 × (Nat → Int32)) :=
  M_X0_begin_b14 x_fuel (vp_updL states 0 x1) (0 : Int32) keptSizes (0 : Int32)
set_option maxHeartbeats 4000000 in
set_option maxRecDepth 100000 in
theorem c_X0_begin {G : x_G} {l : Launch} {a : Nat → Nat} {kept : (Nat → Nat → Int64)} {states : (Nat → Int64)} {size : Int32} {keptSizes : (Nat → Int32)} {x1 : Int64} {res : (Nat → Int64) × Int32 × (Nat → Int32)} (h : M_X0_begin states size keptSizes x1 = some res) : x_M G l yX0_begin cX0_begin 4 none (0) 0 0 [.ref (a 0), .long x1] (WLog G a states size kept keptSizes) (x_is none (WLog G a res.1 res.2.1 kept res.2.2)) := by
  unfold M_X0_begin at h
  refine x_enter (ini := false) (by decide) rfl (by decide) rfl (Nat.le_of_ble_eq_true rfl) ?_
  refine x_aload_n dX0_begin_0 0 rfl rfl ?_
  refine x_iconst 0 dX0_begin_1 (by decide) ?_
  refine x_put (ci := 0) (ty := .int) 1 0 (WLog G a states ((0 : Int32)) kept keptSizes) dX0_begin_2 fl_X0_15 inX0 tyX0_ok nmX0 rfl (by decide) ⟨rfl, rfl, rfl, rfl, rfl⟩ rfl rfl rfl rfl rfl ?_
  refine x_aload_n dX0_begin_5 0 rfl rfl ?_
  refine x_get (ci := 0) 0 0 dX0_begin_6 fl_X0_9 inX0 rfl (by decide) ⟨rfl, rfl, rfl⟩ rfl rfl ?_
  refine x_iconst 0 dX0_begin_9 (by decide) ?_
  refine x_lload_n dX0_begin_10 1 rfl rfl ?_
  refine x_last 0 (q0 := 1) (WLog G a ((vp_updL states 0 x1)) ((0 : Int32)) kept keptSizes) dX0_begin_11 (by decide) rfl (by decide) rfl ?_
  refine x_iconst 0 dX0_begin_12 (by decide) ?_
  refine x_istore_n [(3, .int (0 : Int32)), (0, .ref (a 0)), (1, .long x1)] dX0_begin_13 rfl (by decide) rfl ?_
  refine x_lv [1, 0] rfl ?_
  exact w_X0_begin_b14  _ _ _ _ _ h
theorem pk_X0_now : x_pv RX0 yX0_now cX0_now 1 (some .long) 0 := ⟨⟨co_X0_now, ni_X0, by decide, by decide +kernel⟩, im_X0_now, se_X0_now⟩
def M_X0_now (states : (Nat → Int64)) (size : Int32) : Option (Int64) :=
  if size < 0 then
  (some (0 : Int64))
  else
  (if (40 : Int32) < size then
  (some (0 : Int64))
  else
  (if inb size 41 then
  some (states size.toNatClampNeg)
  else none))
set_option maxHeartbeats 4000000 in
set_option maxRecDepth 100000 in
theorem c_X0_now {G : x_G} {l : Launch} {a : Nat → Nat} {states : (Nat → Int64)} {size : Int32} {kept : (Nat → Nat → Int64)} {keptSizes : (Nat → Int32)} {res : Int64} (h : M_X0_now states size = some res) : x_M G l yX0_now cX0_now 1 (some .long) (0) 0 0 [.ref (a 0)] (WLog G a states size kept keptSizes) (x_is (some (.long res)) (WLog G a states size kept keptSizes)) := by
  unfold M_X0_now at h
  refine x_enter (ini := false) (by decide) rfl (by decide) rfl (Nat.le_of_ble_eq_true rfl) ?_
  refine x_aload_n dX0_now_0 0 rfl rfl ?_
  refine x_get (ci := 0) 1 0 dX0_now_1 fl_X0_15 inX0 rfl (by decide) ⟨rfl, rfl, rfl⟩ rfl rfl ?_
  refine x_if_lt 28 dX0_now_4 (by decide) (fun c1 => ?_) (fun c1 => ?_)
  · have h := x_pos c1 h
    refine x_lconst 0 dX0_now_28 (by decide) ?_
    cases h
    exact x_lreturn dX0_now_29 (x_is.rf _ _)
  · have h := x_neg c1 h
    refine x_aload_n dX0_now_7 0 rfl rfl ?_
    refine x_get (ci := 0) 1 0 dX0_now_8 fl_X0_15 inX0 rfl (by decide) ⟨rfl, rfl, rfl⟩ rfl rfl ?_
    refine x_bipush 40 dX0_now_11 (by decide) ?_
    refine x_icmp_gt 28 dX0_now_13 (by decide) (fun c2 => ?_) (fun c2 => ?_)
    · have h := x_pos c2 h
      refine x_lconst 0 dX0_now_28 (by decide) ?_
      cases h
      exact x_lreturn dX0_now_29 (x_is.rf _ _)
    · have h := x_neg c2 h
      refine x_aload_n dX0_now_16 0 rfl rfl ?_
      refine x_get (ci := 0) 0 0 dX0_now_17 fl_X0_9 inX0 rfl (by decide) ⟨rfl, rfl, rfl⟩ rfl rfl ?_
      refine x_aload_n dX0_now_20 0 rfl rfl ?_
      refine x_get (ci := 0) 1 0 dX0_now_21 fl_X0_15 inX0 rfl (by decide) ⟨rfl, rfl, rfl⟩ rfl rfl ?_
      obtain ⟨b3, h⟩ := x_guard h
      refine x_lald size.toNatClampNeg (q0 := 1) dX0_now_24 rfl rfl b3 ?_
      refine x_goto 29 dX0_now_25 (by decide) ?_
      cases h
      exact x_lreturn dX0_now_29 (x_is.rf _ _)
theorem pk_X0_isFull : x_pv RX0 yX0_isFull cX0_isFull 2 (some .boolean) 1 := ⟨⟨co_X0_isFull, ni_X0, by decide, by decide +kernel⟩, im_X0_isFull, se_X0_isFull⟩
def M_X0_isFull (size : Int32) (x1 : Int32) : Int32 :=
  if (size + x1) ≤ (40 : Int32) then
  ((0 : Int32))
  else
  ((1 : Int32))
theorem M_X0_isFull_b {size : Int32} {x1 : Int32} : narrow .boolean (.int (M_X0_isFull size x1)) = .int (M_X0_isFull size x1) := by
  simp only [M_X0_isFull]
  repeat' split
  all_goals first | rfl
set_option maxHeartbeats 4000000 in
set_option maxRecDepth 100000 in
theorem c_X0_isFull {G : x_G} {l : Launch} {a : Nat → Nat} {size : Int32} {states : (Nat → Int64)} {kept : (Nat → Nat → Int64)} {keptSizes : (Nat → Int32)} {x1 : Int32} {res : Int32} (h : M_X0_isFull size x1 = res) : x_M G l yX0_isFull cX0_isFull 2 (some .boolean) (0) 0 0 [.ref (a 0), .int x1] (WLog G a states size kept keptSizes) (x_is (some (.int res)) (WLog G a states size kept keptSizes)) := by
  unfold M_X0_isFull at h
  refine x_enter (ini := false) (by decide) rfl (by decide) rfl (Nat.le_of_ble_eq_true rfl) ?_
  refine x_aload_n dX0_isFull_0 0 rfl rfl ?_
  refine x_get (ci := 0) 1 0 dX0_isFull_1 fl_X0_15 inX0 rfl (by decide) ⟨rfl, rfl, rfl⟩ rfl rfl ?_
  refine x_iload_n dX0_isFull_4 1 rfl rfl ?_
  refine x_iadd dX0_isFull_5 ?_
  refine x_bipush 40 dX0_isFull_6 (by decide) ?_
  refine x_icmp_le 15 dX0_isFull_8 (by decide) (fun c1 => ?_) (fun c1 => ?_)
  · have h := x_pos c1 h
    refine x_iconst 0 dX0_isFull_15 (by decide) ?_
    subst h
    exact x_ireturn dX0_isFull_16 rfl (x_is.rf _ _)
  · have h := x_neg c1 h
    refine x_iconst 1 dX0_isFull_11 (by decide) ?_
    refine x_goto 16 dX0_isFull_12 (by decide) ?_
    subst h
    exact x_ireturn dX0_isFull_16 rfl (x_is.rf _ _)
theorem pk_X0_add : x_pv RX0 yX0_add cX0_add 3 none 1 := ⟨⟨co_X0_add, ni_X0, by decide, by decide +kernel⟩, im_X0_add, se_X0_add⟩
def M_X0_add (states : (Nat → Int64)) (size : Int32) (x1 : Int64) : Option ((Nat → Int64) × Int32) :=
  if size < 0 then
  (some (states, size))
  else
  (if (40 : Int32) ≤ size then
  (some (states, size))
  else
  (if inb (size + (1 : Int32)) 41 then
  some ((vp_updL states (size + (1 : Int32)).toNatClampNeg x1), (size + (1 : Int32)))
  else none))
set_option maxHeartbeats 4000000 in
set_option maxRecDepth 100000 in
theorem c_X0_add {G : x_G} {l : Launch} {a : Nat → Nat} {kept : (Nat → Nat → Int64)} {keptSizes : (Nat → Int32)} {states : (Nat → Int64)} {size : Int32} {x1 : Int64} {res : (Nat → Int64) × Int32} (h : M_X0_add states size x1 = some res) : x_M G l yX0_add cX0_add 3 none (0) 0 0 [.ref (a 0), .long x1] (WLog G a states size kept keptSizes) (x_is none (WLog G a res.1 res.2 kept keptSizes)) := by
  unfold M_X0_add at h
  refine x_enter (ini := false) (by decide) rfl (by decide) rfl (Nat.le_of_ble_eq_true rfl) ?_
  refine x_aload_n dX0_add_0 0 rfl rfl ?_
  refine x_get (ci := 0) 1 0 dX0_add_1 fl_X0_15 inX0 rfl (by decide) ⟨rfl, rfl, rfl⟩ rfl rfl ?_
  refine x_if_lt 36 dX0_add_4 (by decide) (fun c1 => ?_) (fun c1 => ?_)
  · have h := x_pos c1 h
    cases h
    exact x_return dX0_add_36 (x_is.rf _ _)
  · have h := x_neg c1 h
    refine x_aload_n dX0_add_7 0 rfl rfl ?_
    refine x_get (ci := 0) 1 0 dX0_add_8 fl_X0_15 inX0 rfl (by decide) ⟨rfl, rfl, rfl⟩ rfl rfl ?_
    refine x_bipush 40 dX0_add_11 (by decide) ?_
    refine x_icmp_ge 36 dX0_add_13 (by decide) (fun c2 => ?_) (fun c2 => ?_)
    · have h := x_pos c2 h
      cases h
      exact x_return dX0_add_36 (x_is.rf _ _)
    · have h := x_neg c2 h
      refine x_aload_n dX0_add_16 0 rfl rfl ?_
      refine x_dup dX0_add_17 rfl ?_
      refine x_get (ci := 0) 1 0 dX0_add_18 fl_X0_15 inX0 rfl (by decide) ⟨rfl, rfl, rfl⟩ rfl rfl ?_
      refine x_iconst 1 dX0_add_21 (by decide) ?_
      refine x_iadd dX0_add_22 ?_
      refine x_put (ci := 0) (ty := .int) 1 0 (WLog G a states ((size + (1 : Int32))) kept keptSizes) dX0_add_23 fl_X0_15 inX0 tyX0_ok nmX0 rfl (by decide) ⟨rfl, rfl, rfl, rfl, rfl⟩ rfl rfl rfl rfl rfl ?_
      refine x_aload_n dX0_add_26 0 rfl rfl ?_
      refine x_get (ci := 0) 0 0 dX0_add_27 fl_X0_9 inX0 rfl (by decide) ⟨rfl, rfl, rfl⟩ rfl rfl ?_
      refine x_aload_n dX0_add_30 0 rfl rfl ?_
      refine x_get (ci := 0) 1 0 dX0_add_31 fl_X0_15 inX0 rfl (by decide) ⟨rfl, rfl, rfl⟩ rfl rfl ?_
      refine x_lload_n dX0_add_34 1 rfl rfl ?_
      obtain ⟨b3, h⟩ := x_guard h
      refine x_last (size + (1 : Int32)).toNatClampNeg (q0 := 1) (WLog G a ((vp_updL states (size + (1 : Int32)).toNatClampNeg x1)) ((size + (1 : Int32))) kept keptSizes) dX0_add_35 rfl rfl b3 rfl ?_
      cases h
      exact x_return dX0_add_36 (x_is.rf _ _)
theorem pk_X0_isKeepingPlace : x_pv RX0 yX0_isKeepingPlace cX0_isKeepingPlace 2 (some .boolean) 1 := ⟨⟨co_X0_isKeepingPlace, ni_X0, by decide, by decide +kernel⟩, im_X0_isKeepingPlace, se_X0_isKeepingPlace⟩
def M_X0_isKeepingPlace (x1 : Int32) : Int32 :=
  if x1 < 0 then
  ((0 : Int32))
  else
  (if (3 : Int32) ≤ x1 then
  ((0 : Int32))
  else
  ((1 : Int32)))
theorem M_X0_isKeepingPlace_b {x1 : Int32} : narrow .boolean (.int (M_X0_isKeepingPlace x1)) = .int (M_X0_isKeepingPlace x1) := by
  simp only [M_X0_isKeepingPlace]
  repeat' split
  all_goals first | rfl
set_option maxHeartbeats 4000000 in
set_option maxRecDepth 100000 in
theorem c_X0_isKeepingPlace {G : x_G} {l : Launch} {a : Nat → Nat} {states : (Nat → Int64)} {size : Int32} {kept : (Nat → Nat → Int64)} {keptSizes : (Nat → Int32)} {x1 : Int32} {res : Int32} (h : M_X0_isKeepingPlace x1 = res) : x_M G l yX0_isKeepingPlace cX0_isKeepingPlace 2 (some .boolean) (0) 0 0 [.ref (a 0), .int x1] (WLog G a states size kept keptSizes) (x_is (some (.int res)) (WLog G a states size kept keptSizes)) := by
  unfold M_X0_isKeepingPlace at h
  refine x_enter (ini := false) (by decide) rfl (by decide) rfl (Nat.le_of_ble_eq_true rfl) ?_
  refine x_iload_n dX0_isKeepingPlace_0 1 rfl rfl ?_
  refine x_if_lt 13 dX0_isKeepingPlace_1 (by decide) (fun c1 => ?_) (fun c1 => ?_)
  · have h := x_pos c1 h
    refine x_iconst 0 dX0_isKeepingPlace_13 (by decide) ?_
    subst h
    exact x_ireturn dX0_isKeepingPlace_14 rfl (x_is.rf _ _)
  · have h := x_neg c1 h
    refine x_iload_n dX0_isKeepingPlace_4 1 rfl rfl ?_
    refine x_iconst 3 dX0_isKeepingPlace_5 (by decide) ?_
    refine x_icmp_ge 13 dX0_isKeepingPlace_6 (by decide) (fun c2 => ?_) (fun c2 => ?_)
    · have h := x_pos c2 h
      refine x_iconst 0 dX0_isKeepingPlace_13 (by decide) ?_
      subst h
      exact x_ireturn dX0_isKeepingPlace_14 rfl (x_is.rf _ _)
    · have h := x_neg c2 h
      refine x_iconst 1 dX0_isKeepingPlace_9 (by decide) ?_
      refine x_goto 14 dX0_isKeepingPlace_10 (by decide) ?_
      subst h
      exact x_ireturn dX0_isKeepingPlace_14 rfl (x_is.rf _ _)
theorem pk_X0_store : x_pv RX0 yX0_store cX0_store 3 none 1 := ⟨⟨co_X0_store, ni_X0, by decide, by decide +kernel⟩, im_X0_store, se_X0_store⟩
def M_X0_store_b44 (states : (Nat → Int64)) (size : Int32) (kept : (Nat → Nat → Int64)) (keptSizes : (Nat → Int32)) (x1 : Int32) : Option ((Nat → Nat → Int64) × (Nat → Int32)) :=
  if inb x1 3 then
  some (kept, (upd keptSizes x1.toNatClampNeg size))
  else none
set_option maxHeartbeats 4000000 in
set_option maxRecDepth 100000 in
theorem w_X0_store_b44 {G : x_G} {l : Launch} {a : Nat → Nat} {states : (Nat → Int64)} {size : Int32} {res : (Nat → Nat → Int64) × (Nat → Int32)} (kept : (Nat → Nat → Int64)) (keptSizes : (Nat → Int32)) (x1 : Int32) (h : M_X0_store_b44 states size kept keptSizes x1 = some res) : X G l RX0 cX0_store 3 (x_R 1 0 0) (x_Cm G none false (x_is none (WLog G a states size res.1 res.2)) 0 0) 0 0 44 [(0, .ref (a 0)), (1, .int x1)] [] (WLog G a states size kept keptSizes) := by
  unfold M_X0_store_b44 at h
  refine x_aload_n dX0_store_44 0 rfl rfl ?_
  refine x_get (ci := 0) 3 0 dX0_store_45 fl_X0_24 inX0 rfl (by decide) ⟨rfl, rfl, rfl⟩ rfl rfl ?_
  refine x_iload_n dX0_store_48 1 rfl rfl ?_
  refine x_aload_n dX0_store_49 0 rfl rfl ?_
  refine x_get (ci := 0) 1 0 dX0_store_50 fl_X0_15 inX0 rfl (by decide) ⟨rfl, rfl, rfl⟩ rfl rfl ?_
  obtain ⟨b5, h⟩ := x_guard h
  refine x_iast x1.toNatClampNeg (q0 := 3) (WLog G a states size kept ((upd keptSizes x1.toNatClampNeg size))) dX0_store_53 rfl rfl b5 rfl ?_
  cases h
  exact x_return dX0_store_54 (x_is.rf _ _)
def M_X0_store_b10 (states : (Nat → Int64)) (size : Int32) : Nat → (Nat → Nat → Int64) → (Nat → Int32) → Int32 → Int32 → Option ((Nat → Nat → Int64) × (Nat → Int32))
  | 0, _, _, _, _ => none
  | n + 1, kept, keptSizes, x1, x2 =>
    if size < x2 then
    (M_X0_store_b44 states size kept keptSizes x1)
    else
    (if (40 : Int32) < x2 then
    (M_X0_store_b44 states size kept keptSizes x1)
    else
    (if inb x1 3 then
    if inb x2 41 then
    M_X0_store_b10 states size n (upd2 kept x1.toNatClampNeg (vp_updL (kept x1.toNatClampNeg) x2.toNatClampNeg (states x2.toNatClampNeg))) keptSizes x1 (x2 + (1 : Int32))
    else none
    else none))
set_option maxHeartbeats 4000000 in
set_option maxRecDepth 100000 in
theorem w_X0_store_b10 {G : x_G} {l : Launch} {a : Nat → Nat} {states : (Nat → Int64)} {size : Int32} {res : (Nat → Nat → Int64) × (Nat → Int32)} : ∀ (n : Nat) (kept : (Nat → Nat → Int64)) (keptSizes : (Nat → Int32)) (x1 : Int32) (x2 : Int32), M_X0_store_b10 states size n kept keptSizes x1 x2 = some res → X G l RX0 cX0_store 3 (x_R 1 0 0) (x_Cm G none false (x_is none (WLog G a states size res.1 res.2)) 0 0) 0 0 10 [(0, .ref (a 0)), (1, .int x1), (2, .int x2)] [] (WLog G a states size kept keptSizes) := by
  intro n
  induction n with
  | zero =>
    intro _ _ _ _ h
    cases h
  | succ n ih =>
    intro kept keptSizes x1 x2 h
    rw [M_X0_store_b10] at h
    refine x_iload_n dX0_store_10 2 rfl rfl ?_
    refine x_aload_n dX0_store_11 0 rfl rfl ?_
    refine x_get (ci := 0) 1 0 dX0_store_12 fl_X0_15 inX0 rfl (by decide) ⟨rfl, rfl, rfl⟩ rfl rfl ?_
    refine x_icmp_gt 44 dX0_store_15 (by decide) (fun c1 => ?_) (fun c1 => ?_)
    · have h := x_pos c1 h
      refine x_lv [0, 1] rfl ?_
      exact w_X0_store_b44  _ _ _ h
    · have h := x_neg c1 h
      refine x_iload_n dX0_store_18 2 rfl rfl ?_
      refine x_bipush 40 dX0_store_19 (by decide) ?_
      refine x_icmp_gt 44 dX0_store_21 (by decide) (fun c2 => ?_) (fun c2 => ?_)
      · have h := x_pos c2 h
        refine x_lv [0, 1] rfl ?_
        exact w_X0_store_b44  _ _ _ h
      · have h := x_neg c2 h
        refine x_aload_n dX0_store_24 0 rfl rfl ?_
        refine x_get (ci := 0) 2 0 dX0_store_25 fl_X0_21 inX0 rfl (by decide) ⟨rfl, rfl, rfl⟩ rfl rfl ?_
        refine x_iload_n dX0_store_28 1 rfl rfl ?_
        obtain ⟨b3, h⟩ := x_guard h
        refine x_aald 4 2 (a (4 + x1.toNatClampNeg)) dX0_store_29 rfl rfl rfl b3 (x_oc_at b3) ?_
        refine x_iload_n dX0_store_30 2 rfl rfl ?_
        refine x_aload_n dX0_store_31 0 rfl rfl ?_
        refine x_get (ci := 0) 0 0 dX0_store_32 fl_X0_9 inX0 rfl (by decide) ⟨rfl, rfl, rfl⟩ rfl rfl ?_
        refine x_iload_n dX0_store_35 2 rfl rfl ?_
        obtain ⟨b4, h⟩ := x_guard h
        refine x_lald x2.toNatClampNeg (q0 := 1) dX0_store_36 rfl rfl b4 ?_
        refine x_last x2.toNatClampNeg (q0 := x1.toNatClampNeg + 4) (WLog G a states size ((upd2 kept x1.toNatClampNeg (vp_updL (kept x1.toNatClampNeg) x2.toNatClampNeg (states x2.toNatClampNeg)))) keptSizes) dX0_store_37 rfl (WLog_at (Nat.not_le.mp fun q => b3 (Or.inr q))) b4 WLog_set ?_
        refine x_iinc (j := 2) (1 : Int32) [(2, .int (x2 + (1 : Int32))), (0, .ref (a 0)), (1, .int x1)] dX0_store_38 (by decide) rfl (by decide) rfl ?_
        refine x_goto 10 dX0_store_41 (by decide) ?_
        refine x_lv [1, 2, 0] rfl ?_
        exact ih _ _ _ _ h
def M_X0_store (states : (Nat → Int64)) (size : Int32) (kept : (Nat → Nat → Int64)) (keptSizes : (Nat → Int32)) (x1 : Int32) : Option ((Nat → Nat → Int64) × (Nat → Int32)) :=
  if (M_X0_isKeepingPlace x1) = 0 then
  (some (kept, keptSizes))
  else
  (M_X0_store_b10 states size x_fuel kept keptSizes x1 (0 : Int32))
set_option maxHeartbeats 4000000 in
set_option maxRecDepth 100000 in
theorem c_X0_store {G : x_G} {l : Launch} {a : Nat → Nat} {states : (Nat → Int64)} {size : Int32} {kept : (Nat → Nat → Int64)} {keptSizes : (Nat → Int32)} {x1 : Int32} {res : (Nat → Nat → Int64) × (Nat → Int32)} (h : M_X0_store states size kept keptSizes x1 = some res) : x_M G l yX0_store cX0_store 3 none (1) 0 0 [.ref (a 0), .int x1] (WLog G a states size kept keptSizes) (x_is none (WLog G a states size res.1 res.2)) := by
  unfold M_X0_store at h
  refine x_enter (ini := false) (by decide) rfl (by decide) rfl (Nat.le_of_ble_eq_true rfl) ?_
  refine x_aload_n dX0_store_0 0 rfl rfl ?_
  refine x_iload_n dX0_store_1 1 rfl rfl ?_
  refine x_cV (As := [.int x1]) (wc := (WLog G a states size kept keptSizes)) (w1 := (WLog G a states size kept keptSizes)) (pre := []) (post := []) (rest := []) (st1 := [.int (M_X0_isKeepingPlace x1)]) (ws1 := (WLog G a states size kept keptSizes)) (ci := 0) 0 dX0_store_2 (c_X0_isKeepingPlace (a := a) rfl) pk_X0_isKeepingPlace ml_X0_28 (x_full _) rfl rfl rfl rfl rfl rfl rfl rfl (x_full _).symm ?_
  refine x_if_eq 54 dX0_store_5 (by decide) (fun c6 => ?_) (fun c6 => ?_)
  · have h := x_pos c6 h
    cases h
    exact x_return dX0_store_54 (x_is.rf _ _)
  · have h := x_neg c6 h
    refine x_iconst 0 dX0_store_8 (by decide) ?_
    refine x_istore_n [(2, .int (0 : Int32)), (0, .ref (a 0)), (1, .int x1)] dX0_store_9 rfl (by decide) rfl ?_
    refine x_lv [1, 2, 0] rfl ?_
    exact w_X0_store_b10  _ _ _ _ _ h
theorem pk_X0_deeds : x_pv RX0 yX0_deeds cX0_deeds 1 (some .int) 0 := ⟨⟨co_X0_deeds, ni_X0, by decide, by decide +kernel⟩, im_X0_deeds, se_X0_deeds⟩
def M_X0_deeds (size : Int32) : Int32 :=
  size
set_option maxHeartbeats 4000000 in
set_option maxRecDepth 100000 in
theorem c_X0_deeds {G : x_G} {l : Launch} {a : Nat → Nat} {size : Int32} {states : (Nat → Int64)} {kept : (Nat → Nat → Int64)} {keptSizes : (Nat → Int32)} {res : Int32} (h : M_X0_deeds size = res) : x_M G l yX0_deeds cX0_deeds 1 (some .int) (0) 0 0 [.ref (a 0)] (WLog G a states size kept keptSizes) (x_is (some (.int res)) (WLog G a states size kept keptSizes)) := by
  unfold M_X0_deeds at h
  refine x_enter (ini := false) (by decide) rfl (by decide) rfl (Nat.le_of_ble_eq_true rfl) ?_
  refine x_aload_n dX0_deeds_0 0 rfl rfl ?_
  refine x_get (ci := 0) 1 0 dX0_deeds_1 fl_X0_15 inX0 rfl (by decide) ⟨rfl, rfl, rfl⟩ rfl rfl ?_
  subst h
  exact x_ireturn dX0_deeds_4 rfl (x_is.rf _ _)
theorem pk_X0_countKept : x_pv RX0 yX0_countKept cX0_countKept 3 (some .int) 0 := ⟨⟨co_X0_countKept, ni_X0, by decide, by decide +kernel⟩, im_X0_countKept, se_X0_countKept⟩
def M_X0_countKept_b22 (keptSizes : (Nat → Int32)) (k4 : Int32 → Int32 → Option (Int32)) (x1 : Int32) (x2 : Int32) : Option (Int32) :=
  k4 x1 (x2 + (1 : Int32))
set_option maxHeartbeats 4000000 in
set_option maxRecDepth 100000 in
theorem w_X0_countKept_b22 {G : x_G} {l : Launch} {a : Nat → Nat} {keptSizes : (Nat → Int32)} {states : (Nat → Int64)} {size : Int32} {kept : (Nat → Nat → Int64)} {k4 : Int32 → Int32 → Option (Int32)} {res : Int32} (hk4 : ∀ (x1 : Int32) (x2 : Int32), k4 x1 x2 = some res → X G l RX0 cX0_countKept 3 (x_R 0 0 0) (x_Cm G (some .int) false (x_is (some (.int res)) (WLog G a states size kept keptSizes)) 0 0) 0 0 4 [(0, .ref (a 0)), (1, .int x1), (2, .int x2)] [] (WLog G a states size kept keptSizes)) (x1 : Int32) (x2 : Int32) (h : M_X0_countKept_b22 keptSizes k4 x1 x2 = some res) : X G l RX0 cX0_countKept 3 (x_R 0 0 0) (x_Cm G (some .int) false (x_is (some (.int res)) (WLog G a states size kept keptSizes)) 0 0) 0 0 22 [(0, .ref (a 0)), (1, .int x1), (2, .int x2)] [] (WLog G a states size kept keptSizes) := by
  unfold M_X0_countKept_b22 at h
  refine x_iinc (j := 2) (1 : Int32) [(2, .int (x2 + (1 : Int32))), (0, .ref (a 0)), (1, .int x1)] dX0_countKept_22 (by decide) rfl (by decide) rfl ?_
  refine x_goto 4 dX0_countKept_25 (by decide) ?_
  refine x_lv [1, 2, 0] rfl ?_
  exact hk4 _ _ h
def M_X0_countKept_b4 (keptSizes : (Nat → Int32)) : Nat → Int32 → Int32 → Option (Int32)
  | 0, _, _ => none
  | n + 1, x1, x2 =>
    if (3 : Int32) ≤ x2 then
    (some (x1))
    else
    (if inb x2 3 then
    if (keptSizes x2.toNatClampNeg) = (-1 : Int32) then
    (M_X0_countKept_b22 keptSizes (fun (x1' : Int32) (x2' : Int32) => M_X0_countKept_b4 keptSizes n x1' x2') x1 x2)
    else
    (M_X0_countKept_b22 keptSizes (fun (x1' : Int32) (x2' : Int32) => M_X0_countKept_b4 keptSizes n x1' x2') (x1 + (1 : Int32)) x2)
    else none)
set_option maxHeartbeats 4000000 in
set_option maxRecDepth 100000 in
theorem w_X0_countKept_b4 {G : x_G} {l : Launch} {a : Nat → Nat} {keptSizes : (Nat → Int32)} {states : (Nat → Int64)} {size : Int32} {kept : (Nat → Nat → Int64)} {res : Int32} : ∀ (n : Nat) (x1 : Int32) (x2 : Int32), M_X0_countKept_b4 keptSizes n x1 x2 = some res → X G l RX0 cX0_countKept 3 (x_R 0 0 0) (x_Cm G (some .int) false (x_is (some (.int res)) (WLog G a states size kept keptSizes)) 0 0) 0 0 4 [(0, .ref (a 0)), (1, .int x1), (2, .int x2)] [] (WLog G a states size kept keptSizes) := by
  intro n
  induction n with
  | zero =>
    intro _ _ h
    cases h
  | succ n ih =>
    intro x1 x2 h
    rw [M_X0_countKept_b4] at h
    refine x_iload_n dX0_countKept_4 2 rfl rfl ?_
    refine x_iconst 3 dX0_countKept_5 (by decide) ?_
    refine x_icmp_ge 28 dX0_countKept_6 (by decide) (fun c1 => ?_) (fun c1 => ?_)
    · have h := x_pos c1 h
      refine x_iload_n dX0_countKept_28 1 rfl rfl ?_
      cases h
      exact x_ireturn dX0_countKept_29 rfl (x_is.rf _ _)
    · have h := x_neg c1 h
      refine x_aload_n dX0_countKept_9 0 rfl rfl ?_
      refine x_get (ci := 0) 3 0 dX0_countKept_10 fl_X0_24 inX0 rfl (by decide) ⟨rfl, rfl, rfl⟩ rfl rfl ?_
      refine x_iload_n dX0_countKept_13 2 rfl rfl ?_
      obtain ⟨b2, h⟩ := x_guard h
      refine x_iald x2.toNatClampNeg (q0 := 3) dX0_countKept_14 rfl rfl b2 ?_
      refine x_iconst (-1 : Int32) dX0_countKept_15 (by decide) ?_
      refine x_icmp_eq 22 dX0_countKept_16 (by decide) (fun c3 => ?_) (fun c3 => ?_)
      · have h := x_pos c3 h
        exact w_X0_countKept_b22 (fun x1' x2' h => ih x1' x2' h) _ _ h
      · have h := x_neg c3 h
        refine x_iinc (j := 1) (1 : Int32) [(1, .int (x1 + (1 : Int32))), (0, .ref (a 0)), (2, .int x2)] dX0_countKept_19 (by decide) rfl (by decide) rfl ?_
        refine x_lv [1, 0, 2] rfl ?_
        exact w_X0_countKept_b22 (fun x1' x2' h => ih x1' x2' h) _ _ h
def M_X0_countKept (keptSizes : (Nat → Int32)) : Option (Int32) :=
  M_X0_countKept_b4 keptSizes x_fuel (0 : Int32) (0 : Int32)
set_option maxHeartbeats 4000000 in
set_option maxRecDepth 100000 in
theorem c_X0_countKept {G : x_G} {l : Launch} {a : Nat → Nat} {keptSizes : (Nat → Int32)} {states : (Nat → Int64)} {size : Int32} {kept : (Nat → Nat → Int64)} {res : Int32} (h : M_X0_countKept keptSizes = some res) : x_M G l yX0_countKept cX0_countKept 3 (some .int) (0) 0 0 [.ref (a 0)] (WLog G a states size kept keptSizes) (x_is (some (.int res)) (WLog G a states size kept keptSizes)) := by
  unfold M_X0_countKept at h
  refine x_enter (ini := false) (by decide) rfl (by decide) rfl (Nat.le_of_ble_eq_true rfl) ?_
  refine x_iconst 0 dX0_countKept_0 (by decide) ?_
  refine x_istore_n [(1, .int (0 : Int32)), (0, .ref (a 0))] dX0_countKept_1 rfl (by decide) rfl ?_
  refine x_iconst 0 dX0_countKept_2 (by decide) ?_
  refine x_istore_n [(2, .int (0 : Int32)), (1, .int (0 : Int32)), (0, .ref (a 0))] dX0_countKept_3 rfl (by decide) rfl ?_
  refine x_lv [2, 1, 0] rfl ?_
  exact w_X0_countKept_b4  _ _ _ h
theorem pk_X0_goBack : x_pv RX0 yX0_goBack cX0_goBack 2 none 1 := ⟨⟨co_X0_goBack, ni_X0, by decide, by decide +kernel⟩, im_X0_goBack, se_X0_goBack⟩
def M_X0_goBack (size : Int32) (x1 : Int32) : Int32 :=
  if x1 < 0 then
  (size)
  else
  (if size < x1 then
  (size)
  else
  (x1))
set_option maxHeartbeats 4000000 in
set_option maxRecDepth 100000 in
theorem c_X0_goBack {G : x_G} {l : Launch} {a : Nat → Nat} {states : (Nat → Int64)} {kept : (Nat → Nat → Int64)} {keptSizes : (Nat → Int32)} {size : Int32} {x1 : Int32} {res : Int32} (h : M_X0_goBack size x1 = res) : x_M G l yX0_goBack cX0_goBack 2 none (0) 0 0 [.ref (a 0), .int x1] (WLog G a states size kept keptSizes) (x_is none (WLog G a states res kept keptSizes)) := by
  unfold M_X0_goBack at h
  refine x_enter (ini := false) (by decide) rfl (by decide) rfl (Nat.le_of_ble_eq_true rfl) ?_
  refine x_iload_n dX0_goBack_0 1 rfl rfl ?_
  refine x_if_lt 17 dX0_goBack_1 (by decide) (fun c1 => ?_) (fun c1 => ?_)
  · have h := x_pos c1 h
    subst h
    exact x_return dX0_goBack_17 (x_is.rf _ _)
  · have h := x_neg c1 h
    refine x_iload_n dX0_goBack_4 1 rfl rfl ?_
    refine x_aload_n dX0_goBack_5 0 rfl rfl ?_
    refine x_get (ci := 0) 1 0 dX0_goBack_6 fl_X0_15 inX0 rfl (by decide) ⟨rfl, rfl, rfl⟩ rfl rfl ?_
    refine x_icmp_gt 17 dX0_goBack_9 (by decide) (fun c2 => ?_) (fun c2 => ?_)
    · have h := x_pos c2 h
      subst h
      exact x_return dX0_goBack_17 (x_is.rf _ _)
    · have h := x_neg c2 h
      refine x_aload_n dX0_goBack_12 0 rfl rfl ?_
      refine x_iload_n dX0_goBack_13 1 rfl rfl ?_
      refine x_put (ci := 0) (ty := .int) 1 0 (WLog G a states x1 kept keptSizes) dX0_goBack_14 fl_X0_15 inX0 tyX0_ok nmX0 rfl (by decide) ⟨rfl, rfl, rfl, rfl, rfl⟩ rfl rfl rfl rfl rfl ?_
      subst h
      exact x_return dX0_goBack_17 (x_is.rf _ _)
theorem pk_X0_deedsKept : x_pv RX0 yX0_deedsKept cX0_deedsKept 2 (some .int) 1 := ⟨⟨co_X0_deedsKept, ni_X0, by decide, by decide +kernel⟩, im_X0_deedsKept, se_X0_deedsKept⟩
def M_X0_deedsKept (keptSizes : (Nat → Int32)) (x1 : Int32) : Option (Int32) :=
  if (M_X0_isKeepingPlace x1) = 0 then
  (some (-1 : Int32))
  else
  (if inb x1 3 then
  some (keptSizes x1.toNatClampNeg)
  else none)
set_option maxHeartbeats 4000000 in
set_option maxRecDepth 100000 in
theorem c_X0_deedsKept {G : x_G} {l : Launch} {a : Nat → Nat} {keptSizes : (Nat → Int32)} {states : (Nat → Int64)} {size : Int32} {kept : (Nat → Nat → Int64)} {x1 : Int32} {res : Int32} (h : M_X0_deedsKept keptSizes x1 = some res) : x_M G l yX0_deedsKept cX0_deedsKept 2 (some .int) (1) 0 0 [.ref (a 0), .int x1] (WLog G a states size kept keptSizes) (x_is (some (.int res)) (WLog G a states size kept keptSizes)) := by
  unfold M_X0_deedsKept at h
  refine x_enter (ini := false) (by decide) rfl (by decide) rfl (Nat.le_of_ble_eq_true rfl) ?_
  refine x_aload_n dX0_deedsKept_0 0 rfl rfl ?_
  refine x_iload_n dX0_deedsKept_1 1 rfl rfl ?_
  refine x_cV (As := [.int x1]) (wc := (WLog G a states size kept keptSizes)) (w1 := (WLog G a states size kept keptSizes)) (pre := []) (post := []) (rest := []) (st1 := [.int (M_X0_isKeepingPlace x1)]) (ws1 := (WLog G a states size kept keptSizes)) (ci := 0) 0 dX0_deedsKept_2 (c_X0_isKeepingPlace (a := a) rfl) pk_X0_isKeepingPlace ml_X0_28 (x_full _) rfl rfl rfl rfl rfl rfl rfl rfl (x_full _).symm ?_
  refine x_if_eq 17 dX0_deedsKept_5 (by decide) (fun c1 => ?_) (fun c1 => ?_)
  · have h := x_pos c1 h
    refine x_iconst (-1 : Int32) dX0_deedsKept_17 (by decide) ?_
    cases h
    exact x_ireturn dX0_deedsKept_18 rfl (x_is.rf _ _)
  · have h := x_neg c1 h
    refine x_aload_n dX0_deedsKept_8 0 rfl rfl ?_
    refine x_get (ci := 0) 3 0 dX0_deedsKept_9 fl_X0_24 inX0 rfl (by decide) ⟨rfl, rfl, rfl⟩ rfl rfl ?_
    refine x_iload_n dX0_deedsKept_12 1 rfl rfl ?_
    obtain ⟨b2, h⟩ := x_guard h
    refine x_iald x1.toNatClampNeg (q0 := 3) dX0_deedsKept_13 rfl rfl b2 ?_
    refine x_goto 18 dX0_deedsKept_14 (by decide) ?_
    cases h
    exact x_ireturn dX0_deedsKept_18 rfl (x_is.rf _ _)
theorem pk_X0_restore : x_pv RX0 yX0_restore cX0_restore 3 none 1 := ⟨⟨co_X0_restore, ni_X0, by decide, by decide +kernel⟩, im_X0_restore, se_X0_restore⟩
def M_X0_restore_b30 (kept : (Nat → Nat → Int64)) (keptSizes : (Nat → Int32)) : Nat → (Nat → Int64) → Int32 → Int32 → Int32 → Option ((Nat → Int64) × Int32)
  | 0, _, _, _, _ => none
  | n + 1, states, size, x1, x2 =>
    if size < x2 then
    (some (states, size))
    else
    (if (40 : Int32) < x2 then
    (some (states, size))
    else
    (if inb x1 3 then
    if inb x2 41 then
    M_X0_restore_b30 kept keptSizes n (vp_updL states x2.toNatClampNeg (kept x1.toNatClampNeg x2.toNatClampNeg)) size x1 (x2 + (1 : Int32))
    else none
    else none))
set_option maxHeartbeats 4000000 in
set_option maxRecDepth 100000 in
theorem w_X0_restore_b30 {G : x_G} {l : Launch} {a : Nat → Nat} {kept : (Nat → Nat → Int64)} {keptSizes : (Nat → Int32)} {res : (Nat → Int64) × Int32} : ∀ (n : Nat) (states : (Nat → Int64)) (size : Int32) (x1 : Int32) (x2 : Int32), M_X0_restore_b30 kept keptSizes n states size x1 x2 = some res → X G l RX0 cX0_restore 3 (x_R 1 0 0) (x_Cm G none false (x_is none (WLog G a res.1 res.2 kept keptSizes)) 0 0) 0 0 30 [(0, .ref (a 0)), (1, .int x1), (2, .int x2)] [] (WLog G a states size kept keptSizes) := by
  intro n
  induction n with
  | zero =>
    intro _ _ _ _ h
    cases h
  | succ n ih =>
    intro states size x1 x2 h
    rw [M_X0_restore_b30] at h
    refine x_iload_n dX0_restore_30 2 rfl rfl ?_
    refine x_aload_n dX0_restore_31 0 rfl rfl ?_
    refine x_get (ci := 0) 1 0 dX0_restore_32 fl_X0_15 inX0 rfl (by decide) ⟨rfl, rfl, rfl⟩ rfl rfl ?_
    refine x_icmp_gt 64 dX0_restore_35 (by decide) (fun c1 => ?_) (fun c1 => ?_)
    · have h := x_pos c1 h
      cases h
      exact x_return dX0_restore_64 (x_is.rf _ _)
    · have h := x_neg c1 h
      refine x_iload_n dX0_restore_38 2 rfl rfl ?_
      refine x_bipush 40 dX0_restore_39 (by decide) ?_
      refine x_icmp_gt 64 dX0_restore_41 (by decide) (fun c2 => ?_) (fun c2 => ?_)
      · have h := x_pos c2 h
        cases h
        exact x_return dX0_restore_64 (x_is.rf _ _)
      · have h := x_neg c2 h
        refine x_aload_n dX0_restore_44 0 rfl rfl ?_
        refine x_get (ci := 0) 0 0 dX0_restore_45 fl_X0_9 inX0 rfl (by decide) ⟨rfl, rfl, rfl⟩ rfl rfl ?_
        refine x_iload_n dX0_restore_48 2 rfl rfl ?_
        refine x_aload_n dX0_restore_49 0 rfl rfl ?_
        refine x_get (ci := 0) 2 0 dX0_restore_50 fl_X0_21 inX0 rfl (by decide) ⟨rfl, rfl, rfl⟩ rfl rfl ?_
        refine x_iload_n dX0_restore_53 1 rfl rfl ?_
        obtain ⟨b3, h⟩ := x_guard h
        refine x_aald 4 2 (a (4 + x1.toNatClampNeg)) dX0_restore_54 rfl rfl rfl b3 (x_oc_at b3) ?_
        refine x_iload_n dX0_restore_55 2 rfl rfl ?_
        obtain ⟨b4, h⟩ := x_guard h
        refine x_lald x2.toNatClampNeg (q0 := x1.toNatClampNeg + 4) dX0_restore_56 rfl (WLog_at (Nat.not_le.mp fun q => b3 (Or.inr q))) b4 ?_
        refine x_last x2.toNatClampNeg (q0 := 1) (WLog G a ((vp_updL states x2.toNatClampNeg (kept x1.toNatClampNeg x2.toNatClampNeg))) size kept keptSizes) dX0_restore_57 rfl rfl b4 rfl ?_
        refine x_iinc (j := 2) (1 : Int32) [(2, .int (x2 + (1 : Int32))), (0, .ref (a 0)), (1, .int x1)] dX0_restore_58 (by decide) rfl (by decide) rfl ?_
        refine x_goto 30 dX0_restore_61 (by decide) ?_
        refine x_lv [1, 2, 0] rfl ?_
        exact ih _ _ _ _ h
def M_X0_restore (kept : (Nat → Nat → Int64)) (keptSizes : (Nat → Int32)) (states : (Nat → Int64)) (size : Int32) (x1 : Int32) : Option ((Nat → Int64) × Int32) :=
  if (M_X0_isKeepingPlace x1) = 0 then
  (some (states, size))
  else
  (if inb x1 3 then
  if (keptSizes x1.toNatClampNeg) = (-1 : Int32) then
  (some (states, size))
  else
  (M_X0_restore_b30 kept keptSizes x_fuel states (keptSizes x1.toNatClampNeg) x1 (0 : Int32))
  else none)
set_option maxHeartbeats 4000000 in
set_option maxRecDepth 100000 in
theorem c_X0_restore {G : x_G} {l : Launch} {a : Nat → Nat} {kept : (Nat → Nat → Int64)} {keptSizes : (Nat → Int32)} {states : (Nat → Int64)} {size : Int32} {x1 : Int32} {res : (Nat → Int64) × Int32} (h : M_X0_restore kept keptSizes states size x1 = some res) : x_M G l yX0_restore cX0_restore 3 none (1) 0 0 [.ref (a 0), .int x1] (WLog G a states size kept keptSizes) (x_is none (WLog G a res.1 res.2 kept keptSizes)) := by
  unfold M_X0_restore at h
  refine x_enter (ini := false) (by decide) rfl (by decide) rfl (Nat.le_of_ble_eq_true rfl) ?_
  refine x_aload_n dX0_restore_0 0 rfl rfl ?_
  refine x_iload_n dX0_restore_1 1 rfl rfl ?_
  refine x_cV (As := [.int x1]) (wc := (WLog G a states size kept keptSizes)) (w1 := (WLog G a states size kept keptSizes)) (pre := []) (post := []) (rest := []) (st1 := [.int (M_X0_isKeepingPlace x1)]) (ws1 := (WLog G a states size kept keptSizes)) (ci := 0) 0 dX0_restore_2 (c_X0_isKeepingPlace (a := a) rfl) pk_X0_isKeepingPlace ml_X0_28 (x_full _) rfl rfl rfl rfl rfl rfl rfl rfl (x_full _).symm ?_
  refine x_if_eq 64 dX0_restore_5 (by decide) (fun c5 => ?_) (fun c5 => ?_)
  · have h := x_pos c5 h
    cases h
    exact x_return dX0_restore_64 (x_is.rf _ _)
  · have h := x_neg c5 h
    refine x_aload_n dX0_restore_8 0 rfl rfl ?_
    refine x_get (ci := 0) 3 0 dX0_restore_9 fl_X0_24 inX0 rfl (by decide) ⟨rfl, rfl, rfl⟩ rfl rfl ?_
    refine x_iload_n dX0_restore_12 1 rfl rfl ?_
    obtain ⟨b6, h⟩ := x_guard h
    refine x_iald x1.toNatClampNeg (q0 := 3) dX0_restore_13 rfl rfl b6 ?_
    refine x_iconst (-1 : Int32) dX0_restore_14 (by decide) ?_
    refine x_icmp_eq 64 dX0_restore_15 (by decide) (fun c7 => ?_) (fun c7 => ?_)
    · have h := x_pos c7 h
      cases h
      exact x_return dX0_restore_64 (x_is.rf _ _)
    · have h := x_neg c7 h
      refine x_aload_n dX0_restore_18 0 rfl rfl ?_
      refine x_aload_n dX0_restore_19 0 rfl rfl ?_
      refine x_get (ci := 0) 3 0 dX0_restore_20 fl_X0_24 inX0 rfl (by decide) ⟨rfl, rfl, rfl⟩ rfl rfl ?_
      refine x_iload_n dX0_restore_23 1 rfl rfl ?_
      refine x_iald x1.toNatClampNeg (q0 := 3) dX0_restore_24 rfl rfl b6 ?_
      refine x_put (ci := 0) (ty := .int) 1 0 (WLog G a states ((keptSizes x1.toNatClampNeg)) kept keptSizes) dX0_restore_25 fl_X0_15 inX0 tyX0_ok nmX0 rfl (by decide) ⟨rfl, rfl, rfl, rfl, rfl⟩ rfl rfl rfl rfl rfl ?_
      refine x_iconst 0 dX0_restore_28 (by decide) ?_
      refine x_istore_n [(2, .int (0 : Int32)), (0, .ref (a 0)), (1, .int x1)] dX0_restore_29 rfl (by decide) rfl ?_
      refine x_lv [1, 2, 0] rfl ?_
      exact w_X0_restore_b30  _ _ _ _ _ h
