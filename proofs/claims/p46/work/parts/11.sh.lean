theorem pk_X4_isNumber : x_pv RX4 yX4_isNumber cX4_isNumber 2 (some .boolean) 1 := ⟨⟨co_X4_isNumber, ni_X4, by decide, by decide +kernel⟩, im_X4_isNumber, se_X4_isNumber⟩
def M_X4_isNumber (N : Nat) (M : Nat) (x1 : Int32) : Int32 :=
  if x1 < 0 then
  ((0 : Int32))
  else
  (if (Int32.ofNat N) ≤ x1 then
  ((0 : Int32))
  else
  ((1 : Int32)))
theorem M_X4_isNumber_b {N : Nat} {M : Nat} {x1 : Int32} : narrow .boolean (.int (M_X4_isNumber N M x1)) = .int (M_X4_isNumber N M x1) := by
  simp only [M_X4_isNumber]
  repeat' split
  all_goals first | rfl
set_option maxHeartbeats 4000000 in
set_option maxRecDepth 100000 in
theorem c_X4_isNumber {G : x_G} {l : Launch} {ax : Nat → Nat} {N : Nat} {M : Nat} {most : Int32} {blank : Int32} {sizes : (Nat → Int32)} {places : (Nat → Nat → Int32)} {x1 : Int32} {res : Int32} (h : M_X4_isNumber N M x1 = res) : x_M G l yX4_isNumber cX4_isNumber 2 (some .boolean) (0) 0 0 [.ref (ax 0), .int x1] (WShelf G ax N M most blank sizes places) (x_is (some (.int res)) (WShelf G ax N M most blank sizes places)) := by
  unfold M_X4_isNumber at h
  refine x_enter (ini := false) (by decide) rfl (by decide) rfl (Nat.le_of_ble_eq_true rfl) ?_
  refine x_iload_n dX4_isNumber_0 1 rfl rfl ?_
  refine x_if_lt 17 dX4_isNumber_1 (by decide) (fun c1 => ?_) (fun c1 => ?_)
  · have h := x_pos c1 h
    refine x_iconst 0 dX4_isNumber_17 (by decide) ?_
    subst h
    exact x_ireturn dX4_isNumber_18 rfl (x_is.rf _ _)
  · have h := x_neg c1 h
    refine x_iload_n dX4_isNumber_4 1 rfl rfl ?_
    refine x_aload_n dX4_isNumber_5 0 rfl rfl ?_
    refine x_get (ci := 3) 3 0 dX4_isNumber_6 fl_X4_29 inX4 rfl (by decide) ⟨rfl, rfl, rfl⟩ rfl rfl ?_
    refine x_alen 0 2 (Int32.ofNat N) dX4_isNumber_9 rfl rfl rfl ?_
    refine x_icmp_ge 17 dX4_isNumber_10 (by decide) (fun c2 => ?_) (fun c2 => ?_)
    · have h := x_pos c2 h
      refine x_iconst 0 dX4_isNumber_17 (by decide) ?_
      subst h
      exact x_ireturn dX4_isNumber_18 rfl (x_is.rf _ _)
    · have h := x_neg c2 h
      refine x_iconst 1 dX4_isNumber_13 (by decide) ?_
      refine x_goto 18 dX4_isNumber_14 (by decide) ?_
      subst h
      exact x_ireturn dX4_isNumber_18 rfl (x_is.rf _ _)
theorem pk_X4_size : x_pv RX4 yX4_size cX4_size 2 (some .int) 1 := ⟨⟨co_X4_size, ni_X4, by decide, by decide +kernel⟩, im_X4_size, se_X4_size⟩
def M_X4_size (N : Nat) (M : Nat) (sizes : (Nat → Int32)) (x1 : Int32) : Option (Int32) :=
  if (M_X4_isNumber N M x1) = 0 then
  (some (-1 : Int32))
  else
  (if inb x1 N then
  some (sizes x1.toNatClampNeg)
  else none)
set_option maxHeartbeats 4000000 in
set_option maxRecDepth 100000 in
theorem c_X4_size {G : x_G} {l : Launch} {ax : Nat → Nat} {N : Nat} {M : Nat} {sizes : (Nat → Int32)} {most : Int32} {blank : Int32} {places : (Nat → Nat → Int32)} {x1 : Int32} {res : Int32} (h : M_X4_size N M sizes x1 = some res) : x_M G l yX4_size cX4_size 2 (some .int) (1) 0 0 [.ref (ax 0), .int x1] (WShelf G ax N M most blank sizes places) (x_is (some (.int res)) (WShelf G ax N M most blank sizes places)) := by
  unfold M_X4_size at h
  refine x_enter (ini := false) (by decide) rfl (by decide) rfl (Nat.le_of_ble_eq_true rfl) ?_
  refine x_aload_n dX4_size_0 0 rfl rfl ?_
  refine x_iload_n dX4_size_1 1 rfl rfl ?_
  refine x_cV (As := [.int x1]) (wc := (WShelf G ax N M most blank sizes places)) (w1 := (WShelf G ax N M most blank sizes places)) (pre := []) (post := []) (rest := []) (st1 := [.int (M_X4_isNumber N M x1)]) (ws1 := (WShelf G ax N M most blank sizes places)) (ci := 3) 0 dX4_size_2 (c_X4_isNumber (ax := ax) rfl) pk_X4_isNumber ml_X4_37 (x_full _) rfl rfl rfl rfl rfl rfl rfl rfl (x_full _).symm ?_
  refine x_if_eq 17 dX4_size_5 (by decide) (fun c1 => ?_) (fun c1 => ?_)
  · have h := x_pos c1 h
    refine x_iconst (-1 : Int32) dX4_size_17 (by decide) ?_
    cases h
    exact x_ireturn dX4_size_18 rfl (x_is.rf _ _)
  · have h := x_neg c1 h
    refine x_aload_n dX4_size_8 0 rfl rfl ?_
    refine x_get (ci := 3) 3 0 dX4_size_9 fl_X4_29 inX4 rfl (by decide) ⟨rfl, rfl, rfl⟩ rfl rfl ?_
    refine x_iload_n dX4_size_12 1 rfl rfl ?_
    obtain ⟨b2, h⟩ := x_guard h
    refine x_iald x1.toNatClampNeg (q0 := 2) dX4_size_13 rfl rfl b2 ?_
    refine x_goto 18 dX4_size_14 (by decide) ?_
    cases h
    exact x_ireturn dX4_size_18 rfl (x_is.rf _ _)
theorem pk_X4_isThere : x_pv RX4 yX4_isThere cX4_isThere 2 (some .boolean) 1 := ⟨⟨co_X4_isThere, ni_X4, by decide, by decide +kernel⟩, im_X4_isThere, se_X4_isThere⟩
def M_X4_isThere (N : Nat) (M : Nat) (sizes : (Nat → Int32)) (x1 : Int32) : Option (Int32) :=
  (M_X4_size N M sizes x1).bind fun r1 =>
  if r1 = (-1 : Int32) then
  (some (0 : Int32))
  else
  (some (1 : Int32))
set_option maxHeartbeats 4000000 in
set_option maxRecDepth 100000 in
theorem c_X4_isThere {G : x_G} {l : Launch} {ax : Nat → Nat} {N : Nat} {M : Nat} {sizes : (Nat → Int32)} {most : Int32} {blank : Int32} {places : (Nat → Nat → Int32)} {x1 : Int32} {res : Int32} (h : M_X4_isThere N M sizes x1 = some res) : x_M G l yX4_isThere cX4_isThere 2 (some .boolean) (2) 0 0 [.ref (ax 0), .int x1] (WShelf G ax N M most blank sizes places) (x_is (some (.int res)) (WShelf G ax N M most blank sizes places)) := by
  unfold M_X4_isThere at h
  refine x_enter (ini := false) (by decide) rfl (by decide) rfl (Nat.le_of_ble_eq_true rfl) ?_
  refine x_aload_n dX4_isThere_0 0 rfl rfl ?_
  refine x_iload_n dX4_isThere_1 1 rfl rfl ?_
  obtain ⟨r1, e2, h⟩ := x_bind h
  refine x_cV (As := [.int x1]) (wc := (WShelf G ax N M most blank sizes places)) (w1 := (WShelf G ax N M most blank sizes places)) (pre := []) (post := []) (rest := []) (st1 := [.int r1]) (ws1 := (WShelf G ax N M most blank sizes places)) (ci := 3) 0 dX4_isThere_2 (c_X4_size (ax := ax) e2) pk_X4_size ml_X4_33 (x_full _) rfl rfl rfl rfl rfl rfl rfl rfl (x_full _).symm ?_
  refine x_iconst (-1 : Int32) dX4_isThere_5 (by decide) ?_
  refine x_icmp_eq 13 dX4_isThere_6 (by decide) (fun c3 => ?_) (fun c3 => ?_)
  · have h := x_pos c3 h
    refine x_iconst 0 dX4_isThere_13 (by decide) ?_
    cases h
    exact x_ireturn dX4_isThere_14 rfl (x_is.rf _ _)
  · have h := x_neg c3 h
    refine x_iconst 1 dX4_isThere_9 (by decide) ?_
    refine x_goto 14 dX4_isThere_10 (by decide) ?_
    cases h
    exact x_ireturn dX4_isThere_14 rfl (x_is.rf _ _)
theorem pk_X4_hasPlace : x_pv RX4 yX4_hasPlace cX4_hasPlace 3 (some .boolean) 2 := ⟨⟨co_X4_hasPlace, ni_X4, by decide, by decide +kernel⟩, im_X4_hasPlace, se_X4_hasPlace⟩
def M_X4_hasPlace (N : Nat) (M : Nat) (sizes : (Nat → Int32)) (x1 : Int32) (x2 : Int32) : Option (Int32) :=
  if x2 < 0 then
  (some (0 : Int32))
  else
  ((M_X4_size N M sizes x1).bind fun r2 =>
  if r2 ≤ x2 then
  (some (0 : Int32))
  else
  (some (1 : Int32)))
set_option maxHeartbeats 4000000 in
set_option maxRecDepth 100000 in
theorem c_X4_hasPlace {G : x_G} {l : Launch} {ax : Nat → Nat} {N : Nat} {M : Nat} {sizes : (Nat → Int32)} {most : Int32} {blank : Int32} {places : (Nat → Nat → Int32)} {x1 : Int32} {x2 : Int32} {res : Int32} (h : M_X4_hasPlace N M sizes x1 x2 = some res) : x_M G l yX4_hasPlace cX4_hasPlace 3 (some .boolean) (2) 0 0 [.ref (ax 0), .int x1, .int x2] (WShelf G ax N M most blank sizes places) (x_is (some (.int res)) (WShelf G ax N M most blank sizes places)) := by
  unfold M_X4_hasPlace at h
  refine x_enter (ini := false) (by decide) rfl (by decide) rfl (Nat.le_of_ble_eq_true rfl) ?_
  refine x_iload_n dX4_hasPlace_0 2 rfl rfl ?_
  refine x_if_lt 17 dX4_hasPlace_1 (by decide) (fun c1 => ?_) (fun c1 => ?_)
  · have h := x_pos c1 h
    refine x_iconst 0 dX4_hasPlace_17 (by decide) ?_
    cases h
    exact x_ireturn dX4_hasPlace_18 rfl (x_is.rf _ _)
  · have h := x_neg c1 h
    refine x_iload_n dX4_hasPlace_4 2 rfl rfl ?_
    refine x_aload_n dX4_hasPlace_5 0 rfl rfl ?_
    refine x_iload_n dX4_hasPlace_6 1 rfl rfl ?_
    obtain ⟨r2, e3, h⟩ := x_bind h
    refine x_cV (As := [.int x1]) (wc := (WShelf G ax N M most blank sizes places)) (w1 := (WShelf G ax N M most blank sizes places)) (pre := []) (post := []) (rest := [.int x2]) (st1 := [.int r2, .int x2]) (ws1 := (WShelf G ax N M most blank sizes places)) (ci := 3) 0 dX4_hasPlace_7 (c_X4_size (ax := ax) e3) pk_X4_size ml_X4_33 (x_full _) rfl rfl rfl rfl rfl rfl rfl rfl (x_full _).symm ?_
    refine x_icmp_ge 17 dX4_hasPlace_10 (by decide) (fun c4 => ?_) (fun c4 => ?_)
    · have h := x_pos c4 h
      refine x_iconst 0 dX4_hasPlace_17 (by decide) ?_
      cases h
      exact x_ireturn dX4_hasPlace_18 rfl (x_is.rf _ _)
    · have h := x_neg c4 h
      refine x_iconst 1 dX4_hasPlace_13 (by decide) ?_
      refine x_goto 18 dX4_hasPlace_14 (by decide) ?_
      cases h
      exact x_ireturn dX4_hasPlace_18 rfl (x_is.rf _ _)
theorem pk_X4_get : x_pv RX4 yX4_get cX4_get 3 (some .int) 2 := ⟨⟨co_X4_get, ni_X4, by decide, by decide +kernel⟩, im_X4_get, se_X4_get⟩
def M_X4_get (N : Nat) (M : Nat) (sizes : (Nat → Int32)) (places : (Nat → Nat → Int32)) (x1 : Int32) (x2 : Int32) : Option (Int32) :=
  (M_X4_hasPlace N M sizes x1 x2).bind fun r1 =>
  if r1 = 0 then
  (some (0 : Int32))
  else
  (if inb x1 N then
  if inb x2 M then
  some (places x1.toNatClampNeg x2.toNatClampNeg)
  else none
  else none)
set_option maxHeartbeats 4000000 in
set_option maxRecDepth 100000 in
theorem c_X4_get {G : x_G} {l : Launch} {ax : Nat → Nat} {N : Nat} {M : Nat} {sizes : (Nat → Int32)} {places : (Nat → Nat → Int32)} {most : Int32} {blank : Int32} {x1 : Int32} {x2 : Int32} {res : Int32} (h : M_X4_get N M sizes places x1 x2 = some res) : x_M G l yX4_get cX4_get 3 (some .int) (3) 0 0 [.ref (ax 0), .int x1, .int x2] (WShelf G ax N M most blank sizes places) (x_is (some (.int res)) (WShelf G ax N M most blank sizes places)) := by
  unfold M_X4_get at h
  refine x_enter (ini := false) (by decide) rfl (by decide) rfl (Nat.le_of_ble_eq_true rfl) ?_
  refine x_aload_n dX4_get_0 0 rfl rfl ?_
  refine x_iload_n dX4_get_1 1 rfl rfl ?_
  refine x_iload_n dX4_get_2 2 rfl rfl ?_
  obtain ⟨r1, e2, h⟩ := x_bind h
  refine x_cV (As := [.int x1, .int x2]) (wc := (WShelf G ax N M most blank sizes places)) (w1 := (WShelf G ax N M most blank sizes places)) (pre := []) (post := []) (rest := []) (st1 := [.int r1]) (ws1 := (WShelf G ax N M most blank sizes places)) (ci := 3) 0 dX4_get_3 (c_X4_hasPlace (ax := ax) e2) pk_X4_hasPlace ml_X4_41 (x_full _) rfl rfl rfl rfl rfl rfl rfl rfl (x_full _).symm ?_
  refine x_if_eq 20 dX4_get_6 (by decide) (fun c3 => ?_) (fun c3 => ?_)
  · have h := x_pos c3 h
    refine x_iconst 0 dX4_get_20 (by decide) ?_
    cases h
    exact x_ireturn dX4_get_21 rfl (x_is.rf _ _)
  · have h := x_neg c3 h
    refine x_aload_n dX4_get_9 0 rfl rfl ?_
    refine x_get (ci := 3) 2 0 dX4_get_10 fl_X4_26 inX4 rfl (by decide) ⟨rfl, rfl, rfl⟩ rfl rfl ?_
    refine x_iload_n dX4_get_13 1 rfl rfl ?_
    obtain ⟨b4, h⟩ := x_guard h
    refine x_aald 3 1 (ax (3 + x1.toNatClampNeg)) dX4_get_14 rfl rfl rfl b4 (x_oc_at b4) ?_
    refine x_iload_n dX4_get_15 2 rfl rfl ?_
    obtain ⟨b5, h⟩ := x_guard h
    refine x_iald x2.toNatClampNeg (q0 := x1.toNatClampNeg + 3) dX4_get_16 rfl (WShelf_at (Nat.not_le.mp fun q => b4 (Or.inr q))) b5 ?_
    refine x_goto 21 dX4_get_17 (by decide) ?_
    cases h
    exact x_ireturn dX4_get_21 rfl (x_is.rf _ _)
theorem pk_X4_set : x_pv RX4 yX4_set cX4_set 4 none 3 := ⟨⟨co_X4_set, ni_X4, by decide, by decide +kernel⟩, im_X4_set, se_X4_set⟩
def M_X4_set (N : Nat) (M : Nat) (sizes : (Nat → Int32)) (places : (Nat → Nat → Int32)) (x1 : Int32) (x2 : Int32) (x3 : Int32) : Option ((Nat → Nat → Int32)) :=
  (M_X4_hasPlace N M sizes x1 x2).bind fun r1 =>
  if r1 = 0 then
  (some (places))
  else
  (if inb x1 N then
  if inb x2 M then
  some (upd2 places x1.toNatClampNeg (upd (places x1.toNatClampNeg) x2.toNatClampNeg x3))
  else none
  else none)
set_option maxHeartbeats 4000000 in
set_option maxRecDepth 100000 in
theorem c_X4_set {G : x_G} {l : Launch} {ax : Nat → Nat} {N : Nat} {M : Nat} {sizes : (Nat → Int32)} {most : Int32} {blank : Int32} {places : (Nat → Nat → Int32)} {x1 : Int32} {x2 : Int32} {x3 : Int32} {res : (Nat → Nat → Int32)} (h : M_X4_set N M sizes places x1 x2 x3 = some res) : x_M G l yX4_set cX4_set 4 none (3) 0 0 [.ref (ax 0), .int x1, .int x2, .int x3] (WShelf G ax N M most blank sizes places) (x_is none (WShelf G ax N M most blank sizes res)) := by
  unfold M_X4_set at h
  refine x_enter (ini := false) (by decide) rfl (by decide) rfl (Nat.le_of_ble_eq_true rfl) ?_
  refine x_aload_n dX4_set_0 0 rfl rfl ?_
  refine x_iload_n dX4_set_1 1 rfl rfl ?_
  refine x_iload_n dX4_set_2 2 rfl rfl ?_
  obtain ⟨r1, e2, h⟩ := x_bind h
  refine x_cV (As := [.int x1, .int x2]) (wc := (WShelf G ax N M most blank sizes places)) (w1 := (WShelf G ax N M most blank sizes places)) (pre := []) (post := []) (rest := []) (st1 := [.int r1]) (ws1 := (WShelf G ax N M most blank sizes places)) (ci := 3) 0 dX4_set_3 (c_X4_hasPlace (ax := ax) e2) pk_X4_hasPlace ml_X4_41 (x_full _) rfl rfl rfl rfl rfl rfl rfl rfl (x_full _).symm ?_
  refine x_if_eq 18 dX4_set_6 (by decide) (fun c3 => ?_) (fun c3 => ?_)
  · have h := x_pos c3 h
    cases h
    exact x_return dX4_set_18 (x_is.rf _ _)
  · have h := x_neg c3 h
    refine x_aload_n dX4_set_9 0 rfl rfl ?_
    refine x_get (ci := 3) 2 0 dX4_set_10 fl_X4_26 inX4 rfl (by decide) ⟨rfl, rfl, rfl⟩ rfl rfl ?_
    refine x_iload_n dX4_set_13 1 rfl rfl ?_
    obtain ⟨b4, h⟩ := x_guard h
    refine x_aald 3 1 (ax (3 + x1.toNatClampNeg)) dX4_set_14 rfl rfl rfl b4 (x_oc_at b4) ?_
    refine x_iload_n dX4_set_15 2 rfl rfl ?_
    refine x_iload_n dX4_set_16 3 rfl rfl ?_
    obtain ⟨b5, h⟩ := x_guard h
    refine x_iast x2.toNatClampNeg (q0 := x1.toNatClampNeg + 3) (WShelf G ax N M most blank sizes ((upd2 places x1.toNatClampNeg (upd (places x1.toNatClampNeg) x2.toNatClampNeg x3)))) dX4_set_17 rfl (WShelf_at (Nat.not_le.mp fun q => b4 (Or.inr q))) b5 WShelf_set ?_
    cases h
    exact x_return dX4_set_18 (x_is.rf _ _)
theorem pk_X4_make : x_pv RX4 yX4_make cX4_make 4 none 2 := ⟨⟨co_X4_make, ni_X4, by decide, by decide +kernel⟩, im_X4_make, se_X4_make⟩
def M_X4_make_b29 (N : Nat) (M : Nat) (most : Int32) (blank : Int32) : Nat → (Nat → Int32) → (Nat → Nat → Int32) → Int32 → Int32 → Int32 → Option ((Nat → Int32) × (Nat → Nat → Int32))
  | 0, _, _, _, _, _ => none
  | n + 1, sizes, places, x1, x2, x3 =>
    if x2 ≤ x3 then
    (some (sizes, places))
    else
    (if inb x1 N then
    if inb x3 M then
    M_X4_make_b29 N M most blank n sizes (upd2 places x1.toNatClampNeg (upd (places x1.toNatClampNeg) x3.toNatClampNeg blank)) x1 x2 (x3 + (1 : Int32))
    else none
    else none)
set_option maxHeartbeats 4000000 in
set_option maxRecDepth 100000 in
theorem w_X4_make_b29 {G : x_G} {l : Launch} {ax : Nat → Nat} {N : Nat} {M : Nat} {most : Int32} {blank : Int32} {res : (Nat → Int32) × (Nat → Nat → Int32)} : ∀ (n : Nat) (sizes : (Nat → Int32)) (places : (Nat → Nat → Int32)) (x1 : Int32) (x2 : Int32) (x3 : Int32), M_X4_make_b29 N M most blank n sizes places x1 x2 x3 = some res → X G l RX4 cX4_make 4 (x_R 1 0 0) (x_Cm G none false (x_is none (WShelf G ax N M most blank res.1 res.2)) 0 0) 0 0 29 [(0, .ref (ax 0)), (1, .int x1), (2, .int x2), (3, .int x3)] [] (WShelf G ax N M most blank sizes places) := by
  intro n
  induction n with
  | zero =>
    intro _ _ _ _ _ h
    cases h
  | succ n ih =>
    intro sizes places x1 x2 x3 h
    rw [M_X4_make_b29] at h
    refine x_iload_n dX4_make_29 3 rfl rfl ?_
    refine x_iload_n dX4_make_30 2 rfl rfl ?_
    refine x_icmp_ge 52 dX4_make_31 (by decide) (fun c1 => ?_) (fun c1 => ?_)
    · have h := x_pos c1 h
      cases h
      exact x_return dX4_make_52 (x_is.rf _ _)
    · have h := x_neg c1 h
      refine x_aload_n dX4_make_34 0 rfl rfl ?_
      refine x_get (ci := 3) 2 0 dX4_make_35 fl_X4_26 inX4 rfl (by decide) ⟨rfl, rfl, rfl⟩ rfl rfl ?_
      refine x_iload_n dX4_make_38 1 rfl rfl ?_
      obtain ⟨b2, h⟩ := x_guard h
      refine x_aald 3 1 (ax (3 + x1.toNatClampNeg)) dX4_make_39 rfl rfl rfl b2 (x_oc_at b2) ?_
      refine x_iload_n dX4_make_40 3 rfl rfl ?_
      refine x_aload_n dX4_make_41 0 rfl rfl ?_
      refine x_get (ci := 3) 1 0 dX4_make_42 fl_X4_15 inX4 rfl (by decide) ⟨rfl, rfl, rfl⟩ rfl rfl ?_
      obtain ⟨b3, h⟩ := x_guard h
      refine x_iast x3.toNatClampNeg (q0 := x1.toNatClampNeg + 3) (WShelf G ax N M most blank sizes ((upd2 places x1.toNatClampNeg (upd (places x1.toNatClampNeg) x3.toNatClampNeg blank)))) dX4_make_45 rfl (WShelf_at (Nat.not_le.mp fun q => b2 (Or.inr q))) b3 WShelf_set ?_
      refine x_iinc (j := 3) (1 : Int32) [(3, .int (x3 + (1 : Int32))), (0, .ref (ax 0)), (1, .int x1), (2, .int x2)] dX4_make_46 (by decide) rfl (by decide) rfl ?_
      refine x_goto 29 dX4_make_49 (by decide) ?_
      refine x_lv [1, 2, 3, 0] rfl ?_
      exact ih _ _ _ _ _ h
def M_X4_make (N : Nat) (M : Nat) (most : Int32) (blank : Int32) (sizes : (Nat → Int32)) (places : (Nat → Nat → Int32)) (x1 : Int32) (x2 : Int32) : Option ((Nat → Int32) × (Nat → Nat → Int32)) :=
  if (M_X4_isNumber N M x1) = 0 then
  (some (sizes, places))
  else
  (if x2 < 0 then
  (some (sizes, places))
  else
  (if most < x2 then
  (some (sizes, places))
  else
  (if inb x1 N then
  M_X4_make_b29 N M most blank x_fuel (upd sizes x1.toNatClampNeg x2) places x1 x2 (0 : Int32)
  else none)))
set_option maxHeartbeats 4000000 in
set_option maxRecDepth 100000 in
theorem c_X4_make {G : x_G} {l : Launch} {ax : Nat → Nat} {N : Nat} {M : Nat} {most : Int32} {blank : Int32} {sizes : (Nat → Int32)} {places : (Nat → Nat → Int32)} {x1 : Int32} {x2 : Int32} {res : (Nat → Int32) × (Nat → Nat → Int32)} (h : M_X4_make N M most blank sizes places x1 x2 = some res) : x_M G l yX4_make cX4_make 4 none (1) 0 0 [.ref (ax 0), .int x1, .int x2] (WShelf G ax N M most blank sizes places) (x_is none (WShelf G ax N M most blank res.1 res.2)) := by
  unfold M_X4_make at h
  refine x_enter (ini := false) (by decide) rfl (by decide) rfl (Nat.le_of_ble_eq_true rfl) ?_
  refine x_aload_n dX4_make_0 0 rfl rfl ?_
  refine x_iload_n dX4_make_1 1 rfl rfl ?_
  refine x_cV (As := [.int x1]) (wc := (WShelf G ax N M most blank sizes places)) (w1 := (WShelf G ax N M most blank sizes places)) (pre := []) (post := []) (rest := []) (st1 := [.int (M_X4_isNumber N M x1)]) (ws1 := (WShelf G ax N M most blank sizes places)) (ci := 3) 0 dX4_make_2 (c_X4_isNumber (ax := ax) rfl) pk_X4_isNumber ml_X4_37 (x_full _) rfl rfl rfl rfl rfl rfl rfl rfl (x_full _).symm ?_
  refine x_if_eq 52 dX4_make_5 (by decide) (fun c4 => ?_) (fun c4 => ?_)
  · have h := x_pos c4 h
    cases h
    exact x_return dX4_make_52 (x_is.rf _ _)
  · have h := x_neg c4 h
    refine x_iload_n dX4_make_8 2 rfl rfl ?_
    refine x_if_lt 52 dX4_make_9 (by decide) (fun c5 => ?_) (fun c5 => ?_)
    · have h := x_pos c5 h
      cases h
      exact x_return dX4_make_52 (x_is.rf _ _)
    · have h := x_neg c5 h
      refine x_iload_n dX4_make_12 2 rfl rfl ?_
      refine x_aload_n dX4_make_13 0 rfl rfl ?_
      refine x_get (ci := 3) 0 0 dX4_make_14 fl_X4_9 inX4 rfl (by decide) ⟨rfl, rfl, rfl⟩ rfl rfl ?_
      refine x_icmp_gt 52 dX4_make_17 (by decide) (fun c6 => ?_) (fun c6 => ?_)
      · have h := x_pos c6 h
        cases h
        exact x_return dX4_make_52 (x_is.rf _ _)
      · have h := x_neg c6 h
        refine x_aload_n dX4_make_20 0 rfl rfl ?_
        refine x_get (ci := 3) 3 0 dX4_make_21 fl_X4_29 inX4 rfl (by decide) ⟨rfl, rfl, rfl⟩ rfl rfl ?_
        refine x_iload_n dX4_make_24 1 rfl rfl ?_
        refine x_iload_n dX4_make_25 2 rfl rfl ?_
        obtain ⟨b7, h⟩ := x_guard h
        refine x_iast x1.toNatClampNeg (q0 := 2) (WShelf G ax N M most blank ((upd sizes x1.toNatClampNeg x2)) places) dX4_make_26 rfl rfl b7 rfl ?_
        refine x_iconst 0 dX4_make_27 (by decide) ?_
        refine x_istore_n [(3, .int (0 : Int32)), (0, .ref (ax 0)), (1, .int x1), (2, .int x2)] dX4_make_28 rfl (by decide) rfl ?_
        refine x_lv [1, 2, 3, 0] rfl ?_
        exact w_X4_make_b29  _ _ _ _ _ _ h
theorem pk_X4_countThere : x_pv RX4 yX4_countThere cX4_countThere 3 (some .int) 0 := ⟨⟨co_X4_countThere, ni_X4, by decide, by decide +kernel⟩, im_X4_countThere, se_X4_countThere⟩
def M_X4_countThere_b24 (N : Nat) (M : Nat) (sizes : (Nat → Int32)) (k4 : Int32 → Int32 → Option (Int32)) (x1 : Int32) (x2 : Int32) : Option (Int32) :=
  k4 x1 (x2 + (1 : Int32))
set_option maxHeartbeats 4000000 in
set_option maxRecDepth 100000 in
theorem w_X4_countThere_b24 {G : x_G} {l : Launch} {ax : Nat → Nat} {N : Nat} {M : Nat} {sizes : (Nat → Int32)} {most : Int32} {blank : Int32} {places : (Nat → Nat → Int32)} {k4 : Int32 → Int32 → Option (Int32)} {res : Int32} (hk4 : ∀ (x1 : Int32) (x2 : Int32), k4 x1 x2 = some res → X G l RX4 cX4_countThere 3 (x_R 3 0 0) (x_Cm G (some .int) false (x_is (some (.int res)) (WShelf G ax N M most blank sizes places)) 0 0) 0 0 4 [(0, .ref (ax 0)), (1, .int x1), (2, .int x2)] [] (WShelf G ax N M most blank sizes places)) (x1 : Int32) (x2 : Int32) (h : M_X4_countThere_b24 N M sizes k4 x1 x2 = some res) : X G l RX4 cX4_countThere 3 (x_R 3 0 0) (x_Cm G (some .int) false (x_is (some (.int res)) (WShelf G ax N M most blank sizes places)) 0 0) 0 0 24 [(0, .ref (ax 0)), (1, .int x1), (2, .int x2)] [] (WShelf G ax N M most blank sizes places) := by
  unfold M_X4_countThere_b24 at h
  refine x_iinc (j := 2) (1 : Int32) [(2, .int (x2 + (1 : Int32))), (0, .ref (ax 0)), (1, .int x1)] dX4_countThere_24 (by decide) rfl (by decide) rfl ?_
  refine x_goto 4 dX4_countThere_27 (by decide) ?_
  refine x_lv [1, 2, 0] rfl ?_
  exact hk4 _ _ h
def M_X4_countThere_b4 (N : Nat) (M : Nat) (sizes : (Nat → Int32)) : Nat → Int32 → Int32 → Option (Int32)
  | 0, _, _ => none
  | n + 1, x1, x2 =>
    if (Int32.ofNat N) ≤ x2 then
    (some (x1))
    else
    ((M_X4_isThere N M sizes x2).bind fun r2 =>
    if r2 = 0 then
    (M_X4_countThere_b24 N M sizes (fun (x1' : Int32) (x2' : Int32) => M_X4_countThere_b4 N M sizes n x1' x2') x1 x2)
    else
    (M_X4_countThere_b24 N M sizes (fun (x1' : Int32) (x2' : Int32) => M_X4_countThere_b4 N M sizes n x1' x2') (x1 + (1 : Int32)) x2))
set_option maxHeartbeats 4000000 in
set_option maxRecDepth 100000 in
theorem w_X4_countThere_b4 {G : x_G} {l : Launch} {ax : Nat → Nat} {N : Nat} {M : Nat} {sizes : (Nat → Int32)} {most : Int32} {blank : Int32} {places : (Nat → Nat → Int32)} {res : Int32} : ∀ (n : Nat) (x1 : Int32) (x2 : Int32), M_X4_countThere_b4 N M sizes n x1 x2 = some res → X G l RX4 cX4_countThere 3 (x_R 3 0 0) (x_Cm G (some .int) false (x_is (some (.int res)) (WShelf G ax N M most blank sizes places)) 0 0) 0 0 4 [(0, .ref (ax 0)), (1, .int x1), (2, .int x2)] [] (WShelf G ax N M most blank sizes places) := by
  intro n
  induction n with
  | zero =>
    intro _ _ h
    cases h
  | succ n ih =>
    intro x1 x2 h
    rw [M_X4_countThere_b4] at h
    refine x_iload_n dX4_countThere_4 2 rfl rfl ?_
    refine x_aload_n dX4_countThere_5 0 rfl rfl ?_
    refine x_get (ci := 3) 3 0 dX4_countThere_6 fl_X4_29 inX4 rfl (by decide) ⟨rfl, rfl, rfl⟩ rfl rfl ?_
    refine x_alen 0 2 (Int32.ofNat N) dX4_countThere_9 rfl rfl rfl ?_
    refine x_icmp_ge 30 dX4_countThere_10 (by decide) (fun c1 => ?_) (fun c1 => ?_)
    · have h := x_pos c1 h
      refine x_iload_n dX4_countThere_30 1 rfl rfl ?_
      cases h
      exact x_ireturn dX4_countThere_31 rfl (x_is.rf _ _)
    · have h := x_neg c1 h
      refine x_aload_n dX4_countThere_13 0 rfl rfl ?_
      refine x_iload_n dX4_countThere_14 2 rfl rfl ?_
      obtain ⟨r2, e3, h⟩ := x_bind h
      refine x_cV (As := [.int x2]) (wc := (WShelf G ax N M most blank sizes places)) (w1 := (WShelf G ax N M most blank sizes places)) (pre := []) (post := []) (rest := []) (st1 := [.int r2]) (ws1 := (WShelf G ax N M most blank sizes places)) (ci := 3) 0 dX4_countThere_15 (c_X4_isThere (ax := ax) e3) pk_X4_isThere ml_X4_58 (x_full _) rfl rfl rfl rfl rfl rfl rfl rfl (x_full _).symm ?_
      refine x_if_eq 24 dX4_countThere_18 (by decide) (fun c4 => ?_) (fun c4 => ?_)
      · have h := x_pos c4 h
        exact w_X4_countThere_b24 (fun x1' x2' h => ih x1' x2' h) _ _ h
      · have h := x_neg c4 h
        refine x_iinc (j := 1) (1 : Int32) [(1, .int (x1 + (1 : Int32))), (0, .ref (ax 0)), (2, .int x2)] dX4_countThere_21 (by decide) rfl (by decide) rfl ?_
        refine x_lv [1, 0, 2] rfl ?_
        exact w_X4_countThere_b24 (fun x1' x2' h => ih x1' x2' h) _ _ h
def M_X4_countThere (N : Nat) (M : Nat) (sizes : (Nat → Int32)) : Option (Int32) :=
  M_X4_countThere_b4 N M sizes x_fuel (0 : Int32) (0 : Int32)
set_option maxHeartbeats 4000000 in
set_option maxRecDepth 100000 in
theorem c_X4_countThere {G : x_G} {l : Launch} {ax : Nat → Nat} {N : Nat} {M : Nat} {sizes : (Nat → Int32)} {most : Int32} {blank : Int32} {places : (Nat → Nat → Int32)} {res : Int32} (h : M_X4_countThere N M sizes = some res) : x_M G l yX4_countThere cX4_countThere 3 (some .int) (3) 0 0 [.ref (ax 0)] (WShelf G ax N M most blank sizes places) (x_is (some (.int res)) (WShelf G ax N M most blank sizes places)) := by
  unfold M_X4_countThere at h
  refine x_enter (ini := false) (by decide) rfl (by decide) rfl (Nat.le_of_ble_eq_true rfl) ?_
  refine x_iconst 0 dX4_countThere_0 (by decide) ?_
  refine x_istore_n [(1, .int (0 : Int32)), (0, .ref (ax 0))] dX4_countThere_1 rfl (by decide) rfl ?_
  refine x_iconst 0 dX4_countThere_2 (by decide) ?_
  refine x_istore_n [(2, .int (0 : Int32)), (1, .int (0 : Int32)), (0, .ref (ax 0))] dX4_countThere_3 rfl (by decide) rfl ?_
  refine x_lv [2, 1, 0] rfl ?_
  exact w_X4_countThere_b4  _ _ _ h
theorem pk_X4_digestFrom : x_pv RX4 yX4_digestFrom cX4_digestFrom 7 (some .long) 1 := ⟨⟨co_X4_digestFrom, ni_X4, by decide, by decide +kernel⟩, im_X4_digestFrom, se_X4_digestFrom⟩
def M_X4_digestFrom_b32 (N : Nat) (M : Nat) (sizes : (Nat → Int32)) (places : (Nat → Nat → Int32)) (k5 : Int64 → Int32 → Option (Int64)) : Nat → Int64 → Int32 → Int32 → Option (Int64)
  | 0, _, _, _ => none
  | n + 1, x3, x5, x6 =>
    (M_X4_size N M sizes x5).bind fun r4 =>
    if r4 ≤ x6 then
    (k5 x3 (x5 + (1 : Int32)))
    else
    ((M_X4_get N M sizes places x5 x6).bind fun r7 =>
    M_X4_digestFrom_b32 N M sizes places k5 n (((31 : Int64) * x3) + r7.toInt64) x5 (x6 + (1 : Int32)))
set_option maxHeartbeats 4000000 in
set_option maxRecDepth 100000 in
theorem w_X4_digestFrom_b32 {G : x_G} {l : Launch} {ax : Nat → Nat} {N : Nat} {M : Nat} {sizes : (Nat → Int32)} {places : (Nat → Nat → Int32)} {most : Int32} {blank : Int32} {k5 : Int64 → Int32 → Option (Int64)} {res : Int64} (hk5 : ∀ (x3 : Int64) (x5 : Int32), k5 x3 x5 = some res → X G l RX4 cX4_digestFrom 7 (x_R 4 0 0) (x_Cm G (some .long) false (x_is (some (.long res)) (WShelf G ax N M most blank sizes places)) 0 0) 0 0 5 [(0, .ref (ax 0)), (3, .long x3), (5, .int x5)] [] (WShelf G ax N M most blank sizes places)) : ∀ (n : Nat) (x3 : Int64) (x5 : Int32) (x6 : Int32), M_X4_digestFrom_b32 N M sizes places k5 n x3 x5 x6 = some res → X G l RX4 cX4_digestFrom 7 (x_R 4 0 0) (x_Cm G (some .long) false (x_is (some (.long res)) (WShelf G ax N M most blank sizes places)) 0 0) 0 0 32 [(0, .ref (ax 0)), (3, .long x3), (5, .int x5), (6, .int x6)] [] (WShelf G ax N M most blank sizes places) := by
  intro n
  induction n with
  | zero =>
    intro _ _ _ h
    cases h
  | succ n ih =>
    intro x3 x5 x6 h
    rw [M_X4_digestFrom_b32] at h
    refine x_iload dX4_digestFrom_32 3 rfl ?_
    refine x_aload_n dX4_digestFrom_34 0 rfl rfl ?_
    refine x_iload dX4_digestFrom_35 2 rfl ?_
    obtain ⟨r4, e5, h⟩ := x_bind h
    refine x_cV (As := [.int x5]) (wc := (WShelf G ax N M most blank sizes places)) (w1 := (WShelf G ax N M most blank sizes places)) (pre := []) (post := []) (rest := [.int x6]) (st1 := [.int r4, .int x6]) (ws1 := (WShelf G ax N M most blank sizes places)) (ci := 3) 0 dX4_digestFrom_37 (c_X4_size (ax := ax) e5) pk_X4_size ml_X4_33 (x_full _) rfl rfl rfl rfl rfl rfl rfl rfl (x_full _).symm ?_
    refine x_icmp_ge 65 dX4_digestFrom_40 (by decide) (fun c6 => ?_) (fun c6 => ?_)
    · have h := x_pos c6 h
      refine x_iinc (j := 2) (1 : Int32) [(5, .int (x5 + (1 : Int32))), (0, .ref (ax 0)), (3, .long x3), (6, .int x6)] dX4_digestFrom_65 (by decide) rfl (by decide) rfl ?_
      refine x_goto 5 dX4_digestFrom_68 (by decide) ?_
      refine x_lv [1, 2, 0] rfl ?_
      exact hk5 _ _ h
    · have h := x_neg c6 h
      refine x_ldc2 dX4_digestFrom_43 kl_X4_61 ?_
      refine x_lload_n dX4_digestFrom_46 1 rfl rfl ?_
      refine x_lmul dX4_digestFrom_47 ?_
      refine x_aload_n dX4_digestFrom_48 0 rfl rfl ?_
      refine x_iload dX4_digestFrom_49 2 rfl ?_
      refine x_iload dX4_digestFrom_51 3 rfl ?_
      obtain ⟨r7, e8, h⟩ := x_bind h
      refine x_cV (As := [.int x5, .int x6]) (wc := (WShelf G ax N M most blank sizes places)) (w1 := (WShelf G ax N M most blank sizes places)) (pre := []) (post := []) (rest := [.long ((31 : Int64) * x3)]) (st1 := [.int r7, .long ((31 : Int64) * x3)]) (ws1 := (WShelf G ax N M most blank sizes places)) (ci := 3) 0 dX4_digestFrom_53 (c_X4_get (ax := ax) e8) pk_X4_get ml_X4_55 (x_full _) rfl rfl rfl rfl rfl rfl rfl rfl (x_full _).symm ?_
      refine x_i2l dX4_digestFrom_56 ?_
      refine x_ladd dX4_digestFrom_57 ?_
      refine x_lstore_n [(3, .long (((31 : Int64) * x3) + r7.toInt64)), (0, .ref (ax 0)), (5, .int x5), (6, .int x6)] dX4_digestFrom_58 rfl (by decide) rfl ?_
      refine x_iinc (j := 3) (1 : Int32) [(6, .int (x6 + (1 : Int32))), (3, .long (((31 : Int64) * x3) + r7.toInt64)), (0, .ref (ax 0)), (5, .int x5)] dX4_digestFrom_59 (by decide) rfl (by decide) rfl ?_
      refine x_goto 32 dX4_digestFrom_62 (by decide) ?_
      refine x_lv [2, 1, 3, 0] rfl ?_
      exact ih _ _ _ h
def M_X4_digestFrom_b5 (N : Nat) (M : Nat) (sizes : (Nat → Int32)) (places : (Nat → Nat → Int32)) : Nat → Int64 → Int32 → Option (Int64)
  | 0, _, _ => none
  | n + 1, x3, x5 =>
    if (Int32.ofNat N) ≤ x5 then
    (some (x3))
    else
    ((M_X4_size N M sizes x5).bind fun r2 =>
    M_X4_digestFrom_b32 N M sizes places (fun (x3' : Int64) (x5' : Int32) => M_X4_digestFrom_b5 N M sizes places n x3' x5') x_fuel (((31 : Int64) * x3) + r2.toInt64) x5 (0 : Int32))
set_option maxHeartbeats 4000000 in
set_option maxRecDepth 100000 in
theorem w_X4_digestFrom_b5 {G : x_G} {l : Launch} {ax : Nat → Nat} {N : Nat} {M : Nat} {sizes : (Nat → Int32)} {places : (Nat → Nat → Int32)} {most : Int32} {blank : Int32} {res : Int64} : ∀ (n : Nat) (x3 : Int64) (x5 : Int32), M_X4_digestFrom_b5 N M sizes places n x3 x5 = some res → X G l RX4 cX4_digestFrom 7 (x_R 4 0 0) (x_Cm G (some .long) false (x_is (some (.long res)) (WShelf G ax N M most blank sizes places)) 0 0) 0 0 5 [(0, .ref (ax 0)), (3, .long x3), (5, .int x5)] [] (WShelf G ax N M most blank sizes places) := by
  intro n
  induction n with
  | zero =>
    intro _ _ h
    cases h
  | succ n ih =>
    intro x3 x5 h
    rw [M_X4_digestFrom_b5] at h
    refine x_iload dX4_digestFrom_5 2 rfl ?_
    refine x_aload_n dX4_digestFrom_7 0 rfl rfl ?_
    refine x_get (ci := 3) 3 0 dX4_digestFrom_8 fl_X4_29 inX4 rfl (by decide) ⟨rfl, rfl, rfl⟩ rfl rfl ?_
    refine x_alen 0 2 (Int32.ofNat N) dX4_digestFrom_11 rfl rfl rfl ?_
    refine x_icmp_ge 71 dX4_digestFrom_12 (by decide) (fun c1 => ?_) (fun c1 => ?_)
    · have h := x_pos c1 h
      refine x_lload_n dX4_digestFrom_71 1 rfl rfl ?_
      cases h
      exact x_lreturn dX4_digestFrom_72 (x_is.rf _ _)
    · have h := x_neg c1 h
      refine x_ldc2 dX4_digestFrom_15 kl_X4_61 ?_
      refine x_lload_n dX4_digestFrom_18 1 rfl rfl ?_
      refine x_lmul dX4_digestFrom_19 ?_
      refine x_aload_n dX4_digestFrom_20 0 rfl rfl ?_
      refine x_iload dX4_digestFrom_21 2 rfl ?_
      obtain ⟨r2, e3, h⟩ := x_bind h
      refine x_cV (As := [.int x5]) (wc := (WShelf G ax N M most blank sizes places)) (w1 := (WShelf G ax N M most blank sizes places)) (pre := []) (post := []) (rest := [.long ((31 : Int64) * x3)]) (st1 := [.int r2, .long ((31 : Int64) * x3)]) (ws1 := (WShelf G ax N M most blank sizes places)) (ci := 3) 0 dX4_digestFrom_23 (c_X4_size (ax := ax) e3) pk_X4_size ml_X4_33 (x_full _) rfl rfl rfl rfl rfl rfl rfl rfl (x_full _).symm ?_
      refine x_i2l dX4_digestFrom_26 ?_
      refine x_ladd dX4_digestFrom_27 ?_
      refine x_lstore_n [(3, .long (((31 : Int64) * x3) + r2.toInt64)), (0, .ref (ax 0)), (5, .int x5)] dX4_digestFrom_28 rfl (by decide) rfl ?_
      refine x_iconst 0 dX4_digestFrom_29 (by decide) ?_
      refine x_istore [(6, .int (0 : Int32)), (3, .long (((31 : Int64) * x3) + r2.toInt64)), (0, .ref (ax 0)), (5, .int x5)] dX4_digestFrom_30 (by decide) rfl ?_
      refine x_lv [2, 1, 3, 0] rfl ?_
      exact w_X4_digestFrom_b32 (fun x3' x5' h => ih x3' x5' h) _ _ _ _ h
def M_X4_digestFrom (N : Nat) (M : Nat) (sizes : (Nat → Int32)) (places : (Nat → Nat → Int32)) (x1 : Int64) : Option (Int64) :=
  M_X4_digestFrom_b5 N M sizes places x_fuel x1 (0 : Int32)
set_option maxHeartbeats 4000000 in
set_option maxRecDepth 100000 in
theorem c_X4_digestFrom {G : x_G} {l : Launch} {ax : Nat → Nat} {N : Nat} {M : Nat} {sizes : (Nat → Int32)} {places : (Nat → Nat → Int32)} {most : Int32} {blank : Int32} {x1 : Int64} {res : Int64} (h : M_X4_digestFrom N M sizes places x1 = some res) : x_M G l yX4_digestFrom cX4_digestFrom 7 (some .long) (4) 0 0 [.ref (ax 0), .long x1] (WShelf G ax N M most blank sizes places) (x_is (some (.long res)) (WShelf G ax N M most blank sizes places)) := by
  unfold M_X4_digestFrom at h
  refine x_enter (ini := false) (by decide) rfl (by decide) rfl (Nat.le_of_ble_eq_true rfl) ?_
  refine x_lload_n dX4_digestFrom_0 1 rfl rfl ?_
  refine x_lstore_n [(3, .long x1), (0, .ref (ax 0)), (1, .long x1)] dX4_digestFrom_1 rfl (by decide) rfl ?_
  refine x_iconst 0 dX4_digestFrom_2 (by decide) ?_
  refine x_istore [(5, .int (0 : Int32)), (3, .long x1), (0, .ref (ax 0)), (1, .long x1)] dX4_digestFrom_3 (by decide) rfl ?_
  refine x_lv [2, 1, 0] rfl ?_
  exact w_X4_digestFrom_b5  _ _ _ h
