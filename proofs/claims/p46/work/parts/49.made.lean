/-! PURE PART: the law lays its row, writes the text, the court stands -/
theorem by8 : ∀ c, c < 128 → (nI c).toInt8.toInt32 = nI c := by decide +kernel
theorem lt8 : ∀ k, k < 6 → ∃ c, c < 128 ∧ M_L_letter (nI k) = nI c := by decide +kernel
def SU (S : x_S) (tsz : Nat → Int32) (tpl : Nat → Nat → Int32) : x_S := (S.1, S.2.1, S.2.2.1, S.2.2.2.1, S.2.2.2.2.1, S.2.2.2.2.2.1, S.2.2.2.2.2.2.1, S.2.2.2.2.2.2.2.1, S.2.2.2.2.2.2.2.2.1, S.2.2.2.2.2.2.2.2.2.1, S.2.2.2.2.2.2.2.2.2.2.1, tsz, tpl, S.2.2.2.2.2.2.2.2.2.2.2.2.2.1, S.2.2.2.2.2.2.2.2.2.2.2.2.2.2.1, S.2.2.2.2.2.2.2.2.2.2.2.2.2.2.2.1, S.2.2.2.2.2.2.2.2.2.2.2.2.2.2.2.2.1, S.2.2.2.2.2.2.2.2.2.2.2.2.2.2.2.2.2.1, S.2.2.2.2.2.2.2.2.2.2.2.2.2.2.2.2.2.2.1, S.2.2.2.2.2.2.2.2.2.2.2.2.2.2.2.2.2.2.2.1, S.2.2.2.2.2.2.2.2.2.2.2.2.2.2.2.2.2.2.2.2.1, S.2.2.2.2.2.2.2.2.2.2.2.2.2.2.2.2.2.2.2.2.2.1, S.2.2.2.2.2.2.2.2.2.2.2.2.2.2.2.2.2.2.2.2.2.2.1, S.2.2.2.2.2.2.2.2.2.2.2.2.2.2.2.2.2.2.2.2.2.2.2.1, S.2.2.2.2.2.2.2.2.2.2.2.2.2.2.2.2.2.2.2.2.2.2.2.2.1, S.2.2.2.2.2.2.2.2.2.2.2.2.2.2.2.2.2.2.2.2.2.2.2.2.2.1, S.2.2.2.2.2.2.2.2.2.2.2.2.2.2.2.2.2.2.2.2.2.2.2.2.2.2.1, S.2.2.2.2.2.2.2.2.2.2.2.2.2.2.2.2.2.2.2.2.2.2.2.2.2.2.2.1, S.2.2.2.2.2.2.2.2.2.2.2.2.2.2.2.2.2.2.2.2.2.2.2.2.2.2.2.2.1, S.2.2.2.2.2.2.2.2.2.2.2.2.2.2.2.2.2.2.2.2.2.2.2.2.2.2.2.2.2.1, S.2.2.2.2.2.2.2.2.2.2.2.2.2.2.2.2.2.2.2.2.2.2.2.2.2.2.2.2.2.2.1, S.2.2.2.2.2.2.2.2.2.2.2.2.2.2.2.2.2.2.2.2.2.2.2.2.2.2.2.2.2.2.2.1, S.2.2.2.2.2.2.2.2.2.2.2.2.2.2.2.2.2.2.2.2.2.2.2.2.2.2.2.2.2.2.2.2.1, S.2.2.2.2.2.2.2.2.2.2.2.2.2.2.2.2.2.2.2.2.2.2.2.2.2.2.2.2.2.2.2.2.2.1, S.2.2.2.2.2.2.2.2.2.2.2.2.2.2.2.2.2.2.2.2.2.2.2.2.2.2.2.2.2.2.2.2.2.2.1, S.2.2.2.2.2.2.2.2.2.2.2.2.2.2.2.2.2.2.2.2.2.2.2.2.2.2.2.2.2.2.2.2.2.2.2.1, S.2.2.2.2.2.2.2.2.2.2.2.2.2.2.2.2.2.2.2.2.2.2.2.2.2.2.2.2.2.2.2.2.2.2.2.2.1, S.2.2.2.2.2.2.2.2.2.2.2.2.2.2.2.2.2.2.2.2.2.2.2.2.2.2.2.2.2.2.2.2.2.2.2.2.2.1, S.2.2.2.2.2.2.2.2.2.2.2.2.2.2.2.2.2.2.2.2.2.2.2.2.2.2.2.2.2.2.2.2.2.2.2.2.2.2)
section
variable {S : x_S} {tsz : Nat → Int32} {tpl : Nat → Nat → Int32} {n p : Nat}
theorem t_text (hn : n ≤ 60) : ∃ q, M_LR_text S (0 : Int32) (nI n) = some (nI n, SU S (upd S.2.2.2.2.2.2.2.2.2.2.2.1 0 (nI n)) (upd2 S.2.2.2.2.2.2.2.2.2.2.2.2.1 0 q)) ∧ ∀ i, i < n → q i = 32 := by
  obtain ⟨q, m1, m2⟩ := pu_make (N := 4) (M := 60) (sizes := S.2.2.2.2.2.2.2.2.2.2.2.1) (places := S.2.2.2.2.2.2.2.2.2.2.2.2.1) (r := 0) (by decide) (by decide) (z := n) hn (by decide) (most := 60) (blank := 32) rfl
  refine ⟨q, ?_, m2⟩
  unfold M_LR_text M_X6_text M_X6_made_texts
  show (Option.bind (Option.bind (if M_X4_isNumber 4 60 (nI 0) = 0 then _ else (if nI n ≤ 60 then (if 0 ≤ nI n then (M_X4_make 4 60 60 32 S.2.2.2.2.2.2.2.2.2.2.2.1 S.2.2.2.2.2.2.2.2.2.2.2.2.1 (nI 0) (nI n)).bind _ else _) else _)) _) _) = _
  rw [pu_isN (by decide) (by decide), if_neg (by decide), if_pos (aL 60 hn), if_pos (nI_pos' (by omega)), m1]
  rfl
theorem t_sign (hn : n ≤ 60) (hz : tsz 0 = nI n) {q : Nat → Int32} (hp : p < n) (hq : q p = 32) {v : Int32} (hv : v.toInt8.toInt32 = v) : M_L_sign (SU S tsz (upd2 tpl 0 q)) (nI p) v = some (1, SU S tsz (upd2 tpl 0 (upd q p v))) := by
  have e : M_LR_put (SU S tsz (upd2 tpl 0 q)) (0 : Int32) (nI p) v = some (1032, SU S tsz (upd2 tpl 0 (upd q p v))) := by
    show (Option.bind (M_X6_put tsz S.1 S.2.2.2.2.2.2.2.2.2.2.1 (upd2 tpl 0 q) (nI 0) (nI p) v) _) = _
    unfold M_X6_put M_X6_refusalOfPlace_texts M_X6_refusalOfMissing_texts
    rw [pu_isN (by decide) (by decide), if_neg (by decide), pu_there1 (by decide) (by decide) (show n < 2 ^ 31 by omega) hz, Option.bind_some, if_neg (by decide), Option.bind_some, if_pos rfl, pu_place1 (by decide) (by decide) (show n < 2 ^ 31 by omega) hz hp, Option.bind_some, if_neg (by decide), Option.bind_some, if_pos rfl, pu_get (by decide) (by decide) hn (by decide) hz hp, Option.bind_some, pu_set (by decide) (by decide) hn (by decide) hz hp, pu_22, pu_2s, hq, hv]
    rfl
  unfold M_L_sign
  rw [e, Option.bind_some, if_pos rfl]
end
/-! the row -/
theorem up_T (x : Int32) {n : Nat} (h0 : 0 < n) (hn : n < 2 ^ 31) : ∃ u, u < n ∧ M_L_up x (nI n) = some (nI u) := by
  obtain ⟨w, hw, rfl⟩ := wb_of32 x
  have e : nI w &&& (2147483647 : Int32) = nI (w % 2 ^ 31) := by
    rw [show (2147483647 : Int32) = nI (2 ^ 31 - 1) from rfl, nx_and]
    exact congrArg nI (Nat.and_two_pow_sub_one_eq_mod w 31)
  have hl : w % 2 ^ 31 < 2 ^ 31 := Nat.mod_lt _ (by decide)
  refine ⟨w % 2 ^ 31 % n, Nat.mod_lt _ h0, ?_⟩
  unfold M_L_up
  rw [e, if_pos (eN 0 (by omega) hn), pk_rem hl h0 hn]
theorem cl_T (xs : Nat → Int32) {L : Nat} (hL : L ≤ 260) {k : Nat} (hk : k < 1000) : ∃ v, M_L_cell xs L (nI k) = some v := by
  unfold M_L_cell
  by_cases q : L ≤ k
  · exact ⟨_, if_pos (show Int32.ofNat L ≤ nI k from pu_le (a := L) (by omega) (by omega) q)⟩
  · exact ⟨_, by rw [if_neg (show ¬ Int32.ofNat L ≤ nI k from nI_ge (by omega) (by omega)), if_pos (pu_inb (by omega) (by omega))]⟩
theorem i38 (b : Nat) {i : Nat} (h : b + i < 38) : inb ((OfNat.ofNat b : Int32) + nI i) 38 := by
  show inb (nI b + nI i) 38
  rw [nI_add]; exact pu_inb h (by omega)
theorem and64 {u w : Nat} (hu : u < 64) : ∃ z, z < 64 ∧ nI u &&& nI w = nI z := by
  refine ⟨u &&& w, ?_, nx_and u w⟩
  exact Nat.lt_of_le_of_lt Nat.and_le_left hu
theorem and64' {u : Nat} (hu : u < 64) (y : Int32) : ∃ z, z < 64 ∧ nI u &&& y = nI z := by
  obtain ⟨w, hw, rfl⟩ := wb_of32 y
  exact and64 hu
section
variable {xs : Nat → Int32} {L : Nat} {R A : Nat}
def LWk (R A : Nat) (row : Nat → Int32) (k a : Nat) : Prop :=
  row 0 = nI R ∧ row 1 = nI A ∧ (∃ f, f < 2 ∧ row 26 = nI f) ∧
  (∀ i, i < k → (∃ k, k < 6 ∧ row (2 + i) = nI k) ∧ (∃ v, 1 ≤ v ∧ v < 10 ∧ row (8 + i) = nI v ∧ ∃ s, s ≤ v ∧ row (20 + i) = nI s) ∧ (∃ t, t < 6 ∧ row (14 + i) = nI t)) ∧
  (∀ a', a' < a → (∃ p, p < 64 ∧ row (27 + a') = nI p) ∧ ∃ q, q < 64 ∧ row (31 + a') = nI q)
theorem cO' (b : Nat) {i : Nat} (h : b + i < 85) : ((OfNat.ofNat b : Int32) + nI i).toNatClampNeg = b + i := cO b h
theorem la_T (hL : L ≤ 260) (hR1 : 1 ≤ R) (hR : R ≤ 6) (hA1 : 1 ≤ A) (hA : A ≤ 4) (row : Nat → Int32) (h : LWk R A row R 0) : ∃ row', M_L_lay_b183 xs L x_fuel row 0 = some row' ∧ LW R A row' :=
  pu_lp (fun n k (x : Nat → Int32) => ∃ row', M_L_lay_b183 xs L n x (nI k) = some row' ∧ LW R A row') (fun k x => LWk R A x R k) A (by omega)
    (fun n x h => ⟨x, by rw [M_L_lay_b183, h.2.1, if_pos (pu_le (by omega) (by omega) (Nat.le_refl A))], hR1, hR, hA1, hA, h.1, h.2.1, h.2.2.1, h.2.2.2.1, h.2.2.2.2⟩)
    (fun n k x hk h ih => by
      obtain ⟨h0, h1, h2, h3, h4⟩ := h
      obtain ⟨c, ec⟩ := cl_T xs hL (k := 7 + k) (by omega)
      obtain ⟨u1, v1, e1⟩ := up_T c (n := 64) (by decide) (by decide)
      obtain ⟨u2, v2, e2⟩ := up_T (c >>> ((6 : Int32) &&& (31 : Int32))) (n := 64) (by decide) (by decide)
      obtain ⟨u3, v3, e3⟩ := up_T (c >>> ((12 : Int32) &&& (31 : Int32))) (n := 64) (by decide) (by decide)
      obtain ⟨u4, v4, e4⟩ := up_T (c >>> ((18 : Int32) &&& (31 : Int32))) (n := 64) (by decide) (by decide)
      obtain ⟨u5, v5, e5⟩ := up_T (c >>> ((24 : Int32) &&& (31 : Int32))) (n := 2) (by decide) (by decide)
      obtain ⟨w1, hw1, ew1⟩ := and64 (w := u2) v1
      obtain ⟨w2, hw2, ew2⟩ := and64 (w := u4) v3
      have go : ∀ y : Int32, ∃ row', M_L_lay_b269 xs L (fun (row_c' : (Nat → Int32)) (x2' : Int32) => M_L_lay_b183 xs L n row_c' x2') (upd x (27 + k) (nI w1)) (nI k) ((31 : Int32) + nI k) (nI w2) y = some row' ∧ LW R A row' := fun y => by
        obtain ⟨w3, hw3, ew3⟩ := and64' hw2 y
        unfold M_L_lay_b269
        rw [if_pos (i38 31 (by omega)), cO' 31 (by omega), ew3, nI_1]
        refine ih _ ⟨by rw [pu_un (by omega), pu_un (by omega), h0], by rw [pu_un (by omega), pu_un (by omega), h1], by rw [pu_un (by omega), pu_un (by omega)]; exact h2, fun i hi => ?_, fun a' ha' => ?_⟩
        · rw [pu_un (by omega), pu_un (by omega), pu_un (by omega), pu_un (by omega), pu_un (by omega), pu_un (by omega), pu_un (by omega), pu_un (by omega)]
          exact h3 i hi
        · by_cases e : a' = k
          · subst e
            rw [pu_us, pu_un (by omega), pu_us]
            exact ⟨⟨w1, hw1, rfl⟩, w3, hw3, rfl⟩
          · rw [pu_un (by omega), pu_un (by omega), pu_un (by omega), pu_un (by omega)]
            exact h4 a' (by omega)
      rw [M_L_lay_b183, h1, if_neg (nI_ge hk (by omega))]
      show ∃ row', (M_L_cell xs L (nI 7 + nI k)).bind _ = some row' ∧ _
      rw [nI_add, ec, Option.bind_some]
      show ∃ row', (M_L_up c (nI 64)).bind _ = some row' ∧ _
      rw [e1, Option.bind_some]
      show ∃ row', (M_L_up _ (nI 64)).bind _ = some row' ∧ _
      rw [e2, Option.bind_some, if_pos (i38 27 (by omega)), cO' 27 (by omega), ew1]
      show ∃ row', (M_L_up _ (nI 64)).bind _ = some row' ∧ _
      rw [e3, Option.bind_some]
      show ∃ row', (M_L_up _ (nI 64)).bind _ = some row' ∧ _
      rw [e4, Option.bind_some, ew2]
      show ∃ row', (M_L_up _ (nI 2)).bind _ = some row' ∧ _
      rw [e5, Option.bind_some]
      by_cases q : nI u5 = 0
      · rw [if_pos q]; exact go _
      · rw [if_neg q]; exact go _)
    row h
theorem lr_T (hL : L ≤ 260) (hR1 : 1 ≤ R) (hR : R ≤ 6) (hA1 : 1 ≤ A) (hA : A ≤ 4) (row : Nat → Int32) (h : LWk R A row 0 0) : ∃ row', M_L_lay_b65 xs L x_fuel row 0 = some row' ∧ LW R A row' :=
  pu_lp (fun n k (x : Nat → Int32) => ∃ row', M_L_lay_b65 xs L n x (nI k) = some row' ∧ LW R A row') (fun k x => LWk R A x k 0) R (by omega)
    (fun n x h => by
      rw [M_L_lay_b65, h.1, if_pos (pu_le (by omega) (by omega) (Nat.le_refl R))]
      exact la_T hL hR1 hR hA1 hA x h)
    (fun n k x hk h ih => by
      obtain ⟨h0, h1, h2, h3, h4⟩ := h
      obtain ⟨c, ec⟩ := cl_T xs hL (k := 1 + k) (by omega)
      obtain ⟨u1, v1, e1⟩ := up_T c (n := 6) (by decide) (by decide)
      obtain ⟨u2, v2, e2⟩ := up_T (c >>> ((4 : Int32) &&& (31 : Int32))) (n := 9) (by decide) (by decide)
      obtain ⟨u3, v3, e3⟩ := up_T (c >>> ((20 : Int32) &&& (31 : Int32))) (n := 3) (by decide) (by decide)
      obtain ⟨u4, v4, e4⟩ := up_T (c >>> ((11 : Int32) &&& (31 : Int32))) (n := 3) (by decide) (by decide)
      obtain ⟨u5, v5, e5⟩ := up_T (c >>> ((13 : Int32) &&& (31 : Int32))) (n := 1 + u2 + 1) (by omega) (by omega)
      have go : ∀ t, 1 ≤ t → t ≤ 6 → ∃ row', M_L_lay_b135 xs L (fun (row_c' : (Nat → Int32)) (x2' : Int32) => M_L_lay_b65 xs L n row_c' x2') (upd (upd x (2 + k) (nI u1)) (8 + k) (nI (1 + u2))) (nI k) c ((14 : Int32) + nI k) (c >>> ((8 : Int32) &&& (31 : Int32))) (nI t) = some row' ∧ LW R A row' := fun t ht1 ht => by
        obtain ⟨u6, v6, e6⟩ := up_T (c >>> ((8 : Int32) &&& (31 : Int32))) (n := t) (by omega) (by omega)
        have fin : ∀ s, s ≤ 1 + u2 → ∃ row', M_L_lay_b174 xs L (fun (row_c' : (Nat → Int32)) (x2' : Int32) => M_L_lay_b65 xs L n row_c' x2') (upd (upd (upd x (2 + k) (nI u1)) (8 + k) (nI (1 + u2))) (14 + k) (nI u6)) (nI k) ((20 : Int32) + nI k) (nI s) = some row' ∧ LW R A row' := fun s hs => by
          unfold M_L_lay_b174
          rw [if_pos (i38 20 (by omega)), cO' 20 (by omega), nI_1]
          refine ih _ ⟨by rw [pu_un (by omega), pu_un (by omega), pu_un (by omega), pu_un (by omega), h0], by rw [pu_un (by omega), pu_un (by omega), pu_un (by omega), pu_un (by omega), h1], by rw [pu_un (by omega), pu_un (by omega), pu_un (by omega), pu_un (by omega)]; exact h2, fun i hi => ?_, fun a' ha' => absurd ha' (by omega)⟩
          by_cases e : i = k
          · subst e
            refine ⟨⟨u1, v1, by rw [pu_un (by omega), pu_un (by omega), pu_un (by omega), pu_us]⟩, ⟨1 + u2, by omega, by omega, by rw [pu_un (by omega), pu_un (by omega), pu_us], s, hs, by rw [pu_us]⟩, u6, by omega, by rw [pu_un (by omega), pu_us]⟩
          · rw [pu_un (by omega), pu_un (by omega), pu_un (by omega), pu_un (by omega), pu_un (by omega), pu_un (by omega), pu_un (by omega), pu_un (by omega), pu_un (by omega), pu_un (by omega), pu_un (by omega), pu_un (by omega), pu_un (by omega), pu_un (by omega), pu_un (by omega), pu_un (by omega)]
            exact h3 i (by omega)
        unfold M_L_lay_b135
        rw [e6, Option.bind_some, if_pos (i38 14 (by omega)), cO' 14 (by omega)]
        show ∃ row', (M_L_up _ (nI 3)).bind _ = some row' ∧ _
        rw [e4, Option.bind_some]
        by_cases q : nI u4 = 0
        · rw [if_pos q]; exact fin 0 (by omega)
        · rw [if_neg q, if_pos (i38 8 (by omega)), cO' 8 (by omega), pu_un (by omega), pu_us, nI_1, e5, Option.bind_some]
          exact fin u5 (by omega)
      rw [M_L_lay_b65, h0, if_neg (nI_ge hk (by omega))]
      show ∃ row', (M_L_cell xs L (nI 1 + nI k)).bind _ = some row' ∧ _
      rw [nI_add, ec, Option.bind_some]
      show ∃ row', (M_L_up c (nI 6)).bind _ = some row' ∧ _
      rw [e1, Option.bind_some, if_pos (i38 2 (by omega)), cO' 2 (by omega)]
      show ∃ row', (M_L_up _ (nI 9)).bind _ = some row' ∧ _
      rw [e2, Option.bind_some, if_pos (i38 8 (by omega)), cO' 8 (by omega), show (1 : Int32) + nI u2 = nI (1 + u2) from nI_add 1 u2]
      show ∃ row', (M_L_up _ (nI 3)).bind _ = some row' ∧ _
      rw [e3, Option.bind_some]
      by_cases q : nI u3 = 0
      · rw [if_pos q]; exact go 6 (by omega) (by omega)
      · rw [if_neg q, pu_un (by omega), pu_un (by omega), h0]; exact go R hR1 hR)
    row h
theorem lay_T (xs : Nat → Int32) (hL : L ≤ 260) (row : Nat → Int32) : ∃ R A row', M_L_lay xs L row = some row' ∧ LW R A row' := by
  obtain ⟨c, ec⟩ := cl_T xs hL (k := 0) (by omega)
  obtain ⟨u1, v1, e1⟩ := up_T c (n := 6) (by decide) (by decide)
  obtain ⟨u2, v2, e2⟩ := up_T (c >>> ((4 : Int32) &&& (31 : Int32))) (n := 4) (by decide) (by decide)
  obtain ⟨f, hf, ef⟩ := b_m1e (c >>> ((8 : Int32) &&& (31 : Int32)))
  refine ⟨1 + u1, 1 + u2, ?_⟩
  unfold M_L_lay
  exact pu_lp (fun n k (x : Nat → Int32) => ∃ row', M_L_lay_b2 xs L n x (nI k) = some row' ∧ LW (1 + u1) (1 + u2) row') (fun _ _ => True) 38 (by omega)
    (fun n x _ => by
      rw [M_L_lay_b2, if_pos (by decide)]
      show ∃ row', (M_L_cell xs L (nI 0)).bind _ = some row' ∧ _
      rw [ec, Option.bind_some]
      show ∃ row', (M_L_up c (nI 6)).bind _ = some row' ∧ _
      rw [e1, Option.bind_some]
      show ∃ row', (M_L_cell xs L (nI 0)).bind _ = some row' ∧ _
      rw [ec, Option.bind_some]
      show ∃ row', (M_L_up _ (nI 4)).bind _ = some row' ∧ _
      rw [e2, Option.bind_some]
      show ∃ row', (M_L_cell xs L (nI 0)).bind _ = some row' ∧ _
      rw [ec, Option.bind_some, ef, show (1 : Int32) + nI u1 = nI (1 + u1) from nI_add 1 u1, show (1 : Int32) + nI u2 = nI (1 + u2) from nI_add 1 u2]
      exact lr_T hL (by omega) (by omega) (by omega) (by omega) _ ⟨by rw [pu_un (by omega), pu_un (by omega), pu_us], by rw [pu_un (by omega), pu_us], ⟨f, hf, by rw [pu_us]⟩, fun i hi => absurd hi (by omega), fun i hi => absurd hi (by omega)⟩)
    (fun n k x hk _ ih => by
      rw [M_L_lay_b2, if_neg (gN 38 hk), if_pos (pu_inb hk (by decide)), nI_1]
      exact ih _ trivial)
    row trivial
end
/-! the text is written -/
section
variable {S : x_S} {R A n : Nat} {row : Nat → Int32} {tsz : Nat → Int32} {tpl : Nat → Nat → Int32}
/-- what made() leaves -/
def MG (S : x_S) (R A : Nat) (row : Nat → Int32) (X : Option (Int32 × (Nat → Int32) × x_S)) : Prop :=
  ∃ row' Y kinds strengths moved needs forbids s kz, X = some (1, row', (TS Y R A kinds strengths moved needs forbids S.1 S.2.1 S.2.2.1 S.2.2.2.1 S.2.2.2.2.1 S.2.2.2.2.2.1 (vp_updL S.2.2.2.2.2.2.1 0 s) (nI 0) S.2.2.2.2.2.2.2.2.1 kz S.2.2.2.2.2.2.2.2.2.2.1 0 S.2.2.2.2.2.2.2.2.2.2.2.2.2.2.2.2.2.2.2.2.2.2.2.2.2.2.2.2.2.2.2.2.2.2.2.2.2.2)) ∧ RD R A row kinds strengths moved needs forbids s ∧ (∀ k, k < 3 → kz k = -1) ∧ Y.1 = upd S.2.2.2.2.2.2.2.2.2.2.2.1 0 (nI (2 + 4 * R + 5 * A)) ∧ TX R A row (Y.2.1 0) ∧
    (∀ j, (j < 14 ∨ 20 ≤ j) → row' j = row j) ∧ (∀ i, i < R → row' (14 + i) = if row (14 + i) = nI i then -9 else if row (14 + i) < nI R then row (14 + i) else -9)
theorem mk_345 (hL : LW R A row) (S' : x_S) : ∃ row', M_L_made_b345 x_fuel row S' 1 0 = some (1, row', S') ∧ (∀ j, (j < 14 ∨ 20 ≤ j) → row' j = row j) ∧ (∀ i, i < R → row' (14 + i) = if row (14 + i) = nI i then -9 else if row (14 + i) < nI R then row (14 + i) else -9) := by
  have hR := hL.2.1
  have h0 := hL.2.2.2.2.1
  exact pu_lp (fun fu k (x : Nat → Int32) => ∃ row', M_L_made_b345 fu x S' 1 (nI k) = some (1, row', S') ∧ (∀ j, (j < 14 ∨ 20 ≤ j) → row' j = row j) ∧ (∀ i, i < R → row' (14 + i) = if row (14 + i) = nI i then -9 else if row (14 + i) < nI R then row (14 + i) else -9))
    (fun k x => (∀ j, (j < 14 ∨ 14 + k ≤ j) → x j = row j) ∧ (∀ j, 20 ≤ j → x j = row j) ∧ (∀ i, i < k → x (14 + i) = if row (14 + i) = nI i then -9 else if row (14 + i) < nI R then row (14 + i) else -9)) R (by omega)
    (fun fu x h => ⟨x, by rw [M_L_made_b345, h.1 0 (by omega), h0, if_pos (pu_le (by omega) (by omega) (Nat.le_refl R)), if_pos (show narrow FieldType.boolean (Value.int 1) = Value.int 1 from rfl)], fun j hj => hj.elim (fun q => h.1 j (.inl q)) (fun q => h.2.1 j q), h.2.2⟩)
    (fun fu k x hk h ih => by
      have ex : x (14 + k) = row (14 + k) := h.1 _ (by omega)
      have go : ∀ v : Int32, v = (if row (14 + k) = nI k then -9 else if row (14 + k) < nI R then row (14 + k) else -9) → ∃ row', M_L_made_b345 fu (upd x (14 + k) v) S' 1 (nI (k + 1)) = some (1, row', S') ∧ (∀ j, (j < 14 ∨ 20 ≤ j) → row' j = row j) ∧ (∀ i, i < R → row' (14 + i) = if row (14 + i) = nI i then -9 else if row (14 + i) < nI R then row (14 + i) else -9) := fun v hv =>
        ih _ ⟨fun j hj => by rw [pu_un (by omega)]; exact h.1 j (by omega), fun j hj => by rw [pu_un (by omega)]; exact h.2.1 j hj, fun i hi => by
          by_cases e : i = k
          · subst e; rw [pu_us, hv]
          · rw [pu_un (by omega)]; exact h.2.2 i (by omega)⟩
      rw [M_L_made_b345, h.1 0 (by omega), h0, if_neg (nI_ge hk (by omega)), if_pos (i38 14 (by omega)), cO' 14 (by omega), ex]
      unfold M_L_made_b384 M_L_made_b396
      have e14 : inb ((14 : Int32) + nI k) 38 := i38 14 (by omega)
      simp only [if_pos e14, cO' 14 (show 14 + k < 85 by omega), nI_1]
      by_cases q : row (14 + k) = nI k
      · rw [if_pos q]
        exact go _ (by rw [if_pos q])
      · rw [if_neg q]
        by_cases w : row (14 + k) < nI R
        · rw [if_pos w]
          exact go _ (by rw [if_neg q, if_pos w])
        · rw [if_neg w]
          exact go _ (by rw [if_neg q, if_neg w]))
    row ⟨fun _ _ => rfl, fun _ _ => rfl, fun i hi => absurd hi (by omega)⟩
theorem v48 {v : Nat} (hv : v < 64) : ((48 : Int32) + nI v).toInt8.toInt32 = 48 + nI v := by
  rw [show (48 : Int32) + nI v = nI (48 + v) from nI_add 48 v]
  exact by8 _ (by omega)
theorem mk_176 (hL : LW R A row) (hn : n = 2 + 4 * R + 5 * A) (hz : tsz = upd S.2.2.2.2.2.2.2.2.2.2.2.1 0 (nI n)) (q : Nat → Int32) (hq : q 0 = 104 ∧ q 1 = 48 + row 26 ∧ (∀ i, i < R → q (2 + 4 * i) = M_L_letter (row (2 + i)) ∧ q (3 + 4 * i) = 48 + row (8 + i) ∧ q (4 + 4 * i) = 48 + row (14 + i) ∧ q (5 + 4 * i) = 48 + row (20 + i)) ∧ ∀ j, 2 + 4 * R ≤ j → j < n → q j = 32) :
    MG S R A row (M_L_made_b176 x_fuel row (SU S tsz (upd2 tpl 0 q)) 1 0) := by
  have hR := hL.2.1
  have hA := hL.2.2.2.1
  have hR1 := hL.1
  have h0 := hL.2.2.2.2.1
  have h1 := hL.2.2.2.2.2.1
  have hn6 : n ≤ 60 := by omega
  have hz0 : tsz 0 = nI n := by rw [hz, pu_us]
  exact pu_lp (fun fu k (x : Nat → Int32) => MG S R A row (M_L_made_b176 fu row (SU S tsz (upd2 tpl 0 x)) 1 (nI k)))
    (fun k x => (∀ j, j < 2 + 4 * R → x j = q j) ∧ (∀ a, a < k → x (2 + 4 * R + 5 * a) = 97 ∧ x (2 + 4 * R + 5 * a + 1) = 48 + row (27 + a) / 10 ∧ x (2 + 4 * R + 5 * a + 2) = 48 + (row (27 + a) - row (27 + a) / 10 * 10) ∧ x (2 + 4 * R + 5 * a + 3) = 48 + row (31 + a) / 10 ∧ x (2 + 4 * R + 5 * a + 4) = 48 + (row (31 + a) - row (31 + a) / 10 * 10)) ∧ ∀ j, 2 + 4 * R + 5 * k ≤ j → j < n → x j = 32) A (by omega)
    (fun fu x h => by
      have hX : TX R A row x := ⟨by rw [h.1 _ (by omega)]; exact hq.1, by rw [h.1 _ (by omega)]; exact hq.2.1, fun i hi => by
        rw [h.1 _ (by omega), h.1 _ (by omega), h.1 _ (by omega), h.1 _ (by omega)]; exact hq.2.2.1 i hi, h.2.1⟩
      obtain ⟨Y, ki, sr, mo, ne, fo, s, kz, c1, c2, c3, c4, c5⟩ := t_court (SU S tsz (upd2 tpl 0 x)) hL (show TX R A row (upd2 tpl 0 x 0) by rw [pu_2s]; exact hX) (show tsz 0 = _ by rw [hz0, hn])
      rw [M_L_made_b176, h1, if_pos (pu_le (by omega) (by omega) (Nat.le_refl A)), if_neg n10, c1, Option.bind_some, h0, if_pos rfl]
      unfold M_L_made_b341
      obtain ⟨row', d1, d2, d3⟩ := mk_345 hL (TS Y R A ki sr mo ne fo S.1 S.2.1 S.2.2.1 S.2.2.2.1 S.2.2.2.2.1 S.2.2.2.2.2.1 (vp_updL S.2.2.2.2.2.2.1 0 s) (nI 0) S.2.2.2.2.2.2.2.2.1 kz S.2.2.2.2.2.2.2.2.2.2.1 0 S.2.2.2.2.2.2.2.2.2.2.2.2.2.2.2.2.2.2.2.2.2.2.2.2.2.2.2.2.2.2.2.2.2.2.2.2.2.2)
      refine ⟨row', Y, ki, sr, mo, ne, fo, s, kz, d1, c2, c3, ?_, ?_, d2, d3⟩
      · rw [c4, ← hn]; exact hz
      · rw [c5]; show TX R A row (upd2 tpl 0 x 0); rw [pu_2s]; exact hX)
    (fun fu k x hk h ih => by
      obtain ⟨⟨p, hp, ep⟩, ⟨q', hq', eq'⟩⟩ := hL.2.2.2.2.2.2.2.2 k hk
      obtain ⟨p1, p2⟩ := n10_d hp
      obtain ⟨q1, q2⟩ := n10_d hq'
      have ix : ((2 : Int32) + ((4 : Int32) * nI R)) + ((5 : Int32) * nI k) = nI (2 + 4 * R + 5 * k) := by
        show nI 2 + nI 4 * nI R + nI 5 * nI k = _
        rw [pk_mul, pk_mul, nI_add, nI_add]
      have v1 : ((48 : Int32) + nI p / 10).toInt8.toInt32 = 48 + nI p / 10 := by rw [p1]; exact v48 (by omega)
      have v2 : ((48 : Int32) + (nI p - nI p / 10 * 10)).toInt8.toInt32 = 48 + (nI p - nI p / 10 * 10) := by rw [p2]; exact v48 (by omega)
      have v3 : ((48 : Int32) + nI q' / 10).toInt8.toInt32 = 48 + nI q' / 10 := by rw [q1]; exact v48 (by omega)
      have v4 : ((48 : Int32) + (nI q' - nI q' / 10 * 10)).toInt8.toInt32 = 48 + (nI q' - nI q' / 10 * 10) := by rw [q2]; exact v48 (by omega)
      have b32 : ∀ j, 2 + 4 * R + 5 * k ≤ j → j < n → x j = 32 := h.2.2
      rw [M_L_made_b176, h1, if_neg (nI_ge hk (by omega)), if_neg n10, h0, ix, t_sign (p := 2 + 4 * R + 5 * k) hn6 hz0 (by omega) (b32 _ (by omega) (by omega)) (v := 97) (by decide), Option.bind_some, if_neg n10, if_pos (i38 27 (by omega)), cO' 27 (by omega), ep,
        show nI (2 + 4 * R + 5 * k) + (1 : Int32) = nI (2 + 4 * R + 5 * k + 1) from nI_add _ 1, t_sign (p := 2 + 4 * R + 5 * k + 1) hn6 hz0 (by omega) (by rw [pu_un (by omega)]; exact b32 _ (by omega) (by omega)) v1, Option.bind_some, if_neg n10,
        show nI (2 + 4 * R + 5 * k) + (2 : Int32) = nI (2 + 4 * R + 5 * k + 2) from nI_add _ 2, t_sign (p := 2 + 4 * R + 5 * k + 2) hn6 hz0 (by omega) (by rw [pu_un (by omega), pu_un (by omega)]; exact b32 _ (by omega) (by omega)) v2, Option.bind_some, if_neg n10, if_pos (i38 31 (by omega)), cO' 31 (by omega), eq',
        show nI (2 + 4 * R + 5 * k) + (3 : Int32) = nI (2 + 4 * R + 5 * k + 3) from nI_add _ 3, t_sign (p := 2 + 4 * R + 5 * k + 3) hn6 hz0 (by omega) (by rw [pu_un (by omega), pu_un (by omega), pu_un (by omega)]; exact b32 _ (by omega) (by omega)) v3, Option.bind_some, if_neg n10,
        show nI (2 + 4 * R + 5 * k) + (4 : Int32) = nI (2 + 4 * R + 5 * k + 4) from nI_add _ 4, t_sign (p := 2 + 4 * R + 5 * k + 4) hn6 hz0 (by omega) (by rw [pu_un (by omega), pu_un (by omega), pu_un (by omega), pu_un (by omega)]; exact b32 _ (by omega) (by omega)) v4, Option.bind_some, if_neg n10]
      unfold M_L_made_b314
      rw [nI_1]
      refine ih _ ⟨fun j hj => ?_, fun a ha => ?_, fun j hj1 hj2 => ?_⟩
      · rw [pu_un (by omega), pu_un (by omega), pu_un (by omega), pu_un (by omega), pu_un (by omega)]; exact h.1 j hj
      · by_cases e : a = k
        · subst e
          rw [ep, eq']
          exact ⟨by rw [pu_un (by omega), pu_un (by omega), pu_un (by omega), pu_un (by omega), pu_us], by rw [pu_un (by omega), pu_un (by omega), pu_un (by omega), pu_us], by rw [pu_un (by omega), pu_un (by omega), pu_us], by rw [pu_un (by omega), pu_us], by rw [pu_us]⟩
        · obtain ⟨y1, y2, y3, y4, y5⟩ := h.2.1 a (by omega)
          exact ⟨by rw [pu_un (by omega), pu_un (by omega), pu_un (by omega), pu_un (by omega), pu_un (by omega)]; exact y1, by rw [pu_un (by omega), pu_un (by omega), pu_un (by omega), pu_un (by omega), pu_un (by omega)]; exact y2, by rw [pu_un (by omega), pu_un (by omega), pu_un (by omega), pu_un (by omega), pu_un (by omega)]; exact y3, by rw [pu_un (by omega), pu_un (by omega), pu_un (by omega), pu_un (by omega), pu_un (by omega)]; exact y4, by rw [pu_un (by omega), pu_un (by omega), pu_un (by omega), pu_un (by omega), pu_un (by omega)]; exact y5⟩
      · rw [pu_un (by omega), pu_un (by omega), pu_un (by omega), pu_un (by omega), pu_un (by omega)]; exact b32 j (by omega) hj2)
    q ⟨fun _ _ => rfl, fun a ha => absurd ha (by omega), fun j hj1 hj2 => hq.2.2.2 j (by omega) hj2⟩
theorem mk_58 (hL : LW R A row) (hn : n = 2 + 4 * R + 5 * A) (hz : tsz = upd S.2.2.2.2.2.2.2.2.2.2.2.1 0 (nI n)) (q : Nat → Int32) (hq : q 0 = 104 ∧ q 1 = 48 + row 26 ∧ ∀ j, 2 ≤ j → j < n → q j = 32) :
    MG S R A row (M_L_made_b58 x_fuel row (SU S tsz (upd2 tpl 0 q)) 1 0) := by
  have hR := hL.2.1
  have hA := hL.2.2.2.1
  have hR1 := hL.1
  have h0 := hL.2.2.2.2.1
  have hn6 : n ≤ 60 := by omega
  have hz0 : tsz 0 = nI n := by rw [hz, pu_us]
  exact pu_lp (fun fu k (x : Nat → Int32) => MG S R A row (M_L_made_b58 fu row (SU S tsz (upd2 tpl 0 x)) 1 (nI k)))
    (fun k x => x 0 = 104 ∧ x 1 = 48 + row 26 ∧ (∀ i, i < k → x (2 + 4 * i) = M_L_letter (row (2 + i)) ∧ x (3 + 4 * i) = 48 + row (8 + i) ∧ x (4 + 4 * i) = 48 + row (14 + i) ∧ x (5 + 4 * i) = 48 + row (20 + i)) ∧ ∀ j, 2 + 4 * k ≤ j → j < n → x j = 32) R (by omega)
    (fun fu x h => by
      rw [M_L_made_b58, h0, if_pos (pu_le (by omega) (by omega) (Nat.le_refl R))]
      exact mk_176 hL hn hz x h)
    (fun fu k x hk h ih => by
      obtain ⟨⟨kk, hkk, ek⟩, ⟨v, hv1, hv, ev, s, hs, es⟩, ⟨t, ht, et⟩⟩ := hL.2.2.2.2.2.2.2.1 k hk
      obtain ⟨c, hc, ec⟩ := lt8 kk hkk
      obtain ⟨g0, g1, g2, b32⟩ := h
      have v0 : (M_L_letter (nI kk)).toInt8.toInt32 = M_L_letter (nI kk) := by rw [ec]; exact by8 c hc
      have ix : ∀ b : Nat, nI b + ((4 : Int32) * nI k) = nI (b + 4 * k) := fun b => by
        show nI b + nI 4 * nI k = _
        rw [pk_mul, nI_add]
      rw [M_L_made_b58, h0, if_neg (nI_ge hk (by omega)), if_neg n10, if_pos (i38 2 (by omega)), cO' 2 (by omega), ek,
        show (2 : Int32) + ((4 : Int32) * nI k) = nI (2 + 4 * k) from ix 2, t_sign (p := 2 + 4 * k) hn6 hz0 (by omega) (b32 _ (by omega) (by omega)) v0, Option.bind_some, if_neg n10, if_pos (i38 8 (by omega)), cO' 8 (by omega), ev,
        show (3 : Int32) + ((4 : Int32) * nI k) = nI (3 + 4 * k) from ix 3, t_sign (p := 3 + 4 * k) hn6 hz0 (by omega) (by rw [pu_un (by omega)]; exact b32 _ (by omega) (by omega)) (v48 (by omega)), Option.bind_some, if_neg n10, if_pos (i38 14 (by omega)), cO' 14 (by omega), et,
        show (4 : Int32) + ((4 : Int32) * nI k) = nI (4 + 4 * k) from ix 4, t_sign (p := 4 + 4 * k) hn6 hz0 (by omega) (by rw [pu_un (by omega), pu_un (by omega)]; exact b32 _ (by omega) (by omega)) (v48 (by omega)), Option.bind_some, if_neg n10, if_pos (i38 20 (by omega)), cO' 20 (by omega), es,
        show (5 : Int32) + ((4 : Int32) * nI k) = nI (5 + 4 * k) from ix 5, t_sign (p := 5 + 4 * k) hn6 hz0 (by omega) (by rw [pu_un (by omega), pu_un (by omega), pu_un (by omega)]; exact b32 _ (by omega) (by omega)) (v48 (by omega)), Option.bind_some, if_neg n10]
      unfold M_L_made_b166
      rw [nI_1]
      refine ih _ ⟨?_, ?_, fun i hi => ?_, fun j hj1 hj2 => ?_⟩
      · rw [pu_un (by omega), pu_un (by omega), pu_un (by omega), pu_un (by omega)]; exact g0
      · rw [pu_un (by omega), pu_un (by omega), pu_un (by omega), pu_un (by omega)]; exact g1
      · by_cases e : i = k
        · subst e
          rw [ek, ev, et, es]
          exact ⟨by rw [pu_un (by omega), pu_un (by omega), pu_un (by omega), pu_us], by rw [pu_un (by omega), pu_un (by omega), pu_us], by rw [pu_un (by omega), pu_us], by rw [pu_us]⟩
        · obtain ⟨y1, y2, y3, y4⟩ := g2 i (by omega)
          exact ⟨by rw [pu_un (by omega), pu_un (by omega), pu_un (by omega), pu_un (by omega)]; exact y1, by rw [pu_un (by omega), pu_un (by omega), pu_un (by omega), pu_un (by omega)]; exact y2, by rw [pu_un (by omega), pu_un (by omega), pu_un (by omega), pu_un (by omega)]; exact y3, by rw [pu_un (by omega), pu_un (by omega), pu_un (by omega), pu_un (by omega)]; exact y4⟩
      · rw [pu_un (by omega), pu_un (by omega), pu_un (by omega), pu_un (by omega)]; exact b32 j (by omega) hj2)
    q ⟨hq.1, hq.2.1, fun i hi => absurd hi (by omega), hq.2.2⟩
theorem made_T (hL : LW R A row) : MG S R A row (M_L_made row S) := by
  have hR := hL.2.1
  have hA := hL.2.2.2.1
  have h0 := hL.2.2.2.2.1
  have h1 := hL.2.2.2.2.2.1
  obtain ⟨f, hf, ef⟩ := hL.2.2.2.2.2.2.1
  have hn6 : 2 + 4 * R + 5 * A ≤ 60 := by omega
  have ix : ((2 : Int32) + ((4 : Int32) * nI R)) + ((5 : Int32) * nI A) = nI (2 + 4 * R + 5 * A) := by
    show nI 2 + nI 4 * nI R + nI 5 * nI A = _
    rw [pk_mul, pk_mul, nI_add, nI_add]
  obtain ⟨q, t1, t2⟩ := t_text (S := S) hn6
  have hz0 : (upd S.2.2.2.2.2.2.2.2.2.2.2.1 0 (nI (2 + 4 * R + 5 * A))) 0 = nI (2 + 4 * R + 5 * A) := pu_us
  unfold M_L_made
  rw [h0, h1, ix, t1, Option.bind_some, if_pos rfl]
  show MG S R A row ((M_L_sign (SU S (upd S.2.2.2.2.2.2.2.2.2.2.2.1 0 (nI (2 + 4 * R + 5 * A))) (upd2 S.2.2.2.2.2.2.2.2.2.2.2.2.1 0 q)) (nI 0) 104).bind _)
  rw [t_sign (p := 0) hn6 hz0 (by omega) (t2 _ (by omega)) (by decide), Option.bind_some, if_neg n10, ef]
  show MG S R A row ((M_L_sign (SU S (upd S.2.2.2.2.2.2.2.2.2.2.2.1 0 (nI (2 + 4 * R + 5 * A))) (upd2 S.2.2.2.2.2.2.2.2.2.2.2.2.1 0 (upd q 0 104))) (nI 1) (48 + nI f)).bind _)
  rw [t_sign (p := 1) hn6 hz0 (by omega) (by rw [pu_un (by omega)]; exact t2 _ (by omega)) (v48 (by omega)), Option.bind_some, if_neg n10]
  unfold M_L_made_b54
  exact mk_58 hL rfl rfl _ ⟨by rw [pu_un (by omega), pu_us], by rw [pu_us, ef], fun j hj1 hj2 => by rw [pu_un (by omega), pu_un (by omega)]; exact t2 j hj2⟩
theorem rs_of {kinds strengths moved needs forbids row' : Nat → Int32} {s : Int64} (hL : LW R A row) (hD : RD R A row kinds strengths moved needs forbids s) (h1 : ∀ j, (j < 14 ∨ 20 ≤ j) → row' j = row j) (h2 : ∀ i, i < R → row' (14 + i) = if row (14 + i) = nI i then -9 else if row (14 + i) < nI R then row (14 + i) else -9) : pu_RS R A kinds strengths moved needs forbids row' := by
  obtain ⟨l1, l2, l3, l4, l5, l6, l7, l8, l9⟩ := hL
  refine ⟨l2, l4, by rw [h1 _ (by omega)]; exact l5, by rw [h1 _ (by omega)]; exact l6, fun i hi => ?_, fun a ha => ?_⟩
  · obtain ⟨⟨k, hk, ek⟩, ⟨v, hv1, hv, ev, s, hs, es⟩, ⟨t, ht, et⟩⟩ := l8 i hi
    obtain ⟨d1, d2, d3⟩ := hD.1 i hi
    refine ⟨by rw [h1 _ (by omega), d1], ⟨k, hk, by rw [d1, ek]⟩, by rw [h1 _ (by omega), d2], ⟨v, hv, hv1, by rw [d2, ev]⟩, ?_, ?_⟩
    · unfold M_X2_target
      rw [rs_isRope l2 hi, if_neg (by decide), if_pos (pu_inb (by omega) (by decide)), nI_clamp (by omega), d3, h2 i hi, et]
      by_cases q : nI t = nI i
      · rw [if_pos q, if_pos q]
      · rw [if_neg q, if_neg q]
        by_cases w : t < R
        · rw [rs_isRope l2 w, if_neg (by decide), if_pos (pu_lt (by omega) (by omega) w)]
        · rw [rs_noRope l2 w (by omega), if_pos rfl, if_neg (pu_nlt (by omega) (by omega) (by omega))]
    · rw [h2 i hi, et]
      by_cases q : nI t = nI i
      · rw [if_pos q]; exact .inl rfl
      · rw [if_neg q]
        by_cases w : t < R
        · rw [if_pos (pu_lt (by omega) (by omega) w)]
          exact .inr ⟨t, w, fun e => q (by rw [e]), rfl⟩
        · rw [if_neg (pu_nlt (by omega) (by omega) (by omega))]; exact .inl rfl
  · obtain ⟨⟨p, hp, ep⟩, ⟨q, hq, eq⟩⟩ := l9 a ha
    obtain ⟨d1, d2⟩ := hD.2.1 a ha
    exact ⟨by rw [h1 _ (by omega), d1], by rw [h1 _ (by omega), d2], ⟨p, hp, by rw [d1, ep]⟩, ⟨q, hq, by rw [d2, eq]⟩⟩
end
