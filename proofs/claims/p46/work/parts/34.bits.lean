/-! PURE PART: the court's one number, bit by bit -/
theorem s_l : ∀ n, n < 32 → ((nI n &&& 31).toBitVec.smod 32).toNat = n := by decide +kernel
theorem b_shl (n : Nat) (hn : n < 32) (x : Int32) {i : Nat} (hi : i < 32) : bt (x <<< (nI n &&& 31)) i = (decide (n ≤ i) && bt x (i - n)) := by
  unfold bt
  rw [Int32.toBitVec_shiftLeft]
  show (x.toBitVec <<< ((nI n &&& 31).toBitVec.smod 32).toNat).getLsbD i = _
  rw [s_l n hn, BitVec.getLsbD_shiftLeft]
  rcases Nat.lt_or_ge i n with h | h
  · simp [h, Nat.not_le.mpr h]
  · simp [hi, h, Nat.not_lt.mpr h]
theorem b_sshr (n : Nat) (hn : n < 32) (x : Int32) {i : Nat} (hi : i < 32) : bt (x >>> (nI n &&& 31)) i = if n + i < 32 then bt x (n + i) else bt x 31 := by
  unfold bt
  rw [Int32.toBitVec_shiftRight]
  show (x.toBitVec.sshiftRight ((nI n &&& 31).toBitVec.smod 32).toNat).getLsbD i = _
  rw [s_l n hn, BitVec.getLsbD_sshiftRight, BitVec.msb_eq_getLsbD_last]
  simp [hi]
theorem b_1 : ∀ i, i < 32 → bt 1 i = decide (i = 0) := by decide +kernel
theorem b_15 : ∀ i, i < 32 → bt 15 i = decide (i < 4) := by decide +kernel
theorem b_63 : ∀ i, i < 32 → bt 63 i = decide (i < 6) := by decide +kernel
theorem b_not (x : Int32) {i : Nat} (hi : i < 32) : bt (x ^^^ (-1)) i = !bt x i := by
  rw [b_xor, b_m1 i hi]; cases bt x i <;> rfl
theorem b_sb {n i : Nat} (hn : n < 32) (hi : i < 32) : bt ((1 : Int32) <<< (nI n &&& 31)) i = decide (i = n) := by
  rw [b_shl n hn _ hi, b_1 (i - n) (by omega), Bool.eq_iff_iff]
  simp only [Bool.and_eq_true, decide_eq_true_eq]
  omega
theorem b_bit (x : Int32) {i : Nat} (hi : i < 32) : ((x >>> (nI i &&& 31)) &&& 1) = 0 ↔ bt x i = false := by
  have e : bt ((x >>> (nI i &&& 31)) &&& 1) 0 = bt x i := by
    rw [b_and, b_1 0 (by omega), b_sshr i hi x (by omega), if_pos (by omega)]
    simp
  constructor
  · intro h
    rw [← e, h, b_0]
  · intro h
    apply b_ext
    intro k hk
    rw [b_0]
    rcases Nat.eq_zero_or_pos k with q | q
    · subst q; rw [e, h]
    · rw [b_and, b_1 k hk, decide_eq_false (by omega), Bool.and_false]
theorem b_bit1 (x : Int32) {i : Nat} (hi : i < 32) : ((x >>> (nI i &&& 31)) &&& 1) = 1 ↔ bt x i = true := by
  have e : bt ((x >>> (nI i &&& 31)) &&& 1) 0 = bt x i := by
    rw [b_and, b_1 0 (by omega), b_sshr i hi x (by omega), if_pos (by omega)]
    simp
  constructor
  · intro h
    rw [← e, h]; decide
  · intro h
    apply b_ext
    intro k hk
    rcases Nat.eq_zero_or_pos k with q | q
    · subst q; rw [e, h]; decide
    · rw [b_and, b_1 k hk, decide_eq_false (by omega), Bool.and_false]
theorem b_nI (k : Nat) {i : Nat} (hi : i < 32) : bt (nI k) i = k.testBit i := by
  show (BitVec.ofNat 32 k).getLsbD i = _
  rw [BitVec.getLsbD_ofNat]
  simp [hi]
theorem wb_of32 (x : Int32) : ∃ n, n < 2 ^ 32 ∧ x = nI n := ⟨x.toBitVec.toNat, x.toBitVec.isLt, Int32.toBitVec_inj.mp (by show _ = BitVec.ofNat 32 _; simp)⟩
theorem b_m15 (x : Int32) : ∃ n, n < 16 ∧ x &&& 15 = nI n := by
  obtain ⟨m, _, rfl⟩ := wb_of32 x
  refine ⟨m % 16, Nat.mod_lt _ (by decide), ?_⟩
  rw [show (15 : Int32) = nI 15 from rfl, nx_and]
  exact congrArg nI (Nat.and_two_pow_sub_one_eq_mod m 4)
theorem b_m63 (x : Int32) : ∃ n, n < 64 ∧ x &&& 63 = nI n := by
  obtain ⟨m, _, rfl⟩ := wb_of32 x
  refine ⟨m % 64, Nat.mod_lt _ (by decide), ?_⟩
  rw [show (63 : Int32) = nI 63 from rfl, nx_and]
  exact congrArg nI (Nat.and_two_pow_sub_one_eq_mod m 6)
theorem b_m1e (x : Int32) : ∃ n, n < 2 ∧ x &&& 1 = nI n := by
  obtain ⟨m, _, rfl⟩ := wb_of32 x
  refine ⟨m % 2, Nat.mod_lt _ (by decide), ?_⟩
  rw [show (1 : Int32) = nI 1 from rfl, nx_and]
  exact congrArg nI (Nat.and_two_pow_sub_one_eq_mod m 1)
theorem b_s64 {x : Int32} (h : ∀ i, 6 ≤ i → i < 32 → bt x i = false) : ∃ n, n < 64 ∧ x = nI n := by
  have e : x = x &&& 63 := by
    apply b_ext
    intro i hi
    rw [b_and, b_63 i hi]
    by_cases q : i < 6
    · simp [q]
    · rw [h i (by omega) hi]; rfl
  rw [e]
  exact b_m63 x
def bl (x : Int64) (i : Nat) : Bool := x.toBitVec.getLsbD i
theorem l_ext {x y : Int64} (h : ∀ i, i < 64 → bl x i = bl y i) : x = y := Int64.toBitVec_inj.mp (BitVec.eq_of_getLsbD_eq (fun i hi => h i hi))
theorem l_or (x y : Int64) (i : Nat) : bl (x ||| y) i = (bl x i || bl y i) := by unfold bl; rw [Int64.toBitVec_or, BitVec.getLsbD_or]
theorem l_and (x y : Int64) (i : Nat) : bl (x &&& y) i = (bl x i && bl y i) := by unfold bl; rw [Int64.toBitVec_and, BitVec.getLsbD_and]
theorem l_xor (x y : Int64) (i : Nat) : bl (x ^^^ y) i = (bl x i ^^ bl y i) := by unfold bl; rw [Int64.toBitVec_xor, BitVec.getLsbD_xor]
theorem l_m1 : ∀ i, i < 64 → bl (-1) i = true := by decide +kernel
theorem l_not (x : Int64) {i : Nat} (hi : i < 64) : bl (x ^^^ (-1)) i = !bl x i := by
  rw [l_xor, l_m1 i hi]; cases bl x i <;> rfl
theorem l_0 (i : Nat) : bl 0 i = false := BitVec.getLsbD_zero
theorem l_15 : ∀ i, i < 64 → bl 15 i = decide (i < 4) := by decide +kernel
theorem l_1 : ∀ i, i < 64 → bl 1 i = decide (i = 0) := by decide +kernel
theorem l_fm : ∀ i, i < 64 → bl (-68719476737) i = !decide (i = 36) := by decide +kernel
theorem l_sc : ∀ n, n < 64 → (((nI n).toInt64 &&& 63).toBitVec.smod 64).toNat = n := by decide +kernel
theorem l_shl (n : Nat) (hn : n < 64) (x : Int64) {i : Nat} (hi : i < 64) : bl (x <<< ((nI n).toInt64 &&& 63)) i = (decide (n ≤ i) && bl x (i - n)) := by
  unfold bl
  rw [Int64.toBitVec_shiftLeft]
  show (x.toBitVec <<< (((nI n).toInt64 &&& 63).toBitVec.smod 64).toNat).getLsbD i = _
  rw [l_sc n hn, BitVec.getLsbD_shiftLeft]
  rcases Nat.lt_or_ge i n with h | h
  · simp [h, Nat.not_le.mpr h]
  · simp [hi, h, Nat.not_lt.mpr h]
theorem l_sshr (n : Nat) (hn : n < 64) (x : Int64) {i : Nat} (hi : i < 64) : bl (x >>> ((nI n).toInt64 &&& 63)) i = if n + i < 64 then bl x (n + i) else bl x 63 := by
  unfold bl
  rw [Int64.toBitVec_shiftRight]
  show (x.toBitVec.sshiftRight (((nI n).toInt64 &&& 63).toBitVec.smod 64).toNat).getLsbD i = _
  rw [l_sc n hn, BitVec.getLsbD_sshiftRight, BitVec.msb_eq_getLsbD_last]
  simp [hi]
theorem l_sb {n i : Nat} (hn : n < 64) (hi : i < 64) : bl ((1 : Int64) <<< ((nI n).toInt64 &&& 63)) i = decide (i = n) := by
  rw [l_shl n hn _ hi, l_1 (i - n) (by omega), Bool.eq_iff_iff]
  simp only [Bool.and_eq_true, decide_eq_true_eq]
  omega
theorem l_t32 (x : Int64) {i : Nat} (hi : i < 32) : bt x.toInt32 i = bl x i := by
  show (x.toBitVec.signExtend 32).getLsbD i = x.toBitVec.getLsbD i
  rw [BitVec.getLsbD_signExtend, decide_eq_true hi, Bool.true_and, if_pos (by omega)]
theorem l_t64 (x : Int32) {i : Nat} (hi : i < 64) : bl x.toInt64 i = if i < 32 then bt x i else bt x 31 := by
  show (x.toBitVec.signExtend 64).getLsbD i = if i < 32 then x.toBitVec.getLsbD i else x.toBitVec.getLsbD 31
  rw [BitVec.getLsbD_signExtend, decide_eq_true hi, Bool.true_and, BitVec.msb_eq_getLsbD_last]
/-! what a state tells -/
theorem st_strain (s : Int64) {i k : Nat} (hi : i < 6) (hk : k < 32) : bt (M_X5_strain s (nI i)) k = (decide (k < 4) && bl s (4 * i + k)) := by
  unfold M_X5_strain
  rw [show (4 : Int32) = nI 4 from rfl, pk_mul, b_and, b_15 k hk, l_t32 _ hk, l_sshr (4 * i) (by omega) s (by omega), if_pos (by omega), Bool.and_comm]
theorem st_letGo (s : Int64) {k : Nat} (hk : k < 32) : bt (M_X5_letGo s) k = (decide (k < 6) && bl s (24 + k)) := by
  unfold M_X5_letGo
  rw [show (24 : Int32) = nI 24 from rfl, b_and, b_63 k hk, l_t32 _ hk, l_sshr 24 (by omega) s (by omega), if_pos (by omega), Bool.and_comm]
theorem st_parted (s : Int64) {k : Nat} (hk : k < 32) : bt (M_X5_parted s) k = (decide (k < 6) && bl s (30 + k)) := by
  unfold M_X5_parted
  rw [show (30 : Int32) = nI 30 from rfl, b_and, b_63 k hk, l_t32 _ hk, l_sshr 30 (by omega) s (by omega), if_pos (by omega), Bool.and_comm]
theorem st_frost (s : Int64) {k : Nat} (hk : k < 32) : bt (M_X5_frostIn s) k = (decide (k = 0) && bl s 36) := by
  unfold M_X5_frostIn
  rw [show (36 : Int32) = nI 36 from rfl, b_and, b_1 k hk, l_t32 _ hk, l_sshr 36 (by omega) s (by omega)]
  by_cases h : k = 0
  · subst h; simp
  · simp [h]
theorem st_isLetGo (s : Int64) {i : Nat} (hi : i < 6) : M_X5_isLetGo s (nI i) = if bl s (24 + i) then 1 else 0 := by
  unfold M_X5_isLetGo
  have e := st_letGo s (k := i) (by omega)
  rw [decide_eq_true hi, Bool.true_and] at e
  cases h : bl s (24 + i)
  · rw [if_pos ((b_bit _ (by omega)).mpr (by rw [e, h]))]; rfl
  · rw [if_neg (fun q => by rw [(b_bit _ (by omega)).mp q, h] at e; exact Bool.noConfusion e)]; rfl
theorem st_isParted (s : Int64) {i : Nat} (hi : i < 6) : M_X5_isParted s (nI i) = if bl s (30 + i) then 1 else 0 := by
  unfold M_X5_isParted
  have e := st_parted s (k := i) (by omega)
  rw [decide_eq_true hi, Bool.true_and] at e
  cases h : bl s (30 + i)
  · rw [if_pos ((b_bit _ (by omega)).mpr (by rw [e, h]))]; rfl
  · rw [if_neg (fun q => by rw [(b_bit _ (by omega)).mp q, h] at e; exact Bool.noConfusion e)]; rfl
theorem st_isFast (s : Int64) {i : Nat} (hi : i < 6) : M_X5_isFast s (nI i) = if (bl s (24 + i) || bl s (30 + i)) then 0 else 1 := by
  unfold M_X5_isFast
  rw [st_isLetGo s hi, st_isParted s hi]
  cases bl s (24 + i) <;> cases bl s (30 + i) <;> rfl
theorem st_sN (s : Int64) (x : Int32) : ∃ n, n < 16 ∧ M_X5_strain s x = nI n := b_m15 _
theorem st_lN (s : Int64) : ∃ n, n < 64 ∧ M_X5_letGo s = nI n := b_m63 _
theorem st_pN (s : Int64) : ∃ n, n < 64 ∧ M_X5_parted s = nI n := b_m63 _
theorem st_fN (s : Int64) : ∃ n, n < 2 ∧ M_X5_frostIn s = nI n := b_m1e _
/-! what is done to a state -/
theorem st_as (s : Int64) (v : Int32) {i k : Nat} (hi : i < 6) (hk : k < 64) : bl (M_X5_afterStrain s (nI i) v) k = if 4 * i ≤ k ∧ k < 4 * i + 4 then bt v (k - 4 * i) else bl s k := by
  unfold M_X5_afterStrain
  rw [show (4 : Int32) = nI 4 from rfl, pk_mul, l_or, l_and, l_not _ hk, l_shl (4 * i) (by omega) _ hk, l_shl (4 * i) (by omega) _ hk, l_15 (k - 4 * i) (by omega), l_t64 _ (by omega)]
  by_cases h1 : 4 * i ≤ k
  · by_cases h2 : k < 4 * i + 4
    · rw [if_pos (show k - 4 * i < 32 by omega), if_pos (show 4 * i ≤ k ∧ k < 4 * i + 4 from ⟨h1, h2⟩), b_and, b_15 _ (by omega), decide_eq_true h1, decide_eq_true (by omega : k - 4 * i < 4)]
      simp
    · rw [if_neg (show ¬ (4 * i ≤ k ∧ k < 4 * i + 4) from fun q => h2 q.2), decide_eq_true h1, decide_eq_false (by omega : ¬ k - 4 * i < 4)]
      have e : (if k - 4 * i < 32 then bt (v &&& 15) (k - 4 * i) else bt (v &&& 15) 31) = false := by
        by_cases q : k - 4 * i < 32
        · rw [if_pos q, b_and, b_15 _ q, decide_eq_false (by omega : ¬ k - 4 * i < 4), Bool.and_false]
        · rw [if_neg q, b_and, b_15 31 (by omega), decide_eq_false (by omega : ¬ 31 < 4), Bool.and_false]
      rw [e]
      simp
  · rw [if_neg (show ¬ (4 * i ≤ k ∧ k < 4 * i + 4) from fun q => h1 q.1), decide_eq_false h1]
    simp
theorem st_lg (s : Int64) {i k : Nat} (hi : i < 6) (hk : k < 64) : bl (M_X5_afterLetGo s (nI i)) k = if k = 24 + i then true else if 4 * i ≤ k ∧ k < 4 * i + 4 then false else bl s k := by
  unfold M_X5_afterLetGo
  rw [show (24 : Int32) = nI 24 from rfl, nI_add, l_or, st_as s 0 hi hk, l_sb (by omega) hk, b_0]
  by_cases h : k = 24 + i
  · rw [if_pos h, decide_eq_true h, Bool.or_true]
  · rw [if_neg h, decide_eq_false h, Bool.or_false]
theorem st_mo (s : Int64) {i k : Nat} (hi : i < 6) (hk : k < 64) : bl (M_X5_afterMadeOff s (nI i)) k = if k = 24 + i then false else bl s k := by
  unfold M_X5_afterMadeOff
  rw [show (24 : Int32) = nI 24 from rfl, nI_add, l_and, l_not _ hk, l_sb (by omega) hk]
  by_cases h : k = 24 + i
  · rw [if_pos h, decide_eq_true h, Bool.not_true, Bool.and_false]
  · rw [if_neg h, decide_eq_false h, Bool.not_false, Bool.and_true]
theorem st_sp (s : Int64) {i k : Nat} (hi : i < 6) (hk : k < 64) : bl (M_X5_afterSpliced s (nI i)) k = if (k = 24 + i ∨ k = 30 + i) then false else if 4 * i ≤ k ∧ k < 4 * i + 4 then false else bl s k := by
  unfold M_X5_afterSpliced
  rw [show (30 : Int32) = nI 30 from rfl, nI_add, l_and, l_not _ hk, l_sb (by omega) hk, st_mo _ hi hk, st_as s 0 hi hk, b_0]
  by_cases h : k = 30 + i
  · rw [if_pos (show k = 24 + i ∨ k = 30 + i from .inr h), decide_eq_true h, Bool.not_true, Bool.and_false]
  · rw [decide_eq_false h, Bool.not_false, Bool.and_true]
    by_cases h2 : k = 24 + i
    · rw [if_pos h2, if_pos (show k = 24 + i ∨ k = 30 + i from .inl h2)]
    · rw [if_neg h2, if_neg (show ¬ (k = 24 + i ∨ k = 30 + i) from fun q => q.elim h2 h)]
theorem st_af (s : Int64) (v : Int32) {k : Nat} (hk : k < 64) : bl (M_X5_afterFrost s v) k = if k = 36 then bt v 0 else bl s k := by
  unfold M_X5_afterFrost
  rw [show (36 : Int32) = nI 36 from rfl, l_or, l_and, l_fm k hk, l_shl 36 (by omega) _ hk, l_t64 _ (by omega)]
  by_cases h : k = 36
  · subst h
    rw [if_pos (by omega), if_pos rfl, b_and, b_1 _ (by omega)]
    simp
  · rw [if_neg h, decide_eq_false h]
    have e : (decide (36 ≤ k) && if k - 36 < 32 then bt (v &&& 1) (k - 36) else bt (v &&& 1) 31) = false := by
      by_cases q : 36 ≤ k
      · rw [if_pos (by omega), b_and, b_1 _ (by omega), decide_eq_false (by omega : ¬ k - 36 = 0), Bool.and_false, Bool.and_false]
      · rw [decide_eq_false q, Bool.false_and]
    rw [e]
    simp
def ap (s : Int64) (set : Int32) : Int64 := (M_X5_afterParted s set).getD 0
theorem st_ap0 (s : Int64) (set : Int32) : ∃ r, M_X5_afterParted s set = some r ∧ ∀ j, j < 64 → bl r j = if j < 24 then (bl s j && !bt set (j / 4)) else if 30 ≤ j ∧ j < 36 then (bl s j || bt set (j - 30)) else bl s j :=
  pu_lp (fun n k x => ∃ r, M_X5_afterParted_b5 n set x (nI k) = some r ∧ ∀ j, j < 64 → bl r j = if j < 24 then (bl s j && !bt set (j / 4)) else if 30 ≤ j ∧ j < 36 then (bl s j || bt set (j - 30)) else bl s j)
    (fun k x => ∀ j, j < 64 → bl x j = if j < 24 then (bl s j && !(decide (j / 4 < k) && bt set (j / 4))) else if 30 ≤ j ∧ j < 36 then (bl s j || (decide (j - 30 < k) && bt set (j - 30))) else bl s j) 6 (by omega)
    (fun n x h => ⟨x, by rw [M_X5_afterParted_b5, if_pos (by decide)], fun j hj => by
      rw [h j hj]
      by_cases h1 : j < 24
      · rw [if_pos h1, if_pos h1, decide_eq_true (by omega : j / 4 < 6), Bool.true_and]
      · rw [if_neg h1, if_neg h1]
        by_cases h2 : 30 ≤ j ∧ j < 36
        · rw [if_pos h2, if_pos h2, decide_eq_true (by omega : j - 30 < 6), Bool.true_and]
        · rw [if_neg h2, if_neg h2]⟩)
    (fun n k x hk h ih => by
      rw [M_X5_afterParted_b5, if_neg (gN 6 hk)]
      simp only [M_X5_afterParted_b37, nI_1]
      by_cases q : ((set >>> (nI k &&& (31 : Int32))) &&& (1 : Int32)) = 0
      · rw [if_pos q]
        have hb := (b_bit set (by omega)).mp q
        refine ih _ (fun j hj => ?_)
        rw [h j hj]
        by_cases h1 : j < 24
        · rw [if_pos h1, if_pos h1]
          by_cases e : j / 4 = k
          · rw [e, hb, Bool.and_false, Bool.and_false]
          · rw [show decide (j / 4 < k) = decide (j / 4 < k + 1) from decide_eq_decide.mpr (by omega)]
        · rw [if_neg h1, if_neg h1]
          by_cases h2 : 30 ≤ j ∧ j < 36
          · rw [if_pos h2, if_pos h2]
            by_cases e : j - 30 = k
            · rw [e, hb, Bool.and_false, Bool.and_false]
            · rw [show decide (j - 30 < k) = decide (j - 30 < k + 1) from decide_eq_decide.mpr (by omega)]
          · rw [if_neg h2, if_neg h2]
      · rw [if_neg q]
        have hb : bt set k = true := by
          cases hh : bt set k
          · exact absurd ((b_bit set (by omega)).mpr hh) q
          · rfl
        refine ih _ (fun j hj => ?_)
        rw [show (30 : Int32) = nI 30 from rfl, nI_add, l_or, l_sb (by omega) hj, st_as x 0 hk hj, b_0, h j hj]
        by_cases h1 : j < 24
        · rw [if_pos h1, if_pos h1, decide_eq_false (by omega : ¬ j = 30 + k), Bool.or_false]
          by_cases e : j / 4 = k
          · rw [if_pos (by omega), decide_eq_true (by omega : j / 4 < k + 1), e, hb]
            simp
          · rw [if_neg (by omega), show decide (j / 4 < k) = decide (j / 4 < k + 1) from decide_eq_decide.mpr (by omega)]
        · rw [if_neg h1, if_neg h1, if_neg (by omega)]
          by_cases h2 : 30 ≤ j ∧ j < 36
          · rw [if_pos h2, if_pos h2]
            by_cases e : j - 30 = k
            · rw [decide_eq_true (by omega : j = 30 + k), decide_eq_true (by omega : j - 30 < k + 1), e, hb]
              simp
            · rw [decide_eq_false (by omega : ¬ j = 30 + k), Bool.or_false, show decide (j - 30 < k) = decide (j - 30 < k + 1) from decide_eq_decide.mpr (by omega)]
          · rw [if_neg h2, if_neg h2, decide_eq_false (by omega : ¬ j = 30 + k), Bool.or_false])
    s (fun j hj => by simp)
theorem st_apE (s : Int64) (set : Int32) : M_X5_afterParted s set = some (ap s set) := by
  obtain ⟨r, h, _⟩ := st_ap0 s set
  unfold ap
  rw [h]; rfl
theorem st_ap (s : Int64) (set : Int32) {j : Nat} (hj : j < 64) : bl (ap s set) j = if j < 24 then (bl s j && !bt set (j / 4)) else if 30 ≤ j ∧ j < 36 then (bl s j || bt set (j - 30)) else bl s j := by
  obtain ⟨r, h, h2⟩ := st_ap0 s set
  rw [← h2 j hj]
  unfold ap
  rw [h]; rfl
def tautF (s : Int64) : Int32 := (M_X5_taut s).getD 0
theorem st_t0 (s : Int64) : ∃ r, M_X5_taut s = some r ∧ ∀ j, j < 32 → bt r j = (decide (j < 6) && !decide (M_X5_strain s (nI j) = 0)) :=
  pu_lp (fun n k x => ∃ r, M_X5_taut_b4 n s x (nI k) = some r ∧ ∀ j, j < 32 → bt r j = (decide (j < 6) && !decide (M_X5_strain s (nI j) = 0)))
    (fun k x => ∀ j, j < 32 → bt x j = (decide (j < k) && !decide (M_X5_strain s (nI j) = 0))) 6 (by omega)
    (fun n x h => ⟨x, by rw [M_X5_taut_b4, if_pos (by decide)], h⟩)
    (fun n k x hk h ih => by
      rw [M_X5_taut_b4, if_neg (gN 6 hk)]
      simp only [M_X5_taut_b24, nI_1]
      obtain ⟨v, hv, e⟩ := st_sN s (nI k)
      by_cases q : M_X5_strain s (nI k) ≤ 0
      · rw [if_pos q]
        have q0 : M_X5_strain s (nI k) = 0 := by
          rw [e] at q ⊢
          have := (nI_leI (b := 0) (by omega) (by omega)).mp q
          have : v = 0 := by omega
          rw [this]; rfl
        refine ih _ (fun j hj => ?_)
        rw [h j hj]
        by_cases e2 : j = k
        · subst e2; rw [decide_eq_true q0, Bool.not_true, Bool.and_false, Bool.and_false]
        · rw [show decide (j < k) = decide (j < k + 1) from decide_eq_decide.mpr (by omega)]
      · rw [if_neg q]
        have q0 : ¬ M_X5_strain s (nI k) = 0 := fun q2 => q (by rw [q2]; decide)
        refine ih _ (fun j hj => ?_)
        rw [b_or, h j hj, b_sb (by omega) hj]
        by_cases e2 : j = k
        · subst e2; rw [decide_eq_false q0, decide_eq_true (by omega : j < j + 1)]; simp
        · rw [decide_eq_false e2, Bool.or_false, show decide (j < k) = decide (j < k + 1) from decide_eq_decide.mpr (by omega)])
    0 (fun j hj => by rw [b_0]; simp)
theorem st_tE (s : Int64) : M_X5_taut s = some (tautF s) := by
  obtain ⟨r, h, _⟩ := st_t0 s
  unfold tautF
  rw [h]; rfl
theorem st_t (s : Int64) {j : Nat} (hj : j < 32) : bt (tautF s) j = (decide (j < 6) && !decide (M_X5_strain s (nI j) = 0)) := by
  obtain ⟨r, h, h2⟩ := st_t0 s
  rw [← h2 j hj]
  unfold tautF
  rw [h]; rfl
/-! getters behind setters -/
theorem gs_eq {s s' : Int64} {i : Nat} (hi : i < 6) (h : ∀ k, k < 4 → bl s' (4 * i + k) = bl s (4 * i + k)) : M_X5_strain s' (nI i) = M_X5_strain s (nI i) := by
  apply b_ext
  intro k hk
  rw [st_strain s' hi hk, st_strain s hi hk]
  by_cases q : k < 4
  · rw [h k q]
  · rw [decide_eq_false q, Bool.false_and, Bool.false_and]
theorem gs_v {s' : Int64} {i v : Nat} (hi : i < 6) (hv : v < 16) (h : ∀ k, k < 4 → bl s' (4 * i + k) = bt (nI v) k) : M_X5_strain s' (nI i) = nI v := by
  apply b_ext
  intro k hk
  rw [st_strain s' hi hk]
  by_cases q : k < 4
  · rw [h k q, decide_eq_true q, Bool.true_and]
  · rw [decide_eq_false q, Bool.false_and, b_nI v hk]
    have : v < 2 ^ k := Nat.lt_of_lt_of_le hv (Nat.pow_le_pow_right (n := 2) (by decide) (by omega : 4 ≤ k))
    exact (Nat.testBit_lt_two_pow this).symm
theorem gl_eq {s s' : Int64} (h : ∀ k, k < 6 → bl s' (24 + k) = bl s (24 + k)) : M_X5_letGo s' = M_X5_letGo s := by
  apply b_ext
  intro k hk
  rw [st_letGo s' hk, st_letGo s hk]
  by_cases q : k < 6
  · rw [h k q]
  · rw [decide_eq_false q, Bool.false_and, Bool.false_and]
theorem gp_eq {s s' : Int64} (h : ∀ k, k < 6 → bl s' (30 + k) = bl s (30 + k)) : M_X5_parted s' = M_X5_parted s := by
  apply b_ext
  intro k hk
  rw [st_parted s' hk, st_parted s hk]
  by_cases q : k < 6
  · rw [h k q]
  · rw [decide_eq_false q, Bool.false_and, Bool.false_and]
theorem gf_eq {s s' : Int64} (h : bl s' 36 = bl s 36) : M_X5_frostIn s' = M_X5_frostIn s := by
  apply b_ext
  intro k hk
  rw [st_frost s' hk, st_frost s hk, h]
section
variable (s : Int64) {i j : Nat}
theorem as_self (hi : i < 6) {v : Nat} (hv : v < 16) : M_X5_strain (M_X5_afterStrain s (nI i) (nI v)) (nI i) = nI v :=
  gs_v hi hv (fun k hk => by rw [st_as s _ hi (by omega), if_pos (by omega)]; congr 1; omega)
theorem as_other (hi : i < 6) (hj : j < 6) (h : j ≠ i) (v : Int32) : M_X5_strain (M_X5_afterStrain s (nI i) v) (nI j) = M_X5_strain s (nI j) :=
  gs_eq hj (fun k hk => by rw [st_as s _ hi (by omega), if_neg (by omega)])
theorem as_letGo (hi : i < 6) (v : Int32) : M_X5_letGo (M_X5_afterStrain s (nI i) v) = M_X5_letGo s :=
  gl_eq (fun k hk => by rw [st_as s _ hi (by omega), if_neg (by omega)])
theorem as_parted (hi : i < 6) (v : Int32) : M_X5_parted (M_X5_afterStrain s (nI i) v) = M_X5_parted s :=
  gp_eq (fun k hk => by rw [st_as s _ hi (by omega), if_neg (by omega)])
theorem as_frost (hi : i < 6) (v : Int32) : M_X5_frostIn (M_X5_afterStrain s (nI i) v) = M_X5_frostIn s :=
  gf_eq (by rw [st_as s _ hi (by omega), if_neg (by omega)])
theorem lg_self (hi : i < 6) : M_X5_strain (M_X5_afterLetGo s (nI i)) (nI i) = 0 :=
  gs_v (v := 0) hi (by omega) (fun k hk => by rw [st_lg s hi (by omega), if_neg (by omega), if_pos (by omega)]; exact (b_0 k).symm)
theorem lg_other (hi : i < 6) (hj : j < 6) (h : j ≠ i) : M_X5_strain (M_X5_afterLetGo s (nI i)) (nI j) = M_X5_strain s (nI j) :=
  gs_eq hj (fun k hk => by rw [st_lg s hi (by omega), if_neg (by omega), if_neg (by omega)])
theorem lg_letGo (hi : i < 6) : M_X5_letGo (M_X5_afterLetGo s (nI i)) = M_X5_letGo s ||| ((1 : Int32) <<< (nI i &&& 31)) := by
  apply b_ext
  intro k hk
  rw [b_or, b_sb (by omega) hk, st_letGo _ hk, st_letGo s hk]
  by_cases q : k < 6
  · rw [st_lg s hi (by omega)]
    by_cases e : k = i
    · subst e; simp [q]
    · rw [if_neg (by omega), if_neg (by omega), decide_eq_false e, Bool.or_false]
  · rw [decide_eq_false q, decide_eq_false (by omega : ¬ k = i)]; rfl
theorem lg_parted (hi : i < 6) : M_X5_parted (M_X5_afterLetGo s (nI i)) = M_X5_parted s :=
  gp_eq (fun k hk => by rw [st_lg s hi (by omega), if_neg (by omega), if_neg (by omega)])
theorem lg_frost (hi : i < 6) : M_X5_frostIn (M_X5_afterLetGo s (nI i)) = M_X5_frostIn s :=
  gf_eq (by rw [st_lg s hi (by omega), if_neg (by omega), if_neg (by omega)])
theorem mo_strain (hi : i < 6) (hj : j < 6) : M_X5_strain (M_X5_afterMadeOff s (nI i)) (nI j) = M_X5_strain s (nI j) :=
  gs_eq hj (fun k hk => by rw [st_mo s hi (by omega), if_neg (by omega)])
theorem mo_letGo (hi : i < 6) : M_X5_letGo (M_X5_afterMadeOff s (nI i)) = M_X5_letGo s &&& (((1 : Int32) <<< (nI i &&& 31)) ^^^ (-1)) := by
  apply b_ext
  intro k hk
  rw [b_and, b_not _ hk, b_sb (by omega) hk, st_letGo _ hk, st_letGo s hk]
  by_cases q : k < 6
  · rw [st_mo s hi (by omega)]
    by_cases e : k = i
    · subst e; simp
    · rw [if_neg (by omega), decide_eq_false e, Bool.not_false, Bool.and_true]
  · rw [decide_eq_false q, Bool.false_and, Bool.false_and, Bool.false_and]
theorem mo_parted (hi : i < 6) : M_X5_parted (M_X5_afterMadeOff s (nI i)) = M_X5_parted s :=
  gp_eq (fun k hk => by rw [st_mo s hi (by omega), if_neg (by omega)])
theorem mo_frost (hi : i < 6) : M_X5_frostIn (M_X5_afterMadeOff s (nI i)) = M_X5_frostIn s :=
  gf_eq (by rw [st_mo s hi (by omega), if_neg (by omega)])
theorem sp_self (hi : i < 6) : M_X5_strain (M_X5_afterSpliced s (nI i)) (nI i) = 0 :=
  gs_v (v := 0) hi (by omega) (fun k hk => by rw [st_sp s hi (by omega), if_neg (by omega), if_pos (by omega)]; exact (b_0 k).symm)
theorem sp_other (hi : i < 6) (hj : j < 6) (h : j ≠ i) : M_X5_strain (M_X5_afterSpliced s (nI i)) (nI j) = M_X5_strain s (nI j) :=
  gs_eq hj (fun k hk => by rw [st_sp s hi (by omega), if_neg (by omega), if_neg (by omega)])
theorem sp_letGo (hi : i < 6) : M_X5_letGo (M_X5_afterSpliced s (nI i)) = M_X5_letGo s &&& (((1 : Int32) <<< (nI i &&& 31)) ^^^ (-1)) := by
  apply b_ext
  intro k hk
  rw [b_and, b_not _ hk, b_sb (by omega) hk, st_letGo _ hk, st_letGo s hk]
  by_cases q : k < 6
  · rw [st_sp s hi (by omega)]
    by_cases e : k = i
    · subst e; simp
    · rw [if_neg (by omega), if_neg (by omega), decide_eq_false e, Bool.not_false, Bool.and_true]
  · rw [decide_eq_false q, Bool.false_and, Bool.false_and, Bool.false_and]
theorem sp_parted (hi : i < 6) : M_X5_parted (M_X5_afterSpliced s (nI i)) = M_X5_parted s &&& (((1 : Int32) <<< (nI i &&& 31)) ^^^ (-1)) := by
  apply b_ext
  intro k hk
  rw [b_and, b_not _ hk, b_sb (by omega) hk, st_parted _ hk, st_parted s hk]
  by_cases q : k < 6
  · rw [st_sp s hi (by omega)]
    by_cases e : k = i
    · subst e; simp
    · rw [if_neg (by omega), if_neg (by omega), decide_eq_false e, Bool.not_false, Bool.and_true]
  · rw [decide_eq_false q, Bool.false_and, Bool.false_and, Bool.false_and]
theorem sp_frost (hi : i < 6) : M_X5_frostIn (M_X5_afterSpliced s (nI i)) = M_X5_frostIn s :=
  gf_eq (by rw [st_sp s hi (by omega), if_neg (by omega), if_neg (by omega)])
theorem af_strain (hj : j < 6) (v : Int32) : M_X5_strain (M_X5_afterFrost s v) (nI j) = M_X5_strain s (nI j) :=
  gs_eq hj (fun k hk => by rw [st_af s v (by omega), if_neg (by omega)])
theorem af_letGo (v : Int32) : M_X5_letGo (M_X5_afterFrost s v) = M_X5_letGo s :=
  gl_eq (fun k hk => by rw [st_af s v (by omega), if_neg (by omega)])
theorem af_parted (v : Int32) : M_X5_parted (M_X5_afterFrost s v) = M_X5_parted s :=
  gp_eq (fun k hk => by rw [st_af s v (by omega), if_neg (by omega)])
theorem af_frost {v : Nat} (hv : v < 2) : M_X5_frostIn (M_X5_afterFrost s (nI v)) = nI v := by
  apply b_ext
  intro k hk
  rw [st_frost _ hk, st_af s _ (by omega), if_pos rfl, b_nI v hk, b_nI v (by omega)]
  rcases Nat.eq_zero_or_pos k with q | q
  · subst q; rfl
  · rw [decide_eq_false (by omega : ¬ k = 0), Bool.false_and]
    have : v < 2 ^ k := Nat.lt_of_lt_of_le hv (Nat.pow_le_pow_right (n := 2) (by decide) (by omega : 1 ≤ k))
    exact (Nat.testBit_lt_two_pow this).symm
theorem ap_strain (set : Int32) (hj : j < 6) : M_X5_strain (ap s set) (nI j) = if bt set j then 0 else M_X5_strain s (nI j) := by
  have e : ∀ k, k < 4 → (4 * j + k) / 4 = j := fun k hk => by omega
  cases h : bt set j
  · exact gs_eq hj (fun k hk => by rw [st_ap s set (by omega), if_pos (by omega), e k hk, h, Bool.not_false, Bool.and_true])
  · exact gs_v (v := 0) hj (by omega) (fun k hk => by rw [st_ap s set (by omega), if_pos (by omega), e k hk, h, Bool.not_true, Bool.and_false]; exact (b_0 k).symm)
theorem ap_letGo (set : Int32) : M_X5_letGo (ap s set) = M_X5_letGo s :=
  gl_eq (fun k hk => by rw [st_ap s set (by omega), if_neg (by omega), if_neg (by omega)])
theorem ap_parted {set : Int32} (h : ∀ k, 6 ≤ k → k < 32 → bt set k = false) : M_X5_parted (ap s set) = M_X5_parted s ||| set := by
  apply b_ext
  intro k hk
  rw [b_or, st_parted _ hk, st_parted s hk]
  by_cases q : k < 6
  · rw [st_ap s set (by omega), if_neg (by omega), if_pos (by omega), decide_eq_true q, Bool.true_and, Bool.true_and]
    congr 2; omega
  · rw [decide_eq_false q, h k (by omega) hk]; rfl
theorem ap_frost (set : Int32) : M_X5_frostIn (ap s set) = M_X5_frostIn s :=
  gf_eq (by rw [st_ap s set (by omega), if_neg (by omega), if_neg (by omega)])
theorem ap_taut (set : Int32) : tautF (ap s set) = tautF s &&& (set ^^^ (-1)) := by
  apply b_ext
  intro k hk
  rw [b_and, b_not _ hk, st_t _ hk, st_t s hk]
  by_cases q : k < 6
  · rw [ap_strain s set q]
    cases bt set k <;> simp
  · rw [decide_eq_false q, Bool.false_and, Bool.false_and, Bool.false_and]
end
