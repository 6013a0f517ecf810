/-! PURE PART: taut ropes, lawful acts, counts of bits -/
theorem bc_eq : ∀ k, k < 64 → M_X7_bits (nI k) = some (M_J6_bitCount_0f7a4 (nI k)) ∧ M_J6_bitCount_0f7a4 (nI k) = nI (pc (nI k)) := by decide +kernel
theorem all_b : ∀ R, R < 7 → ∀ j, j < 32 → bt (((1 : Int32) <<< (nI R &&& 31)) - 1) j = decide (j < R) := by decide +kernel
theorem ntz_b : ∀ j, j < 6 → M_J6_numberOfTrailingZeros_0f7a4 ((1 : Int32) <<< (nI j &&& 31)) = nI j ∧ ¬ ((1 : Int32) <<< (nI j &&& 31)) = 0 := by decide +kernel
theorem bx_0 {x : Int32} : x = 0 ↔ ∀ j, j < 32 → bt x j = false := ⟨fun h j _ => by rw [h, b_0], fun h => b_ext (fun j hj => by rw [h j hj, b_0])⟩
theorem fp_eq {R : Nat} (hR : R ≤ 6) {s s' : Int64} {pb' : Int32} (h : pu_Ev R s s' (-9) pb') : M_X6_firstParted s s' = pb' := by
  unfold M_X6_firstParted
  rcases h.2.2.1 with ⟨h1, h2⟩ | ⟨j, hj, hb, h2, h1⟩
  · rw [h1, h2, if_pos]
    rw [bx_0]
    intro j hj
    rw [b_and, b_not _ hj, Bool.and_not_self]
  · have e : (M_X5_parted s ||| ((1 : Int32) <<< (nI j &&& 31))) &&& (M_X5_parted s ^^^ (-1)) = ((1 : Int32) <<< (nI j &&& 31)) := by
      apply b_ext
      intro k hk
      rw [b_and, b_or, b_not _ hk, b_sb (by omega) hk, st_parted s hk]
      by_cases q : k = j
      · subst q; rw [hb]; simp
      · rw [decide_eq_false q, Bool.or_false, Bool.and_not_self]
    rw [h1, e, if_neg (ntz_b j (by omega)).2, (ntz_b j (by omega)).1, h2]
theorem fp_ne {R : Nat} (hR : R ≤ 6) {s s' : Int64} {pb' : Int32} (h : pu_Ev R s s' (-9) pb') : pb' = -9 ↔ M_X5_parted s' = M_X5_parted s := by
  rcases h.2.2.1 with ⟨h1, h2⟩ | ⟨j, hj, hb, h2, h1⟩
  · exact ⟨fun _ => h1, fun _ => h2⟩
  · refine ⟨fun q => absurd (h2.symm.trans q) (pu_nI9 (by omega)), fun q => ?_⟩
    exfalso
    rw [q] at h1
    have h3 := b_or (M_X5_parted s) ((1 : Int32) <<< (nI j &&& 31)) j
    rw [← h1, st_parted s (by omega), hb, b_sb (by omega) (by omega)] at h3
    simp at h3
section
variable {R A : Nat} {kinds strengths moved needs forbids m : Nat → Int32}
theorem tt_eq (hRS : pu_RS R A kinds strengths moved needs forbids m) {s : Int64} (hC' : pu_CD R s m) : M_X7_taut_85 m = some (tautF s) := by
  have hR := hRS.1
  have e0 := hRS.2.2.1
  exact pu_lp (fun n k x => M_X7_taut_85_b4 m n x (nI k) = some (tautF s))
    (fun k x => ∀ j, j < 32 → bt x j = (decide (j < k) && !decide (M_X5_strain s (nI j) = 0))) R (by omega)
    (fun n x h => by
      rw [M_X7_taut_85_b4, e0, if_pos (pu_le (by omega) (by omega) (Nat.le_refl R))]
      congr 1
      apply b_ext
      intro j hj
      rw [h j hj, st_t s hj]
      by_cases q : j < R
      · rw [decide_eq_true q, decide_eq_true (by omega : j < 6)]
      · rw [decide_eq_false q, Bool.false_and]
        by_cases q2 : j < 6
        · rw [hC'.2.1 j (by omega) q2]; simp
        · rw [decide_eq_false q2, Bool.false_and])
    (fun n k x hk h ih => by
      rw [M_X7_taut_85_b4, e0, if_neg (nI_ge hk (by omega)), if_pos (iO 76 (by omega)), cO 76 (by omega), hC'.1 k hk]
      simp only [M_X7_taut_85_b28, nI_1]
      obtain ⟨v, hv, e⟩ := st_sN s (nI k)
      by_cases q : M_X5_strain s (nI k) ≤ 0
      · rw [if_pos q]
        have q0 : M_X5_strain s (nI k) = 0 := by
          rw [e] at q ⊢
          have := (nI_leI (b := 0) (by omega) (by omega)).mp q
          have : v = 0 := by omega
          rw [this]; rfl
        refine ih _ (fun j hj => ?_)
        rw [b_or, b_0, Bool.or_false, h j hj]
        by_cases e2 : j = k
        · subst e2; rw [decide_eq_true q0, Bool.not_true, Bool.and_false, Bool.and_false]
        · rw [show decide (j < k) = decide (j < k + 1) from decide_eq_decide.mpr (by omega)]
      · rw [if_neg q]
        have q0 : ¬ M_X5_strain s (nI k) = 0 := fun q2 => q (by rw [q2]; decide)
        refine ih _ (fun j hj => ?_)
        rw [b_or, h j hj, b_sb (by omega) hj]
        by_cases e2 : j = k
        · subst e2; rw [decide_eq_false q0, decide_eq_true (by omega : j < j + 1)]; simp
        · rw [decide_eq_false e2, Bool.or_false, show decide (j < k) = decide (j < k + 1) from decide_eq_decide.mpr (by omega)])
    0 (fun j hj => by rw [b_0]; simp)
theorem tt_all (hRS : pu_RS R A kinds strengths moved needs forbids m) {s : Int64} (hC' : pu_CD R s m) {j : Nat} (hj : j < 32) (h : R ≤ j) : bt (tautF s) j = false := by
  rw [st_t s hj]
  by_cases q2 : j < 6
  · rw [hC'.2.1 j h q2]; simp
  · rw [decide_eq_false q2, Bool.false_and]
/-- whether an act is lawful by the taut ropes -/
def law1 (R : Nat) (needs forbids : Nat → Int32) (t : Int32) (a : Nat) : Bool := decide (∀ j, j < R → (bt (needs a) j = true → bt t j = true) ∧ (bt (forbids a) j = true → bt t j = false))
theorem law1_n (hR : R ≤ 6) {t : Int32} (a : Nat) : ((needs a &&& M_X2_allRopes (nI R)) &&& (t ^^^ (-1)) = 0 ∧ (forbids a &&& M_X2_allRopes (nI R)) &&& t = 0) ↔ law1 R needs forbids t a = true := by
  unfold law1 M_X2_allRopes
  rw [decide_eq_true_eq, bx_0, bx_0]
  constructor
  · rintro ⟨h1, h2⟩ j hj
    have a1 := h1 j (by omega)
    have a2 := h2 j (by omega)
    rw [b_and, b_and, all_b R (by omega) j (by omega), decide_eq_true hj, Bool.and_true] at a1 a2
    rw [b_not _ (by omega)] at a1
    constructor
    · intro q; rw [q] at a1; cases q2 : bt t j <;> rw [q2] at a1 <;> simp at a1 ⊢
    · intro q; rw [q] at a2; simpa using a2
  · intro h
    constructor
    · intro j hj
      rw [b_and, b_and, all_b R (by omega) j hj, b_not _ hj]
      by_cases q : j < R
      · cases q2 : bt (needs a) j
        · simp
        · rw [(h j q).1 q2]; simp
      · rw [decide_eq_false q]; simp
    · intro j hj
      rw [b_and, b_and, all_b R (by omega) j hj]
      by_cases q : j < R
      · cases q2 : bt (forbids a) j
        · simp
        · rw [(h j q).2 q2]; simp
      · rw [decide_eq_false q]; simp
theorem rs_needed (hA : A ≤ 4) {a : Nat} (ha : a < A) : M_X2_needed (nI R) (nI A) needs (nI a) = some (needs a &&& M_X2_allRopes (nI R)) := by
  unfold M_X2_needed M_X2_isAct
  rw [if_neg (nI_pos (by omega)), if_neg (nI_ge ha (by omega)), if_neg (gN 4 (by omega)), if_neg (by decide), if_pos (pu_inb (by omega) (by omega)), nI_clamp (by omega)]
theorem rs_forbidden (hA : A ≤ 4) {a : Nat} (ha : a < A) : M_X2_forbidden (nI R) (nI A) forbids (nI a) = some (forbids a &&& M_X2_allRopes (nI R)) := by
  unfold M_X2_forbidden M_X2_isAct
  rw [if_neg (nI_pos (by omega)), if_neg (nI_ge ha (by omega)), if_neg (gN 4 (by omega)), if_neg (by decide), if_pos (pu_inb (by omega) (by omega)), nI_clamp (by omega)]
theorem rs_isLawful (hRS : pu_RS R A kinds strengths moved needs forbids m) {a : Nat} (ha : a < A) {t : Int32} (ht : ∀ j, j < 32 → R ≤ j → bt t j = false) : M_X7_isLawful_85 m (nI a) t = some (if law1 R needs forbids t a then 1 else 0) := by
  obtain ⟨h1, h2, h3, h4, h5, h6⟩ := hRS
  obtain ⟨e1, e2, -, -⟩ := h6 a ha
  unfold M_X7_isLawful_85 M_X7_isLawful_85_b18
  rw [if_pos (iO 27 (by omega)), cO 27 (by omega), e1, h3, if_pos (iO 31 (by omega)), cO 31 (by omega), e2]
  have ef : (forbids a &&& M_X2_allRopes (nI R)) &&& t = forbids a &&& t := by
    unfold M_X2_allRopes
    apply b_ext
    intro j hj
    rw [b_and, b_and, b_and, all_b R (by omega) j hj]
    by_cases q : j < R
    · rw [decide_eq_true q, Bool.and_true]
    · rw [ht j hj (by omega)]; simp
  have := law1_n (needs := needs) (forbids := forbids) h1 (t := t) a
  rw [ef] at this
  unfold M_X2_allRopes at this
  by_cases q : law1 R needs forbids t a = true
  · rw [if_pos q, if_pos (this.mpr q).1, if_pos (this.mpr q).2]
  · rw [if_neg q]
    by_cases q1 : (needs a &&& (((1 : Int32) <<< (nI R &&& (31 : Int32))) - (1 : Int32))) &&& (t ^^^ (-1 : Int32)) = 0
    · rw [if_pos q1, if_neg (fun q2 => q (this.mp ⟨q1, q2⟩))]
    · rw [if_neg q1]
def lawF (R A : Nat) (needs forbids : Nat → Int32) (t : Int32) : Int32 := (M_X2_lawfulActs_b11 (nI R) (nI A) needs forbids x_fuel t 0 0).getD 0
theorem lw_0 (hRS : pu_RS R A kinds strengths moved needs forbids m) {t : Int32} (ht : ∀ j, j < 32 → R ≤ j → bt t j = false) :
    ∃ r, M_X2_lawfulActs_b11 (nI R) (nI A) needs forbids x_fuel t 0 0 = some r ∧ M_X7_lawfulBy_85 m t = some r ∧ ∀ j, j < 32 → bt r j = (decide (j < A) && law1 R needs forbids t j) := by
  have h2 := hRS.2.1
  have e1 := hRS.2.2.2.1
  exact pu_lp (fun n k x => ∃ r, M_X2_lawfulActs_b11 (nI R) (nI A) needs forbids n t x (nI k) = some r ∧ M_X7_lawfulBy_85_b4 m n t x (nI k) = some r ∧ ∀ j, j < 32 → bt r j = (decide (j < A) && law1 R needs forbids t j))
    (fun k x => ∀ j, j < 32 → bt x j = (decide (j < k) && law1 R needs forbids t j)) A (by omega)
    (fun n x h => ⟨x, by rw [M_X2_lawfulActs_b11, if_pos (pu_le (by omega) (by omega) (Nat.le_refl A))], by rw [M_X7_lawfulBy_85_b4, e1, if_pos (pu_le (by omega) (by omega) (Nat.le_refl A))], h⟩)
    (fun n k x hk h ih => by
      rw [M_X2_lawfulActs_b11, M_X7_lawfulBy_85_b4, e1, if_neg (nI_ge hk (by omega)), if_neg (nI_ge hk (by omega)), rs_needed h2 hk, Option.bind_some, rs_forbidden h2 hk, Option.bind_some, rs_isLawful hRS hk ht, Option.bind_some]
      simp only [M_X2_lawfulActs_b53, M_X7_lawfulBy_85_b28, nI_1]
      have := law1_n (needs := needs) (forbids := forbids) hRS.1 (t := t) k
      by_cases q : law1 R needs forbids t k = true
      · rw [if_pos (this.mpr q).1, if_pos (this.mpr q).2, if_pos q, if_neg (show ¬ (1 : Int32) = 0 by decide)]
        refine ih _ (fun j hj => ?_)
        rw [b_or, h j hj, b_sb (by omega) hj]
        by_cases e2 : j = k
        · subst e2; rw [q, decide_eq_true (by omega : j < j + 1)]; simp
        · rw [decide_eq_false e2, Bool.or_false, show decide (j < k) = decide (j < k + 1) from decide_eq_decide.mpr (by omega)]
      · have qf : law1 R needs forbids t k = false := by
          cases q3 : law1 R needs forbids t k
          · rfl
          · exact absurd q3 q
        have e0 : (x ||| 0 : Int32) = x := b_ext (fun j hj => by rw [b_or, b_0, Bool.or_false])
        rw [if_neg q, if_pos (show (0 : Int32) = 0 from rfl), e0]
        have goal := ih x (fun j hj => by
          rw [h j hj]
          by_cases e2 : j = k
          · subst e2; rw [qf, Bool.and_false, Bool.and_false]
          · rw [show decide (j < k) = decide (j < k + 1) from decide_eq_decide.mpr (by omega)])
        by_cases q1 : (needs k &&& M_X2_allRopes (nI R)) &&& (t ^^^ (-1 : Int32)) = 0
        · rw [if_pos q1, if_neg (fun q2 => q (this.mp ⟨q1, q2⟩))]; exact goal
        · rw [if_neg q1]; exact goal)
    0 (fun j hj => by rw [b_0]; simp)
theorem lw_C (hRS : pu_RS R A kinds strengths moved needs forbids m) {t : Int32} (ht : ∀ j, j < 32 → R ≤ j → bt t j = false) :
    M_X2_lawfulActs_b11 (nI R) (nI A) needs forbids x_fuel t 0 0 = some (lawF R A needs forbids t) ∧ M_X7_lawfulBy_85 m t = some (lawF R A needs forbids t) ∧ (∀ j, j < 32 → bt (lawF R A needs forbids t) j = (decide (j < A) && law1 R needs forbids t j)) ∧ ∃ v, v < 64 ∧ lawF R A needs forbids t = nI v := by
  obtain ⟨r, h1, h2, h3⟩ := lw_0 hRS ht
  have e : lawF R A needs forbids t = r := by unfold lawF; rw [h1]; rfl
  rw [e]
  have hA := hRS.2.1
  exact ⟨h1, h2, h3, b_s64 (fun j h6 h7 => by rw [h3 j h7, decide_eq_false (by omega), Bool.false_and])⟩
theorem lw_A (hRS : pu_RS R A kinds strengths moved needs forbids m) {s : Int64} (hC' : pu_CD R s m) : M_X2_lawfulActs (nI R) (nI A) needs forbids s = some (lawF R A needs forbids (tautF s)) := by
  unfold M_X2_lawfulActs
  rw [st_tE, Option.bind_some]
  exact (lw_C hRS (fun j hj h => tt_all hRS hC' hj h)).1
theorem lw_cut (hRS : pu_RS R A kinds strengths moved needs forbids m) {s : Int64} (hC' : pu_CD R s m) (set : Int32) :
    M_X2_lawfulActs (nI R) (nI A) needs forbids (ap s set) = some (lawF R A needs forbids (tautF s &&& (set ^^^ (-1)))) ∧ M_X7_lawfulBy_85 m (tautF s &&& (set ^^^ (-1))) = some (lawF R A needs forbids (tautF s &&& (set ^^^ (-1)))) ∧ ∃ v, v < 64 ∧ lawF R A needs forbids (tautF s &&& (set ^^^ (-1))) = nI v := by
  have ht : ∀ j, j < 32 → R ≤ j → bt (tautF s &&& (set ^^^ (-1))) j = false := fun j hj h => by rw [b_and, tt_all hRS hC' hj h, Bool.false_and]
  refine ⟨?_, (lw_C hRS ht).2.1, (lw_C hRS ht).2.2.2⟩
  unfold M_X2_lawfulActs
  rw [st_tE, Option.bind_some, ap_taut]
  exact (lw_C hRS ht).1
end
