/-! PURE PART: deeds on both sides -/
def hS (R : Nat) (kinds strengths moved : Nat → Int32) (s : Int64) (i v : Nat) : Int64 := ((M_X2_hauled (nI R) kinds strengths moved 0 s (nI i) (nI v)).getD (0, 0)).1
def hC (R : Nat) (kinds strengths moved : Nat → Int32) (s : Int64) (i v : Nat) : Int32 := ((M_X2_hauled (nI R) kinds strengths moved 0 s (nI i) (nI v)).getD (0, 0)).2
theorem dm {a b : Nat} (ha : a < 2 ^ 31) (h : a % 10 = b) : nI a - nI a / (10 : Int32) * (10 : Int32) = nI b := by
  rw [← h]; exact pk_rem (d := 10) ha (by omega) (by omega)
theorem dq {a b : Nat} (ha : a < 2 ^ 31) (h : a / 10 = b) : nI a / (10 : Int32) = nI b := by
  rw [← h]; exact pk_div (d := 10) ha (by omega) (by omega)
theorem cd_lg {R : Nat} {s : Int64} {m : Nat → Int32} (hR : R ≤ 6) (h : pu_CD R s m) {i : Nat} (hi : i < R) : pu_CD R (M_X5_afterLetGo s (nI i)) (upd (upd m 82 (m 82 ||| ((1 : Int32) <<< (nI i &&& (31 : Int32))))) (76 + i) 0) := by
  obtain ⟨h1, h2, h3, h4, h5⟩ := h
  refine ⟨fun j hj => ?_, fun j h6 h7 => ?_, ?_, ?_, ?_⟩
  · by_cases e : j = i
    · subst e; rw [pu_us, lg_self s (by omega)]
    · rw [pu_un (by omega), pu_un (by omega), lg_other s (by omega) (by omega) e, h1 j hj]
  · rw [lg_other s (by omega) (by omega) (by omega), h2 j h6 h7]
  · rw [pu_un (by omega), pu_us, lg_letGo s (by omega), h3]
  · rw [pu_un (by omega), pu_un (by omega), lg_parted s (by omega), h4]
  · rw [pu_un (by omega), pu_un (by omega), lg_frost s (by omega), h5]
theorem cd_mo {R : Nat} {s : Int64} {m : Nat → Int32} (hR : R ≤ 6) (h : pu_CD R s m) {i : Nat} (hi : i < R) : pu_CD R (M_X5_afterMadeOff s (nI i)) (upd m 82 (m 82 &&& (((1 : Int32) <<< (nI i &&& (31 : Int32))) ^^^ (-1 : Int32)))) := by
  obtain ⟨h1, h2, h3, h4, h5⟩ := h
  refine ⟨fun j hj => ?_, fun j h6 h7 => ?_, ?_, ?_, ?_⟩
  · rw [pu_un (by omega), mo_strain s (by omega) (by omega), h1 j hj]
  · rw [mo_strain s (by omega) (by omega), h2 j h6 h7]
  · rw [pu_us, mo_letGo s (by omega), h3]
  · rw [pu_un (by omega), mo_parted s (by omega), h4]
  · rw [pu_un (by omega), mo_frost s (by omega), h5]
theorem cd_sp {R : Nat} {s : Int64} {m : Nat → Int32} (hR : R ≤ 6) (h : pu_CD R s m) {i : Nat} (hi : i < R) : pu_CD R (M_X5_afterSpliced s (nI i)) (upd (upd (upd m 83 (m 83 &&& (((1 : Int32) <<< (nI i &&& (31 : Int32))) ^^^ (-1 : Int32)))) 82 (m 82 &&& (((1 : Int32) <<< (nI i &&& (31 : Int32))) ^^^ (-1 : Int32)))) (76 + i) 0) := by
  obtain ⟨h1, h2, h3, h4, h5⟩ := h
  refine ⟨fun j hj => ?_, fun j h6 h7 => ?_, ?_, ?_, ?_⟩
  · by_cases e : j = i
    · subst e; rw [pu_us, sp_self s (by omega)]
    · rw [pu_un (by omega), pu_un (by omega), pu_un (by omega), sp_other s (by omega) (by omega) e, h1 j hj]
  · rw [sp_other s (by omega) (by omega) (by omega), h2 j h6 h7]
  · rw [pu_un (by omega), pu_us, sp_letGo s (by omega), h3]
  · rw [pu_un (by omega), pu_un (by omega), pu_us, sp_parted s (by omega), h4]
  · rw [pu_un (by omega), pu_un (by omega), pu_un (by omega), sp_frost s (by omega), h5]
theorem cd_af {R : Nat} {s : Int64} {m : Nat → Int32} (hR : R ≤ 6) (h : pu_CD R s m) {v : Nat} (hv : v < 2) : pu_CD R (M_X5_afterFrost s (nI v)) (upd m 84 (nI v)) := by
  obtain ⟨h1, h2, h3, h4, h5⟩ := h
  refine ⟨fun j hj => ?_, fun j h6 h7 => ?_, ?_, ?_, ?_⟩
  · rw [pu_un (by omega), af_strain s (by omega), h1 j hj]
  · rw [af_strain s (by omega), h2 j h6 h7]
  · rw [pu_un (by omega), af_letGo s, h3]
  · rw [pu_un (by omega), af_parted s, h4]
  · rw [pu_us, af_frost s hv]
section
variable {R A : Nat} {kinds strengths moved needs forbids m : Nat → Int32}
theorem hl_H (hRS : pu_RS R A kinds strengths moved needs forbids m) {s : Int64} (hC' : pu_CD R s m) {i v : Nat} (hi : i < R) (hb1 : bl s (24 + i) = false) (hb2 : bl s (30 + i) = false) (hv0 : 0 < v) (hv : v < 50) :
    (∀ rch, M_X2_hauled (nI R) kinds strengths moved rch s (nI i) (nI v) = some (hS R kinds strengths moved s i v, hC R kinds strengths moved s i v)) ∧
    ∃ m' pb', (∀ pb, M_X7_goHaul_hand m pb (nI i) (nI v) = some (hC R kinds strengths moved s i v, m', pb')) ∧ pu_CD R (hS R kinds strengths moved s i v) m' ∧ (∀ j, j < 76 → m' j = m j) ∧ pu_Ev R s (hS R kinds strengths moved s i v) (-9) pb' := by
  obtain ⟨s', came', m', pb', r1, r2, r3⟩ := hl_hand hRS hC' hi hb1 hb2 hv0 hv
  have e1 : hS R kinds strengths moved s i v = s' := by unfold hS; rw [r1]; rfl
  have e2 : hC R kinds strengths moved s i v = came' := by unfold hC; rw [r1]; rfl
  rw [e1, e2]
  exact ⟨r1, m', pb', r2, r3⟩
end
