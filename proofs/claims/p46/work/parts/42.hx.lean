/-! PURE PART: what a haul does, at the class alone -/
def sv (s : Int64) (j : Nat) : Nat := (M_X5_strain s (nI j)).toNatClampNeg
theorem sv_lt (s : Int64) (j : Nat) : sv s j < 16 := by
  obtain ⟨n, hn, e⟩ := st_sN s (nI j)
  unfold sv; rw [e, nI_clamp (by omega)]; exact hn
theorem sv_e (s : Int64) (j : Nat) : M_X5_strain s (nI j) = nI (sv s j) := by
  obtain ⟨n, hn, e⟩ := st_sN s (nI j)
  unfold sv; rw [e, nI_clamp (by omega)]
theorem sv_of {s : Int64} {j n : Nat} (hn : n < 2 ^ 31) (h : M_X5_strain s (nI j) = nI n) : sv s j = n := by
  unfold sv; rw [h, nI_clamp hn]
theorem sv_eq {s s' : Int64} {j : Nat} (h : M_X5_strain s' (nI j) = M_X5_strain s (nI j)) : sv s' j = sv s j := by unfold sv; rw [h]
theorem sv_0 {s : Int64} {j : Nat} : sv s j = 0 ↔ M_X5_strain s (nI j) = 0 := by
  have := sv_lt s j
  rw [sv_e]
  constructor
  · intro h; rw [h]; rfl
  · intro h; exact (nI_eq (b := 0) (by omega) (by omega)).mp h
def hd (R : Nat) (kinds strengths : Nat → Int32) (i : Nat) : Nat := ((M_X2_holds (nI R) kinds strengths (nI i)).getD 0).toNatClampNeg
def hx (R : Nat) (kinds strengths : Nat → Int32) (s : Int64) (came : Int32) (s' : Int64) (came' : Int32) : Prop :=
  M_X5_letGo s' = M_X5_letGo s ∧ M_X5_frostIn s' = M_X5_frostIn s ∧
  (∀ j, j < 32 → bt came j = true → bt came' j = true) ∧
  (∀ j, j < 32 → bt came j = false → bt came' j = true → j < R ∧ bl s (24 + j) = false ∧ bl s (30 + j) = false) ∧
  (∀ j, j < 6 → (bt came j = true ∨ bt came' j = false) → sv s' j = sv s j) ∧
  (∀ j, j < R → sv s' j = sv s j ∨ sv s' j ≤ hd R kinds strengths j) ∧
  ((M_X5_parted s' = M_X5_parted s ∧ ∀ j, j < 6 → bt came j = false → bt came' j = true → sv s j < sv s' j) ∨
   (∃ w, w < R ∧ bt came w = false ∧ bt came' w = true ∧ bl s (30 + w) = false ∧ M_X5_parted s' = M_X5_parted s ||| ((1 : Int32) <<< (nI w &&& 31)) ∧ sv s' w = 0 ∧ ∀ j, j < 6 → j ≠ w → bt came j = false → bt came' j = true → sv s j < sv s' j))
theorem bt_f {x y : Int32} {j : Nat} (h : bt x j = true → bt y j = true) (hy : bt y j = false) : bt x j = false := by
  cases hx : bt x j
  · rfl
  · rw [h hx] at hy; exact hy
section
variable {R A : Nat} {kinds strengths moved needs forbids m : Nat → Int32}
theorem hd_e (hRS : pu_RS R A kinds strengths moved needs forbids m) {i : Nat} (hi : i < R) : M_X2_holds (nI R) kinds strengths (nI i) = some (nI (hd R kinds strengths i)) ∧ hd R kinds strengths i < 10 := by
  obtain ⟨v, hv, e, -⟩ := rs_holds hRS hi
  unfold hd
  rw [e]
  show some (nI v) = some (nI (nI v).toNatClampNeg) ∧ (nI v).toNatClampNeg < 10
  rw [nI_clamp (by omega)]
  exact ⟨rfl, hv⟩
theorem hx_trans {s s1 s2 : Int64} {c c1 c2 : Int32} (h1 : hx R kinds strengths s c s1 c1) (hp : M_X5_parted s1 = M_X5_parted s) (hn : ∀ j, j < 6 → bt c j = false → bt c1 j = true → sv s j < sv s1 j) (hR : R ≤ 6) (h2 : hx R kinds strengths s1 c1 s2 c2) : hx R kinds strengths s c s2 c2 := by
  obtain ⟨a1, a2, a3, a4, a5, a6, -⟩ := h1
  obtain ⟨b1, b2, b3, b4, b5, b6, b7⟩ := h2
  have key : ∀ j, j < 6 → bt c j = false → bt c2 j = true → (bt c1 j = false → sv s1 j < sv s2 j) → sv s j < sv s2 j := fun j hj hc hc2 hq => by
    cases hc1 : bt c1 j
    · rw [← a5 j hj (.inr hc1)]; exact hq hc1
    · rw [b5 j hj (.inl hc1)]; exact hn j hj hc hc1
  refine ⟨b1.trans a1, b2.trans a2, fun j hj h => b3 j hj (a3 j hj h), fun j hj hc hc2 => ?_, fun j hj h => ?_, fun j hj => ?_, ?_⟩
  · cases hc1 : bt c1 j
    · obtain ⟨q1, q2, q3⟩ := b4 j hj hc1 hc2
      exact ⟨q1, by rw [← bl_l a1 (by omega)]; exact q2, by rw [← bl_p hp (by omega)]; exact q3⟩
    · exact a4 j hj hc hc1
  · rcases h with h | h
    · rw [b5 j hj (.inl (a3 j (by omega) h)), a5 j hj (.inl h)]
    · rw [b5 j hj (.inr h), a5 j hj (.inr (bt_f (b3 j (by omega)) h))]
  · rcases b6 j hj with h | h
    · rw [h]; exact a6 j hj
    · exact .inr h
  · rcases b7 with ⟨q1, q2⟩ | ⟨w, w1, w2, w3, w4, w5, w6, w7⟩
    · exact .inl ⟨q1.trans hp, fun j hj hc hc2 => key j hj hc hc2 (fun hc1 => q2 j hj hc1 hc2)⟩
    · refine .inr ⟨w, w1, bt_f (a3 w (by omega)) w2, w3, by rw [← bl_p hp (by omega)]; exact w4, by rw [w5, hp], w6, fun j hj hjw hc hc2 => key j hj hc hc2 (fun hc1 => w7 j hj hjw hc1 hc2)⟩
theorem hx_stay (hR : R ≤ 6) {s : Int64} {c : Int32} {i v : Nat} (hi : i < R) (h1 : bl s (24 + i) = false) (h2 : bl s (30 + i) = false) (hc : bt c i = false) (hv : 0 < v) (hle : sv s i + v ≤ hd R kinds strengths i) (hlt : hd R kinds strengths i < 10) :
    hx R kinds strengths s c (M_X5_afterStrain s (nI i) (nI (sv s i + v))) (c ||| ((1 : Int32) <<< (nI i &&& 31))) ∧ (∀ j, j < 6 → bt c j = false → bt (c ||| ((1 : Int32) <<< (nI i &&& 31))) j = true → sv s j < sv (M_X5_afterStrain s (nI i) (nI (sv s i + v))) j) ∧ sv (M_X5_afterStrain s (nI i) (nI (sv s i + v))) i = sv s i + v := by
  have e0 : sv (M_X5_afterStrain s (nI i) (nI (sv s i + v))) i = sv s i + v := sv_of (by omega) (as_self s (by omega) (by omega))
  have e1 : ∀ j, j < 6 → j ≠ i → sv (M_X5_afterStrain s (nI i) (nI (sv s i + v))) j = sv s j := fun j hj h => sv_eq (as_other s (by omega) hj h _)
  have e2 : ∀ j, j < 32 → bt (c ||| ((1 : Int32) <<< (nI i &&& 31))) j = (bt c j || decide (j = i)) := fun j hj => by rw [b_or, b_sb (by omega) hj]
  have e3 : ∀ j, j < 32 → bt c j = false → bt (c ||| ((1 : Int32) <<< (nI i &&& 31))) j = true → j = i := fun j hj h1 h2 => by
    rw [e2 j hj, h1, Bool.false_or] at h2
    exact of_decide_eq_true h2
  have e4 : ∀ j, j < 6 → bt c j = false → bt (c ||| ((1 : Int32) <<< (nI i &&& 31))) j = true → sv s j < sv (M_X5_afterStrain s (nI i) (nI (sv s i + v))) j := fun j hj h1 h2 => by
    obtain rfl := e3 j (by omega) h1 h2
    rw [e0]; omega
  refine ⟨⟨as_letGo s (by omega) _, as_frost s (by omega) _, fun j hj h => by rw [e2 j hj, h]; rfl, fun j hj q1 q2 => ?_, fun j hj h => ?_, fun j hj => ?_, .inl ⟨as_parted s (by omega) _, e4⟩⟩, e4, e0⟩
  · obtain rfl := e3 j hj q1 q2
    exact ⟨hi, h1, h2⟩
  · refine e1 j hj (fun e => ?_)
    subst e
    rcases h with h | h
    · rw [hc] at h; exact absurd h (by decide)
    · rw [e2 j (by omega), decide_eq_true rfl, Bool.or_true] at h; exact absurd h (by decide)
  · by_cases e : j = i
    · subst e; rw [e0]; exact .inr hle
    · exact .inl (e1 j (by omega) e)
theorem hx_part (hR : R ≤ 6) {s : Int64} {c : Int32} {i : Nat} (hi : i < R) (h1 : bl s (24 + i) = false) (h2 : bl s (30 + i) = false) (hc : bt c i = false) :
    hx R kinds strengths s c (ap s ((1 : Int32) <<< (nI i &&& 31))) (c ||| ((1 : Int32) <<< (nI i &&& 31))) := by
  have e0 : sv (ap s ((1 : Int32) <<< (nI i &&& 31))) i = 0 := sv_of (by omega) (by rw [ap_strain s _ (by omega), b_sb (by omega) (by omega), decide_eq_true rfl]; rfl)
  have e1 : ∀ j, j < 6 → j ≠ i → sv (ap s ((1 : Int32) <<< (nI i &&& 31))) j = sv s j := fun j hj h => sv_eq (by rw [ap_strain s _ hj, b_sb (by omega) (by omega), decide_eq_false h]; rfl)
  have e2 : ∀ j, j < 32 → bt (c ||| ((1 : Int32) <<< (nI i &&& 31))) j = (bt c j || decide (j = i)) := fun j hj => by rw [b_or, b_sb (by omega) hj]
  have e3 : ∀ j, j < 32 → bt c j = false → bt (c ||| ((1 : Int32) <<< (nI i &&& 31))) j = true → j = i := fun j hj h1 h2 => by
    rw [e2 j hj, h1, Bool.false_or] at h2
    exact of_decide_eq_true h2
  refine ⟨ap_letGo s _, ap_frost s _, fun j hj h => by rw [e2 j hj, h]; rfl, fun j hj q1 q2 => ?_, fun j hj h => ?_, fun j hj => ?_, .inr ⟨i, hi, hc, by rw [e2 i (by omega), decide_eq_true rfl, Bool.or_true], h2, ap_parted s (fun k h6 h7 => by rw [b_sb (by omega) (by omega), decide_eq_false (by omega)]), e0, fun j hj hji q1 q2 => absurd (e3 j (by omega) q1 q2) hji⟩⟩
  · obtain rfl := e3 j hj q1 q2
    exact ⟨hi, h1, h2⟩
  · refine e1 j hj (fun e => ?_)
    subst e
    rcases h with h | h
    · rw [hc] at h; exact absurd h (by decide)
    · rw [e2 j (by omega), decide_eq_true rfl, Bool.or_true] at h; exact absurd h (by decide)
  · by_cases e : j = i
    · subst e; rw [e0]; exact .inr (Nat.zero_le _)
    · exact .inl (e1 j (by omega) e)
theorem par_n {s : Int64} {i : Nat} (hi : i < 6) (h2 : bl s (30 + i) = false) : ¬ M_X5_parted (ap s ((1 : Int32) <<< (nI i &&& 31))) = M_X5_parted s := fun hp => by
  rw [ap_parted s (fun k h6 h7 => by rw [b_sb (by omega) (by omega), decide_eq_false (by omega)])] at hp
  have h1 := b_or (M_X5_parted s) ((1 : Int32) <<< (nI i &&& 31)) i
  rw [hp, st_parted s (by omega), h2, b_sb (by omega) (by omega)] at h1
  simp at h1
theorem hx_loop (hRS : pu_RS R A kinds strengths moved needs forbids m) : ∀ (d step n1 : Nat) (s : Int64) (came : Int32) (i v : Nat), step + d = 6 → d < n1 → i < R → bl s (24 + i) = false → bl s (30 + i) = false → 0 < v → v < 100 → bt came i = false → pc came = step →
    ∃ s' came', M_X2_hauled_b41 (nI R) kinds strengths moved n1 came s (nI i) (nI v) (nI step) = some (s', came') ∧ hx R kinds strengths s came s' came' ∧ bt came' i = true ∧ (M_X5_parted s' = M_X5_parted s → sv s i + v ≤ sv s' i) := by
  have hR := hRS.1
  intro d
  induction d with
  | zero =>
    intro step n1 s came i v h1 h2 hi hb1 hb2 hv0 hv hci hpc
    exfalso
    have := pc_6 (x := came) (by omega) (i := i) (by omega)
    rw [hci] at this
    exact Bool.noConfusion this
  | succ d ih =>
    intro step n1 s came i v h1 h2 hi hb1 hb2 hv0 hv hci hpc
    obtain ⟨n1, rfl⟩ : ∃ k, n1 = k + 1 := ⟨n1 - 1, by omega⟩
    obtain ⟨a1, ⟨kk, hkk, a2⟩, -, -, a5, a6⟩ := hRS.2.2.2.2.1 i hi
    have hcan : M_X2_canReach (nI R) came s (nI i) = 1 := by
      unfold M_X2_canReach
      rw [rs_isRope hR hi, if_neg (by decide), st_isFast s (by omega), hb1, hb2, if_pos ((b_bit came (by omega)).mpr hci)]
      rfl
    obtain ⟨hh1, hhl⟩ := hd_e hRS hi
    have hsv := sv_lt s i
    have eC : M_X2_hauled_b41 (nI R) kinds strengths moved (n1 + 1) came s (nI i) (nI v) (nI step) = if nI (sv s i + v) ≤ nI (hd R kinds strengths i) then M_X2_hauled_b41 (nI R) kinds strengths moved n1 (came ||| ((1 : Int32) <<< (nI i &&& (31 : Int32)))) (M_X5_afterStrain s (nI i) (nI (sv s i + v))) (m (14 + i)) (M_X6_passed (kinds i) (nI v)) (nI (step + 1)) else some (ap s ((1 : Int32) <<< (nI i &&& (31 : Int32))), came ||| ((1 : Int32) <<< (nI i &&& (31 : Int32)))) := by
      rw [M_X2_hauled_b41, if_neg (gN 6 (by omega)), if_neg (nI_nle hv0 (by omega)), hcan, if_neg (by decide), hh1, Option.bind_some, sv_e s i, nI_add, rs_kind hR hi, Option.bind_some, a5, Option.bind_some, nI_1, st_apE, Option.bind_some]
    have eL : (nI (sv s i + v) ≤ nI (hd R kinds strengths i)) ↔ sv s i + v ≤ hd R kinds strengths i := nI_leI (by omega) (by omega)
    have ebi : bt (came ||| ((1 : Int32) <<< (nI i &&& 31))) i = true := by rw [b_or, b_sb (by omega) (by omega), decide_eq_true rfl, Bool.or_true]
    by_cases hle : sv s i + v ≤ hd R kinds strengths i
    · rw [eC, if_pos (eL.mpr hle)]
      obtain ⟨g1, g2, g3⟩ := hx_stay (c := came) (v := v) hR hi hb1 hb2 hci hv0 hle hhl
      have hpp : M_X5_parted (M_X5_afterStrain s (nI i) (nI (sv s i + v))) = M_X5_parted s := as_parted s (by omega) _
      obtain ⟨w, hw, ew⟩ := pa_lt (k := kk) (v := v) hkk (by omega)
      have ep : M_X6_passed (kinds i) (nI v) = nI w := by rw [pa_eq _ (by omega), a2, ew]
      rw [ep]
      by_cases hst : nI w ≤ 0 ∨ M_X2_canReach (nI R) (came ||| ((1 : Int32) <<< (nI i &&& (31 : Int32)))) (M_X5_afterStrain s (nI i) (nI (sv s i + v))) (m (14 + i)) = 0
      · obtain ⟨n3, rfl⟩ : ∃ k, n1 = k + 1 := ⟨n1 - 1, by omega⟩
        rw [hl_stop hst]
        exact ⟨_, _, rfl, g1, ebi, fun _ => Nat.le_of_eq g3.symm⟩
      · rcases a6 with q9 | ⟨j, hj, hji, ej⟩
        · exact absurd (.inr (by rw [q9]; unfold M_X2_canReach M_X2_isRope; rfl)) hst
        · rw [ej] at hst ⊢
          have w0 : 0 < w := Nat.pos_of_ne_zero (fun e => hst (.inl (by rw [e]; decide)))
          have hc0 : ¬ M_X2_canReach (nI R) (came ||| ((1 : Int32) <<< (nI i &&& (31 : Int32)))) (M_X5_afterStrain s (nI i) (nI (sv s i + v))) (nI j) = 0 := fun z => hst (.inr z)
          unfold M_X2_canReach at hc0
          rw [rs_isRope hR hj, if_neg (by decide), st_isFast _ (show j < 6 by omega)] at hc0
          have hfj : (bl (M_X5_afterStrain s (nI i) (nI (sv s i + v))) (24 + j) || bl (M_X5_afterStrain s (nI i) (nI (sv s i + v))) (30 + j)) = false := by
            cases hb : (bl (M_X5_afterStrain s (nI i) (nI (sv s i + v))) (24 + j) || bl (M_X5_afterStrain s (nI i) (nI (sv s i + v))) (30 + j))
            · rfl
            · rw [hb] at hc0; exact absurd rfl hc0
          rw [hfj] at hc0
          have hbj : bt (came ||| ((1 : Int32) <<< (nI i &&& (31 : Int32)))) j = false := by
            cases hb : bt (came ||| ((1 : Int32) <<< (nI i &&& (31 : Int32)))) j
            · rfl
            · refine absurd ?_ hc0
              rw [if_neg (show ¬ (if false = true then (0 : Int32) else 1) = 0 by decide), if_neg (fun z => by rw [(b_bit _ (by omega)).mp z] at hb; exact absurd hb (by decide))]
          rw [Bool.or_eq_false_iff] at hfj
          obtain ⟨s', came', r1, r2, r3, r4⟩ := ih (step + 1) n1 (M_X5_afterStrain s (nI i) (nI (sv s i + v))) (came ||| ((1 : Int32) <<< (nI i &&& (31 : Int32)))) j w (by omega) (by omega) hj hfj.1 hfj.2 w0 (by omega) hbj (by rw [pc_add (by omega) hci, hpc])
          exact ⟨s', came', r1, hx_trans g1 hpp g2 hR r2, r2.2.2.1 i (by omega) ebi, fun _ => by rw [r2.2.2.2.2.1 i (by omega) (.inl ebi), g3]; exact Nat.le_refl _⟩
    · rw [eC, if_neg (fun q => hle (eL.mp q))]
      exact ⟨_, _, rfl, hx_part hR hi hb1 hb2 hci, ebi, fun hp => absurd hp (par_n (by omega) hb2)⟩
theorem hx_H (hRS : pu_RS R A kinds strengths moved needs forbids m) {s : Int64} {i v : Nat} (hi : i < R) (hb1 : bl s (24 + i) = false) (hb2 : bl s (30 + i) = false) (hv0 : 0 < v) (hv : v < 50) :
    (∀ rch, M_X2_hauled (nI R) kinds strengths moved rch s (nI i) (nI v) = some (hS R kinds strengths moved s i v, hC R kinds strengths moved s i v)) ∧
    hx R kinds strengths s 0 (hS R kinds strengths moved s i v) (hC R kinds strengths moved s i v) ∧ bt (hC R kinds strengths moved s i v) i = true ∧ (M_X5_parted (hS R kinds strengths moved s i v) = M_X5_parted s → sv s i + v ≤ sv (hS R kinds strengths moved s i v) i) := by
  have hR := hRS.1
  obtain ⟨f, hf, ef⟩ := st_fN s
  obtain ⟨s', came', r1, r2, r3, r4⟩ := hx_loop hRS 6 0 x_fuel s 0 i (if f = 0 ∨ kinds i = 4 then v else v + 1) (by omega) (by unfold x_fuel; omega) hi hb1 hb2 (by split <;> omega) (by split <;> omega) (b_0 i) pc_0
  have r0 : ∀ rch, M_X2_hauled (nI R) kinds strengths moved rch s (nI i) (nI v) = some (s', came') := fun rch => by
    rw [← r1]
    unfold M_X2_hauled M_X2_hauled_b29 M_X2_hauled_b31
    rw [ef, rs_kind hR hi, Option.bind_some]
    by_cases h0 : f = 0
    · subst h0
      rw [if_pos (show nI 0 = 0 from rfl), if_pos (.inl rfl)] <;> rfl
    · have h1 : f = 1 := by omega
      subst h1
      rw [if_neg (show ¬ nI 1 = 0 by decide)]
      by_cases h4 : kinds i = 4
      · rw [if_pos h4, if_pos (.inr h4)] <;> rfl
      · rw [if_neg h4, if_neg (fun q => q.elim (by omega) h4), nI_1] <;> rfl
  have e1 : hS R kinds strengths moved s i v = s' := by unfold hS; rw [r0]; rfl
  have e2 : hC R kinds strengths moved s i v = came' := by unfold hC; rw [r0]; rfl
  rw [e1, e2]
  refine ⟨r0, r2, r3, fun hp => Nat.le_trans ?_ (r4 hp)⟩
  split <;> omega
end
