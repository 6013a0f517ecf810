/-! PURE PART: a haul on both sides -/
def pu_Ev (R : Nat) (s s' : Int64) (pb pb' : Int32) : Prop :=
  M_X5_letGo s' = M_X5_letGo s ∧ M_X5_frostIn s' = M_X5_frostIn s ∧
  ((M_X5_parted s' = M_X5_parted s ∧ pb' = pb) ∨ ∃ j, j < R ∧ bl s (30 + j) = false ∧ pb' = nI j ∧ M_X5_parted s' = M_X5_parted s ||| ((1 : Int32) <<< (nI j &&& 31))) ∧
  (∀ j, j < 6 → (bl s (24 + j) || bl s (30 + j)) = true → M_X5_strain s' (nI j) = M_X5_strain s (nI j)) ∧
  (M_X5_parted s' = M_X5_parted s → ∀ j, j < 6 → ¬ M_X5_strain s (nI j) = 0 → ¬ M_X5_strain s' (nI j) = 0)
theorem bl_p {s s' : Int64} (h : M_X5_parted s' = M_X5_parted s) {j : Nat} (hj : j < 6) : bl s' (30 + j) = bl s (30 + j) := by
  have a := st_parted s' (k := j) (by omega)
  have b := st_parted s (k := j) (by omega)
  rw [h, b, decide_eq_true hj, Bool.true_and, Bool.true_and] at a
  exact a.symm
theorem bl_l {s s' : Int64} (h : M_X5_letGo s' = M_X5_letGo s) {j : Nat} (hj : j < 6) : bl s' (24 + j) = bl s (24 + j) := by
  have a := st_letGo s' (k := j) (by omega)
  have b := st_letGo s (k := j) (by omega)
  rw [h, b, decide_eq_true hj, Bool.true_and, Bool.true_and] at a
  exact a.symm
theorem cd_as {R : Nat} {s : Int64} {m : Nat → Int32} (hR : R ≤ 6) (h : pu_CD R s m) {i v : Nat} (hi : i < R) (hv : v < 16) : pu_CD R (M_X5_afterStrain s (nI i) (nI v)) (upd m (76 + i) (nI v)) := by
  obtain ⟨h1, h2, h3, h4, h5⟩ := h
  refine ⟨fun j hj => ?_, fun j h6 h7 => ?_, ?_, ?_, ?_⟩
  · by_cases e : j = i
    · subst e; rw [pu_us, as_self s (by omega) hv]
    · rw [pu_un (by omega), as_other s (by omega) (by omega) e, h1 j hj]
  · rw [as_other s (by omega) (by omega) (by omega), h2 j h6 h7]
  · rw [pu_un (by omega), as_letGo s (by omega), h3]
  · rw [pu_un (by omega), as_parted s (by omega), h4]
  · rw [pu_un (by omega), as_frost s (by omega), h5]
theorem cd_ap {R : Nat} {s : Int64} {m : Nat → Int32} (hR : R ≤ 6) (h : pu_CD R s m) {i : Nat} (hi : i < R) {m' : Nat → Int32} (e0 : m' (76 + i) = 0) (e1 : m' 83 = m 83 ||| ((1 : Int32) <<< (nI i &&& 31))) (e2 : ∀ j, 76 ≤ j → j < 85 → j ≠ 76 + i → j ≠ 83 → m' j = m j) : pu_CD R (ap s ((1 : Int32) <<< (nI i &&& 31))) m' := by
  obtain ⟨h1, h2, h3, h4, h5⟩ := h
  refine ⟨fun j hj => ?_, fun j h6 h7 => ?_, ?_, ?_, ?_⟩
  · rw [ap_strain s _ (by omega), b_sb (by omega) (by omega)]
    by_cases e : j = i
    · subst e; rw [e0, decide_eq_true rfl]; rfl
    · rw [decide_eq_false e, e2 _ (by omega) (by omega) (by omega) (by omega), h1 j hj]; rfl
  · rw [ap_strain s _ (by omega), b_sb (by omega) (by omega), decide_eq_false (by omega), h2 j h6 h7]; rfl
  · rw [e2 _ (by omega) (by omega) (by omega) (by omega), ap_letGo, h3]
  · rw [e1, ap_parted s (fun k h6 h7 => by rw [b_sb (by omega) (by omega), decide_eq_false (by omega)]), h4]
  · rw [e2 _ (by omega) (by omega) (by omega) (by omega), ap_frost, h5]
theorem cd_cut {R : Nat} {s : Int64} {m : Nat → Int32} (hR : R ≤ 6) (h : pu_CD R s m) {i : Nat} (hi : i < R) : pu_CD R (ap s ((1 : Int32) <<< (nI i &&& 31))) (upd (upd m (76 + i) 0) 83 (m 83 ||| ((1 : Int32) <<< (nI i &&& 31)))) :=
  cd_ap hR h hi (by rw [pu_un (by omega), pu_us]) (by rw [pu_us]) (fun j h6 h7 h8 h9 => by rw [pu_un h9, pu_un h8])
section
variable {R A : Nat} {kinds strengths moved needs forbids m0 : Nat → Int32}
theorem hl_stop {n : Nat} {rch : Int32} {s : Int64} {x8 x9 : Int32} {x7 : Int32} (h : x8 ≤ 0 ∨ M_X2_canReach (nI R) rch s x7 = 0) : M_X2_hauled_b41 (nI R) kinds strengths moved (n + 1) rch s x7 x8 x9 = some (s, rch) := by
  rw [M_X2_hauled_b41]
  by_cases q : (6 : Int32) ≤ x9
  · rw [if_pos q]
  · rw [if_neg q]
    by_cases q2 : x8 ≤ 0
    · rw [if_pos q2]
    · rw [if_neg q2, if_pos (h.resolve_left q2)]
theorem hl_loop (hRS : pu_RS R A kinds strengths moved needs forbids m0) : ∀ (d step n1 n2 : Nat) (s : Int64) (m : Nat → Int32) (came : Int32) (i v : Nat) (pb : Int32), step + d = 6 → d < n1 → d + 1 < n2 → pu_CD R s m → (∀ j, j < 76 → m j = m0 j) → i < R → bl s (24 + i) = false → bl s (30 + i) = false → 0 < v → v < 100 → bt came i = false → pc came = step →
    ∃ s' came' m' pb', M_X2_hauled_b41 (nI R) kinds strengths moved n1 came s (nI i) (nI v) (nI step) = some (s', came') ∧ M_X7_goHaul_hand_b39 n2 m pb (nI i) (nI v) came = some (came', m', pb') ∧ pu_CD R s' m' ∧ (∀ j, j < 76 → m' j = m0 j) ∧ pu_Ev R s s' pb pb' := by
  have hR := hRS.1
  intro d
  induction d with
  | zero =>
    intro step n1 n2 s m came i v pb h1 h2 h3 hC hm hi hb1 hb2 hv0 hv hci hpc
    exfalso
    have := pc_6 (x := came) (by omega) (i := i) (by omega)
    rw [hci] at this
    exact Bool.noConfusion this
  | succ d ih =>
    intro step n1 n2 s m came i v pb h1 h2 h3 hC hm hi hb1 hb2 hv0 hv hci hpc
    obtain ⟨n1, rfl⟩ : ∃ k, n1 = k + 1 := ⟨n1 - 1, by omega⟩
    obtain ⟨n2, rfl⟩ : ∃ k, n2 = k + 1 := ⟨n2 - 1, by omega⟩
    obtain ⟨sv, hsv, esv⟩ := st_sN s (nI i)
    have hRm : pu_RS R A kinds strengths moved needs forbids m := hRS.of (fun j hj => hm j (by omega))
    have hCi := hC.1 i hi
    rw [esv] at hCi
    obtain ⟨a1, ⟨kk, hkk, a2⟩, -, -, a5, a6⟩ := hRm.2.2.2.2.1 i hi
    have hcan : M_X2_canReach (nI R) came s (nI i) = 1 := by
      unfold M_X2_canReach
      rw [rs_isRope hR hi, if_neg (by decide), st_isFast s (by omega), hb1, hb2, if_pos ((b_bit came (by omega)).mpr hci)]
      rfl
    -- the array behind the adding
    have eM : m (76 + i) + nI v = nI (sv + v) := by rw [hCi, nI_add]
    have hRM : pu_RS R A kinds strengths moved needs forbids (upd m (76 + i) (nI (sv + v))) := hRm.of (fun j hj => pu_un (by omega))
    obtain ⟨hh, hhl, hh1, hh2⟩ := rs_holds hRM hi
    have e14 : (upd m (76 + i) (nI (sv + v))) (14 + i) = m (14 + i) := pu_un (by omega)
    have e2 : (upd m (76 + i) (nI (sv + v))) (2 + i) = m (2 + i) := pu_un (by omega)
    have eR : M_X7_goHaul_hand_b39 (n2 + 1) m pb (nI i) (nI v) came = M_X7_goHaul_hand_b76 (fun (hand' : (Nat → Int32)) (partedBy' : Int32) (x4' : Int32) (x5' : Int32) (x6' : Int32) => M_X7_goHaul_hand_b39 n2 hand' partedBy' x4' x5' x6') (upd m (76 + i) (nI (sv + v))) pb (nI i) (nI v) (came ||| ((1 : Int32) <<< (nI i &&& (31 : Int32)))) (m (14 + i)) := by
      rw [M_X7_goHaul_hand_b39, if_neg (pu_nI9 (by omega)), if_pos (iO 76 (by omega)), if_pos (iO 14 (by omega)), cO 76 (by omega), cO 14 (by omega), eM, e14]
    have eC : M_X2_hauled_b41 (nI R) kinds strengths moved (n1 + 1) came s (nI i) (nI v) (nI step) = if nI (sv + v) ≤ nI hh then M_X2_hauled_b41 (nI R) kinds strengths moved n1 (came ||| ((1 : Int32) <<< (nI i &&& (31 : Int32)))) (M_X5_afterStrain s (nI i) (nI (sv + v))) (m (14 + i)) (M_X6_passed (kinds i) (nI v)) (nI (step + 1)) else some (ap s ((1 : Int32) <<< (nI i &&& (31 : Int32))), came ||| ((1 : Int32) <<< (nI i &&& (31 : Int32)))) := by
      rw [M_X2_hauled_b41, if_neg (gN 6 (by omega)), if_neg (nI_nle hv0 (by omega)), hcan, if_neg (by decide), hh1, Option.bind_some, esv, nI_add, rs_kind hR hi, Option.bind_some, a5, Option.bind_some, nI_1, st_apE, Option.bind_some]
    have eL : (nI (sv + v) ≤ nI hh) ↔ sv + v ≤ hh := nI_leI (by omega) (by omega)
    -- a stop of the reference
    have eStop : ∀ (mm : Nat → Int32) (p y z : Int32), M_X7_goHaul_hand_b39 n2 mm p (-9) y z = some (z, mm, p) := by
      intro mm p y z
      obtain ⟨n3, rfl⟩ : ∃ k, n2 = k + 1 := ⟨n2 - 1, by omega⟩
      rw [M_X7_goHaul_hand_b39, if_pos rfl]
    by_cases hle : sv + v ≤ hh
    · rw [eC, if_pos (eL.mpr hle), eR]
      have hC1 := cd_as hR hC hi (v := sv + v) (by omega)
      have hm1 : ∀ j, j < 76 → (upd m (76 + i) (nI (sv + v))) j = m0 j := fun j hj => by rw [pu_un (by omega), hm j hj]
      have hEv : ∀ p, pu_Ev R s (M_X5_afterStrain s (nI i) (nI (sv + v))) p p := fun p => ⟨as_letGo s (by omega) _, as_frost s (by omega) _, .inl ⟨as_parted s (by omega) _, rfl⟩, fun j hj hb => by
          by_cases e : j = i
          · subst e; rw [hb1, hb2] at hb; exact absurd hb (by decide)
          · exact as_other s (by omega) hj e _, fun _ j hj hb => by
          by_cases e : j = i
          · subst e; rw [as_self s (by omega) (by omega)]; exact eN 0 (by omega) (by omega)
          · rw [as_other s (by omega) hj e _]; exact hb⟩
      obtain ⟨w, hw, ew⟩ := pa_lt (k := kk) (v := v) hkk (by omega)
      have ep : M_X6_passed (kinds i) (nI v) = nI w := by rw [pa_eq _ (by omega), a2, ew]
      have ep2 : M_X7_passesAs (m (2 + i)) (nI v) = nI w := by rw [a1, a2, ew]
      rw [ep]
      have eR2 : M_X7_goHaul_hand_b76 (fun (hand' : (Nat → Int32)) (partedBy' : Int32) (x4' : Int32) (x5' : Int32) (x6' : Int32) => M_X7_goHaul_hand_b39 n2 hand' partedBy' x4' x5' x6') (upd m (76 + i) (nI (sv + v))) pb (nI i) (nI v) (came ||| ((1 : Int32) <<< (nI i &&& (31 : Int32)))) (m (14 + i)) =
          if m (14 + i) = (-9 : Int32) ∨ nI w ≤ 0 ∨ M_X7_isFast_85 (upd m (76 + i) (nI (sv + v))) (m (14 + i)) = 0 ∨ ¬ M_X7_has (came ||| ((1 : Int32) <<< (nI i &&& (31 : Int32)))) (m (14 + i)) = 0 then some (came ||| ((1 : Int32) <<< (nI i &&& (31 : Int32))), upd m (76 + i) (nI (sv + v)), pb)
          else M_X7_goHaul_hand_b39 n2 (upd m (76 + i) (nI (sv + v))) pb (m (14 + i)) (nI w) (came ||| ((1 : Int32) <<< (nI i &&& (31 : Int32)))) := by
        rw [M_X7_goHaul_hand_b76, if_pos (iO 76 (by omega)), hh2, Option.bind_some, cO 76 (by omega), pu_us, if_pos (eL.mpr hle)]
        unfold M_X7_goHaul_hand_b121
        rw [if_pos (iO 2 (by omega)), cO 2 (by omega), e2, ep2]
        unfold M_X7_goHaul_hand_b170 M_X7_goHaul_hand_b172
        by_cases q1 : m (14 + i) = (-9 : Int32)
        · rw [if_pos q1, if_pos (.inl q1)]; exact eStop _ _ _ _
        · rw [if_neg q1]
          by_cases q2 : nI w ≤ 0
          · rw [if_pos q2, if_pos (.inr (.inl q2))]; exact eStop _ _ _ _
          · rw [if_neg q2]
            by_cases q3 : M_X7_isFast_85 (upd m (76 + i) (nI (sv + v))) (m (14 + i)) = 0
            · rw [if_pos q3, if_pos (.inr (.inr (.inl q3)))]; exact eStop _ _ _ _
            · rw [if_neg q3]
              by_cases q4 : M_X7_has (came ||| ((1 : Int32) <<< (nI i &&& (31 : Int32)))) (m (14 + i)) = 0
              · rw [if_pos q4, if_neg (fun q => q.elim q1 (fun q => q.elim q2 (fun q => q.elim q3 (fun q => q q4))))]
              · rw [if_neg q4, if_pos (.inr (.inr (.inr q4)))]; exact eStop _ _ _ _
      rw [eR2]
      have stop : ∀ (hst : nI w ≤ 0 ∨ M_X2_canReach (nI R) (came ||| ((1 : Int32) <<< (nI i &&& (31 : Int32)))) (M_X5_afterStrain s (nI i) (nI (sv + v))) (m (14 + i)) = 0), M_X2_hauled_b41 (nI R) kinds strengths moved n1 (came ||| ((1 : Int32) <<< (nI i &&& (31 : Int32)))) (M_X5_afterStrain s (nI i) (nI (sv + v))) (m (14 + i)) (nI w) (nI (step + 1)) = some (M_X5_afterStrain s (nI i) (nI (sv + v)), came ||| ((1 : Int32) <<< (nI i &&& (31 : Int32)))) := by
        intro hst
        obtain ⟨n3, rfl⟩ : ∃ k, n1 = k + 1 := ⟨n1 - 1, by omega⟩
        exact hl_stop hst
      rcases a6 with q9 | ⟨j, hj, hji, ej⟩
      · rw [if_pos (.inl q9), stop (.inr (by rw [q9]; unfold M_X2_canReach M_X2_isRope; rfl))]
        exact ⟨_, _, _, _, rfl, rfl, hC1, hm1, hEv pb⟩
      · have hf : M_X7_isFast_85 (upd m (76 + i) (nI (sv + v))) (nI j) = M_X5_isFast (M_X5_afterStrain s (nI i) (nI (sv + v))) (nI j) := rs_fast hC1 (by omega)
        by_cases q : m (14 + i) = (-9 : Int32) ∨ nI w ≤ 0 ∨ M_X7_isFast_85 (upd m (76 + i) (nI (sv + v))) (m (14 + i)) = 0 ∨ ¬ M_X7_has (came ||| ((1 : Int32) <<< (nI i &&& (31 : Int32)))) (m (14 + i)) = 0
        · rw [if_pos q, stop ?_]
          · exact ⟨_, _, _, _, rfl, rfl, hC1, hm1, hEv pb⟩
          · rcases q with q | q | q | q
            · exact absurd (ej.symm.trans q) (pu_nI9 (by omega))
            · exact .inl q
            · rw [ej, hf] at q
              refine .inr ?_
              rw [ej]; unfold M_X2_canReach
              rw [rs_isRope hR hj, if_neg (by decide), if_pos q]
            · rw [ej, ha_b _ (by omega)] at q
              refine .inr ?_
              rw [ej]; unfold M_X2_canReach
              rw [rs_isRope hR hj, if_neg (by decide)]
              by_cases q5 : M_X5_isFast (M_X5_afterStrain s (nI i) (nI (sv + v))) (nI j) = 0
              · rw [if_pos q5]
              · rw [if_neg q5, if_neg]
                intro q6
                rw [(b_bit _ (by omega)).mp q6] at q
                exact q rfl
        · rw [if_neg q, ej]
          have w0 : 0 < w := Nat.pos_of_ne_zero (fun e => q (.inr (.inl (by rw [e]; decide))))
          have hbj : bt (came ||| ((1 : Int32) <<< (nI i &&& (31 : Int32)))) j = false := by
            cases hb : bt (came ||| ((1 : Int32) <<< (nI i &&& (31 : Int32)))) j
            · rfl
            · exact absurd (.inr (.inr (.inr (by rw [ej, ha_b _ (by omega), hb]; decide)))) q
          have hfj : (bl (M_X5_afterStrain s (nI i) (nI (sv + v))) (24 + j) || bl (M_X5_afterStrain s (nI i) (nI (sv + v))) (30 + j)) = false := by
            cases hb : (bl (M_X5_afterStrain s (nI i) (nI (sv + v))) (24 + j) || bl (M_X5_afterStrain s (nI i) (nI (sv + v))) (30 + j))
            · rfl
            · exact absurd (.inr (.inr (.inl (by rw [ej, hf, st_isFast _ (by omega), hb]; rfl)))) q
          rw [Bool.or_eq_false_iff] at hfj
          obtain ⟨s', came', m', pb', r1, r2, r3, r4, r5, r6, r7, r8, r9⟩ := ih (step + 1) n1 n2 (M_X5_afterStrain s (nI i) (nI (sv + v))) (upd m (76 + i) (nI (sv + v))) (came ||| ((1 : Int32) <<< (nI i &&& (31 : Int32)))) j w pb (by omega) (by omega) (by omega) hC1 hm1 hj hfj.1 hfj.2 w0 (by omega) hbj (by rw [pc_add (by omega) hci, hpc])
          rw [as_parted s (show i < 6 by omega)] at r7 r9
          refine ⟨s', came', m', pb', r1, r2, r3, r4, r5.trans (as_letGo s (by omega) _), r6.trans (as_frost s (by omega) _), ?_, fun j hj hb => ?_, fun hp j hj hb => r9 hp j hj ((hEv pb).2.2.2.2 (as_parted s (by omega) _) j hj hb)⟩
          rotate_left
          · rw [r8 j hj (by rw [bl_p (as_parted s (by omega) _) hj, bl_l (as_letGo s (by omega) _) hj]; exact hb)]
            exact (hEv pb).2.2.2.1 j hj hb
          refine r7.imp id (fun ⟨j', b1, b2, b3, b4⟩ => ⟨j', b1, ?_, b3, b4⟩)
          rw [← b2]
          exact (bl_p (as_parted s (by omega) _) (by omega)).symm
    · rw [eC, if_neg (fun q => hle (eL.mp q)), eR]
      refine ⟨_, _, upd (upd (upd m (76 + i) (nI (sv + v))) (76 + i) 0) 83 ((upd (upd m (76 + i) (nI (sv + v))) (76 + i) 0) 83 ||| ((1 : Int32) <<< (nI i &&& (31 : Int32)))), nI i, rfl, ?_, ?_, ?_, ap_letGo s _, ap_frost s _, .inr ⟨i, hi, hb2, rfl, ap_parted s (fun k h6 h7 => by rw [b_sb (by omega) (by omega), decide_eq_false (by omega)])⟩, fun j hj hb => ?_, fun hp => ?_⟩
      · rw [M_X7_goHaul_hand_b76, if_pos (iO 76 (by omega)), hh2, Option.bind_some, cO 76 (by omega), pu_us, if_neg (fun q => hle (eL.mp q))]
        unfold M_X7_goHaul_hand_b121
        rw [if_pos (iO 2 (by omega)), if_pos rfl]
        unfold M_X7_goHaul_hand_b170 M_X7_goHaul_hand_b172
        exact eStop _ _ _ _
      · exact cd_ap hR hC hi (by rw [pu_un (by omega), pu_us]) (by rw [pu_us, pu_un (by omega), pu_un (by omega)]) (fun j h6 h7 h8 h9 => by rw [pu_un h9, pu_un h8, pu_un h8])
      · intro j hj
        rw [pu_un (by omega), pu_un (by omega), pu_un (by omega), hm j hj]
      · have e : j ≠ i := fun e => by rw [e, hb1, hb2] at hb; exact absurd hb (by decide)
        rw [ap_strain s _ hj, b_sb (by omega) (by omega), decide_eq_false e]
        rfl
      · exfalso
        rw [ap_parted s (fun k h6 h7 => by rw [b_sb (by omega) (by omega), decide_eq_false (by omega)])] at hp
        have h1 := b_or (M_X5_parted s) ((1 : Int32) <<< (nI i &&& 31)) i
        rw [hp, st_parted s (by omega), hb2, b_sb (by omega) (by omega)] at h1
        simp at h1
theorem hl_hand (hRS : pu_RS R A kinds strengths moved needs forbids m0) {s : Int64} (hC : pu_CD R s m0) {i v : Nat} (hi : i < R) (hb1 : bl s (24 + i) = false) (hb2 : bl s (30 + i) = false) (hv0 : 0 < v) (hv : v < 50) :
    ∃ s' came' m' pb', (∀ rch, M_X2_hauled (nI R) kinds strengths moved rch s (nI i) (nI v) = some (s', came')) ∧ (∀ pb, M_X7_goHaul_hand m0 pb (nI i) (nI v) = some (came', m', pb')) ∧ pu_CD R s' m' ∧ (∀ j, j < 76 → m' j = m0 j) ∧ pu_Ev R s s' (-9) pb' := by
  have hR := hRS.1
  obtain ⟨a1, ⟨kk, hkk, a2⟩, -⟩ := hRS.2.2.2.2.1 i hi
  obtain ⟨f, hf, ef⟩ := st_fN s
  have e84 := hC.2.2.2.2
  obtain ⟨s', came', m', pb', r1, r2, r3⟩ := hl_loop hRS 6 0 x_fuel x_fuel s m0 0 i (if f = 0 ∨ kinds i = 4 then v else v + 1) (-9) (by omega) (by unfold x_fuel; omega) (by unfold x_fuel; omega) hC (fun _ _ => rfl) hi hb1 hb2 (by split <;> omega) (by split <;> omega) (b_0 i) pc_0
  refine ⟨s', came', m', pb', fun rch => ?_, fun pb => ?_, r3⟩
  · rw [← r1]
    unfold M_X2_hauled M_X2_hauled_b29 M_X2_hauled_b31
    rw [ef, rs_kind hR hi, Option.bind_some]
    by_cases h0 : f = 0
    · subst h0
      rw [if_pos (show nI 0 = 0 from rfl), if_pos (.inl rfl)] <;> rfl
    · have h1 : f = 1 := by omega
      subst h1
      rw [if_neg (show ¬ nI 1 = 0 by decide)]
      by_cases h4 : kinds i = 4
      · rw [if_pos h4, if_pos (.inr h4)] <;> rfl
      · rw [if_neg h4, if_neg (fun q => q.elim (by omega) h4), nI_1] <;> rfl
  · rw [← r2]
    unfold M_X7_goHaul_hand M_X7_goHaul_hand_b26 M_X7_goHaul_hand_b27
    rw [e84, ef, if_pos (iO 2 (by omega)), cO 2 (by omega), a1]
    by_cases h0 : f = 0
    · subst h0
      rw [if_neg (show ¬ nI 0 = 1 by decide), if_pos (.inl rfl), show nI v + (0 : Int32) = nI v from nI_add v 0] <;> rfl
    · have h1 : f = 1 := by omega
      subst h1
      rw [if_pos (show nI 1 = 1 from rfl)]
      by_cases h4 : kinds i = 4
      · rw [if_pos h4, if_pos (.inr h4), show nI v + (0 : Int32) = nI v from nI_add v 0] <;> rfl
      · rw [if_neg h4, if_neg (fun q => q.elim (by omega) h4), nI_1] <;> rfl
end
