/-! PURE PART: the law's loop ends with true -/
theorem law_pure {xs : Nat → Int32} {L : Nat} (hL : L ≤ 3072) : ∀ (d n k : Nat) (lf : Int32) (la : Int32) (up : Int64) (lo : Int64) (rz : (Nat → Int32)) (rp : (Nat → Nat → Int32)) (st : (Nat → Int64)) (lk : (Nat → Nat → Int64)) (kz : (Nat → Int32)) (fc : (Nat → Int32)) (tz : (Nat → Int32)) (tp : (Nat → Nat → Int32)) (reader_signs : (Nat → Int32)) (reader_size : Int32) (reader_place : Int32) (reader_fault : Int32) (reader_head : Int32) (draft_ropes : Int32) (draft_acts : Int32) (draft_start : Int64) (draft_reached : Int32) (draft_kinds : (Nat → Int32)) (draft_strengths : (Nat → Int32)) (draft_moved : (Nat → Int32)) (draft_needs : (Nat → Int32)) (draft_forbids : (Nat → Int32)) (c : (Nat → Nat)) (rst : Int64) (rrc : Int32) (kinds : (Nat → Int32)) (strengths : (Nat → Int32)) (moved : (Nat → Int32)) (needs : (Nat → Int32)) (forbids : (Nat → Int32)) (b : (Nat → Nat)) (tried : (Nat → Int32)) (now : (Nat → Int32)) (kept : (Nat → Int32)) (isK : (Nat → Int32)) (rw0 : (Nat → Int32)) (rl : (Nat → Int32)) (tw : (Nat → Int32)) (tl : (Nat → Int32)) (taken : (Nat → Int32)) (anew : (Nat → Int32)) (hand : (Nat → Int32)) (steps : (Nat → Int32)) (shares : (Nat → Int32)) (choices : (Nat → Int32)) (values : (Nat → Int32)) (place : Int32) (pb : Int32) (R A D : Nat), L ≤ 6 * k + 6 * d + 5 → k + d ≤ 512 → d < n → pu_C R A kinds strengths moved needs forbids st D now → pu_K R A kinds strengths moved needs forbids lk kz kept isK → pu_S 6 40 rz rp rl rw0 → pu_S 4 60 tz tp tl tw → M_L_law_b18 xs L n lf la up lo rz rp st (nI D) lk kz fc tz tp reader_signs reader_size reader_place reader_fault reader_head draft_ropes draft_acts draft_start draft_reached draft_kinds draft_strengths draft_moved draft_needs draft_forbids c (nI R) (nI A) rst rrc kinds strengths moved needs forbids b tried now kept isK rw0 rl tw tl fc taken anew hand steps shares choices values lf la up lo place pb (nI (6 * k)) = some () := by
  intro d
  induction d with
  | zero =>
    intro n k lf la up lo rz rp st lk kz fc tz tp reader_signs reader_size reader_place reader_fault reader_head draft_ropes draft_acts draft_start draft_reached draft_kinds draft_strengths draft_moved draft_needs draft_forbids c rst rrc kinds strengths moved needs forbids b tried now kept isK rw0 rl tw tl taken anew hand steps shares choices values place pb R A D h1 h2 h3 h hz hr ht
    obtain ⟨n, rfl⟩ : ∃ y, n = y + 1 := ⟨n - 1, by omega⟩
    rw [M_L_law_b18]
    refine if_pos ?_
    rw [Int32.lt_iff_toInt_lt, nI_toInt (by omega)]
    show (nI L - nI 6).toInt < _
    rw [pk_sub_toInt (by omega) (by omega)]
    omega
  | succ d ih =>
    intro n k lf la up lo rz rp st lk kz fc tz tp reader_signs reader_size reader_place reader_fault reader_head draft_ropes draft_acts draft_start draft_reached draft_kinds draft_strengths draft_moved draft_needs draft_forbids c rst rrc kinds strengths moved needs forbids b tried now kept isK rw0 rl tw tl taken anew hand steps shares choices values place pb R A D h1 h2 h3 h hz hr ht
    obtain ⟨n, rfl⟩ : ∃ y, n = y + 1 := ⟨n - 1, by omega⟩
    rw [M_L_law_b18]
    by_cases q : L < 6 * k + 6
    · refine if_pos ?_
      rw [Int32.lt_iff_toInt_lt, nI_toInt (by omega)]
      show (nI L - nI 6).toInt < _
      rw [pk_sub_toInt (by omega) (by omega)]
      omega
    refine (if_neg ?_).trans ?_
    · rw [Int32.lt_iff_toInt_lt, nI_toInt (by omega)]
      show ¬ (nI L - nI 6).toInt < _
      rw [pk_sub_toInt (by omega) (by omega)]
      omega
    refine (if_pos (pu_inb (show 6 * k < L by omega) (by omega))).trans ?_
    have ij : ∀ j, j < 6 → inb (nI (6 * k) + nI j) L := fun j hj => by rw [nI_add]; exact pu_inb (by omega) (by omega)
    have i1 : inb (nI (6 * k) + (1 : Int32)) L := ij 1 (by omega)
    have i2 : inb (nI (6 * k) + (2 : Int32)) L := ij 2 (by omega)
    have i3 : inb (nI (6 * k) + (3 : Int32)) L := ij 3 (by omega)
    have i4 : inb (nI (6 * k) + (4 : Int32)) L := ij 4 (by omega)
    have i5 : inb (nI (6 * k) + (5 : Int32)) L := ij 5 (by omega)
    have hk : LK (fun (o_latestFinding_ : Int32) (o_latestAsked_ : Int32) (o_upper_ : Int64) (o_lower_ : Int64) (rows_sizes_ : (Nat → Int32)) (rows_places_ : (Nat → Nat → Int32)) (log_states_ : (Nat → Int64)) (log_size_ : Int32) (log_kept_ : (Nat → Nat → Int64)) (log_keptSizes_ : (Nat → Int32)) (fcounts_c_ : (Nat → Int32)) (texts_sizes_ : (Nat → Int32)) (texts_places_ : (Nat → Nat → Int32)) (reader_signs_ : (Nat → Int32)) (reader_size_ : Int32) (reader_place_ : Int32) (reader_fault_ : Int32) (reader_head_ : Int32) (draft_ropes_ : Int32) (draft_acts_ : Int32) (draft_start_ : Int64) (draft_reached_ : Int32) (draft_kinds_ : (Nat → Int32)) (draft_strengths_ : (Nat → Int32)) (draft_moved_ : (Nat → Int32)) (draft_needs_ : (Nat → Int32)) (draft_forbids_ : (Nat → Int32)) (c_ : (Nat → Nat)) (rig_ropes_ : Int32) (rig_acts_ : Int32) (rig_start_ : Int64) (rig_reached_ : Int32) (rig_kinds_ : (Nat → Int32)) (rig_strengths_ : (Nat → Int32)) (rig_moved_ : (Nat → Int32)) (rig_needs_ : (Nat → Int32)) (rig_forbids_ : (Nat → Int32)) (b_ : (Nat → Nat)) (tried_c_ : (Nat → Int32)) (now_ : (Nat → Int32)) (kept_ : (Nat → Int32)) (isKept_ : (Nat → Int32)) (rows_ : (Nat → Int32)) (rowLong_ : (Nat → Int32)) (texts_ : (Nat → Int32)) (textLong_ : (Nat → Int32)) (found_ : (Nat → Int32)) (taken_ : (Nat → Int32)) (anew_ : (Nat → Int32)) (hand_ : (Nat → Int32)) (steps_ : (Nat → Int32)) (shares_ : (Nat → Int32)) (choices_ : (Nat → Int32)) (values_ : (Nat → Int32)) (latest_ : Int32) (askedIs_ : Int32) (above_ : Int64) (below_ : Int64) (place_ : Int32) (partedBy_ : Int32) (x3_ : Int32) => M_L_law_b18 xs L n o_latestFinding_ o_latestAsked_ o_upper_ o_lower_ rows_sizes_ rows_places_ log_states_ log_size_ log_kept_ log_keptSizes_ fcounts_c_ texts_sizes_ texts_places_ reader_signs_ reader_size_ reader_place_ reader_fault_ reader_head_ draft_ropes_ draft_acts_ draft_start_ draft_reached_ draft_kinds_ draft_strengths_ draft_moved_ draft_needs_ draft_forbids_ c_ rig_ropes_ rig_acts_ rig_start_ rig_reached_ rig_kinds_ rig_strengths_ rig_moved_ rig_needs_ rig_forbids_ b_ tried_c_ now_ kept_ isKept_ rows_ rowLong_ texts_ textLong_ found_ taken_ anew_ hand_ steps_ shares_ choices_ values_ latest_ askedIs_ above_ below_ place_ partedBy_ x3_) (nI (6 * k) + (6 : Int32)) := by
      intro lf la up lo rz rp st lk kz fc tz tp reader_signs reader_size reader_place reader_fault reader_head draft_ropes draft_acts draft_start draft_reached draft_kinds draft_strengths draft_moved draft_needs draft_forbids c rst rrc kinds strengths moved needs forbids b tried now kept isK rw0 rl tw tl taken anew hand steps shares choices values place pb R A D g gz gr gt
      have e6 : nI (6 * k) + (6 : Int32) = nI (6 * (k + 1)) := by rw [show (6 : Int32) = nI 6 from rfl, nI_add, Nat.mul_add]
      rw [e6]
      exact ih n (k + 1) lf la up lo rz rp st lk kz fc tz tp reader_signs reader_size reader_place reader_fault reader_head draft_ropes draft_acts draft_start draft_reached draft_kinds draft_strengths draft_moved draft_needs draft_forbids c rst rrc kinds strengths moved needs forbids b tried now kept isK rw0 rl tw tl taken anew hand steps shares choices values place pb R A D (by omega) (by omega) (by omega) g gz gr gt
    by_cases c0 : ((xs (nI (6 * k)).toNatClampNeg) &&& (63 : Int32)) = (0 : Int32)
    · exact (if_pos c0).trans (lb_0 hk i1 i2 h hz hr ht)
    refine (if_neg c0).trans ?_
    by_cases c1 : ((xs (nI (6 * k)).toNatClampNeg) &&& (63 : Int32)) = (1 : Int32)
    · exact (if_pos c1).trans (lb_1 hk i1 i2 i3 h hz hr ht)
    refine (if_neg c1).trans ?_
    by_cases c2 : ((xs (nI (6 * k)).toNatClampNeg) &&& (63 : Int32)) = (2 : Int32)
    · exact (if_pos c2).trans (lb_2 hk i1 i2 h hz hr ht)
    refine (if_neg c2).trans ?_
    by_cases c3 : ((xs (nI (6 * k)).toNatClampNeg) &&& (63 : Int32)) = (3 : Int32)
    · exact (if_pos c3).trans (lb_3 hk i1 h hz hr ht)
    refine (if_neg c3).trans ?_
    by_cases c4 : ((xs (nI (6 * k)).toNatClampNeg) &&& (63 : Int32)) = (4 : Int32)
    · exact (if_pos c4).trans (lb_4 hk i1 i2 i3 i4 i5 h hz hr ht)
    refine (if_neg c4).trans ?_
    by_cases c5 : ((xs (nI (6 * k)).toNatClampNeg) &&& (63 : Int32)) = (5 : Int32)
    · exact (if_pos c5).trans (lb_5 hk i1 h hz hr ht)
    refine (if_neg c5).trans ?_
    by_cases c6 : ((xs (nI (6 * k)).toNatClampNeg) &&& (63 : Int32)) = (6 : Int32)
    · exact (if_pos c6).trans (lb_6 hk i1 i2 h hz hr ht)
    refine (if_neg c6).trans ?_
    by_cases c7 : ((xs (nI (6 * k)).toNatClampNeg) &&& (63 : Int32)) = (7 : Int32)
    · exact (if_pos c7).trans (lb_7 hk i1 i2 i3 h hz hr ht)
    refine (if_neg c7).trans ?_
    by_cases c8 : ((xs (nI (6 * k)).toNatClampNeg) &&& (63 : Int32)) = (8 : Int32)
    · exact (if_pos c8).trans (lb_8 hk i1 h hz hr ht)
    refine (if_neg c8).trans ?_
    by_cases c9 : ((xs (nI (6 * k)).toNatClampNeg) &&& (63 : Int32)) = (9 : Int32)
    · exact (if_pos c9).trans (lb_9 hk i1 h hz hr ht)
    refine (if_neg c9).trans ?_
    by_cases c10 : ((xs (nI (6 * k)).toNatClampNeg) &&& (63 : Int32)) = (10 : Int32)
    · exact (if_pos c10).trans (lb_10 hk i1 i2 h hz hr ht)
    refine (if_neg c10).trans ?_
    by_cases c11 : ((xs (nI (6 * k)).toNatClampNeg) &&& (63 : Int32)) = (11 : Int32)
    · exact (if_pos c11).trans (lb_11 hk i1 i2 h hz hr ht)
    refine (if_neg c11).trans ?_
    by_cases c12 : ((xs (nI (6 * k)).toNatClampNeg) &&& (63 : Int32)) = (12 : Int32)
    · exact (if_pos c12).trans (lb_12 hk i1 i2 h hz hr ht)
    refine (if_neg c12).trans ?_
    by_cases c13 : ((xs (nI (6 * k)).toNatClampNeg) &&& (63 : Int32)) = (13 : Int32)
    · exact (if_pos c13).trans (lb_13 hk i1 h hz hr ht)
    refine (if_neg c13).trans ?_
    by_cases c14 : ((xs (nI (6 * k)).toNatClampNeg) &&& (63 : Int32)) = (14 : Int32)
    · exact (if_pos c14).trans (lb_14 hk i1 h hz hr ht)
    refine (if_neg c14).trans ?_
    by_cases c15 : ((xs (nI (6 * k)).toNatClampNeg) &&& (63 : Int32)) = (15 : Int32)
    · exact (if_pos c15).trans (lb_15 hk i1 h hz hr ht)
    refine (if_neg c15).trans ?_
    by_cases c16 : ((xs (nI (6 * k)).toNatClampNeg) &&& (63 : Int32)) = (16 : Int32)
    · exact (if_pos c16).trans (lb_16 hk i1 h hz hr ht)
    refine (if_neg c16).trans ?_
    by_cases c17 : ((xs (nI (6 * k)).toNatClampNeg) &&& (63 : Int32)) = (17 : Int32)
    · exact (if_pos c17).trans (lb_17 hk i1 h hz hr ht)
    refine (if_neg c17).trans ?_
    by_cases c18 : ((xs (nI (6 * k)).toNatClampNeg) &&& (63 : Int32)) = (18 : Int32)
    · exact (if_pos c18).trans (lb_18 hk i1 h hz hr ht)
    refine (if_neg c18).trans ?_
    by_cases c19 : ((xs (nI (6 * k)).toNatClampNeg) &&& (63 : Int32)) = (19 : Int32)
    · exact (if_pos c19).trans (lb_19 hk i1 h hz hr ht)
    refine (if_neg c19).trans ?_
    by_cases c20 : ((xs (nI (6 * k)).toNatClampNeg) &&& (63 : Int32)) = (20 : Int32)
    · exact (if_pos c20).trans (lb_20 hk i1 h hz hr ht)
    refine (if_neg c20).trans ?_
    by_cases c21 : ((xs (nI (6 * k)).toNatClampNeg) &&& (63 : Int32)) = (21 : Int32)
    · exact (if_pos c21).trans (lb_21 hk i1 i2 h hz hr ht)
    refine (if_neg c21).trans ?_
    by_cases c22 : ((xs (nI (6 * k)).toNatClampNeg) &&& (63 : Int32)) = (22 : Int32)
    · exact (if_pos c22).trans (lb_22 hk i1 i2 h hz hr ht)
    refine (if_neg c22).trans ?_
    by_cases c23 : ((xs (nI (6 * k)).toNatClampNeg) &&& (63 : Int32)) = (23 : Int32)
    · exact (if_pos c23).trans (lb_23 hk i1 h hz hr ht)
    refine (if_neg c23).trans ?_
    by_cases c24 : ((xs (nI (6 * k)).toNatClampNeg) &&& (63 : Int32)) = (24 : Int32)
    · exact (if_pos c24).trans (lb_24 hk h hz hr ht)
    refine (if_neg c24).trans ?_
    by_cases c25 : ((xs (nI (6 * k)).toNatClampNeg) &&& (63 : Int32)) = (25 : Int32)
    · exact (if_pos c25).trans (lb_25 hk i1 i2 h hz hr ht)
    refine (if_neg c25).trans ?_
    by_cases c26 : ((xs (nI (6 * k)).toNatClampNeg) &&& (63 : Int32)) = (26 : Int32)
    · exact (if_pos c26).trans (lb_26 hk h hz hr ht)
    refine (if_neg c26).trans ?_
    by_cases c27 : ((xs (nI (6 * k)).toNatClampNeg) &&& (63 : Int32)) = (27 : Int32)
    · exact (if_pos c27).trans (lb_27 hk h hz hr ht)
    refine (if_neg c27).trans ?_
    by_cases c28 : ((xs (nI (6 * k)).toNatClampNeg) &&& (63 : Int32)) = (28 : Int32)
    · exact (if_pos c28).trans (lb_28 hk i1 i2 h hz hr ht)
    refine (if_neg c28).trans ?_
    by_cases c29 : ((xs (nI (6 * k)).toNatClampNeg) &&& (63 : Int32)) = (29 : Int32)
    · exact (if_pos c29).trans (lb_29 hk i1 h hz hr ht)
    refine (if_neg c29).trans ?_
    by_cases c30 : ((xs (nI (6 * k)).toNatClampNeg) &&& (63 : Int32)) = (30 : Int32)
    · exact (if_pos c30).trans (lb_30 hk i1 h hz hr ht)
    refine (if_neg c30).trans ?_
    by_cases c31 : ((xs (nI (6 * k)).toNatClampNeg) &&& (63 : Int32)) = (31 : Int32)
    · exact (if_pos c31).trans (lb_31 hk i1 h hz hr ht)
    refine (if_neg c31).trans ?_
    by_cases c32 : ((xs (nI (6 * k)).toNatClampNeg) &&& (63 : Int32)) = (32 : Int32)
    · exact (if_pos c32).trans (lb_32 hk i1 h hz hr ht)
    refine (if_neg c32).trans ?_
    by_cases c33 : ((xs (nI (6 * k)).toNatClampNeg) &&& (63 : Int32)) = (33 : Int32)
    · exact (if_pos c33).trans (lb_33 hk i1 i2 h hz hr ht)
    refine (if_neg c33).trans ?_
    by_cases c34 : ((xs (nI (6 * k)).toNatClampNeg) &&& (63 : Int32)) = (34 : Int32)
    · exact (if_pos c34).trans (lb_34 hk i1 h hz hr ht)
    refine (if_neg c34).trans ?_
    by_cases c35 : ((xs (nI (6 * k)).toNatClampNeg) &&& (63 : Int32)) = (35 : Int32)
    · exact (if_pos c35).trans (lb_35 hk i1 i2 h hz hr ht)
    refine (if_neg c35).trans ?_
    by_cases c36 : ((xs (nI (6 * k)).toNatClampNeg) &&& (63 : Int32)) = (36 : Int32)
    · exact (if_pos c36).trans (lb_36 hk h hz hr ht)
    refine (if_neg c36).trans ?_
    by_cases c37 : ((xs (nI (6 * k)).toNatClampNeg) &&& (63 : Int32)) = (37 : Int32)
    · exact (if_pos c37).trans (lb_37 hk h hz hr ht)
    refine (if_neg c37).trans ?_
    by_cases c38 : ((xs (nI (6 * k)).toNatClampNeg) &&& (63 : Int32)) = (38 : Int32)
    · exact (if_pos c38).trans (lb_38 hk h hz hr ht)
    refine (if_neg c38).trans ?_
    by_cases c39 : ((xs (nI (6 * k)).toNatClampNeg) &&& (63 : Int32)) = (39 : Int32)
    · exact (if_pos c39).trans (lb_39 hk i1 h hz hr ht)
    refine (if_neg c39).trans ?_
    by_cases c40 : ((xs (nI (6 * k)).toNatClampNeg) &&& (63 : Int32)) = (40 : Int32)
    · exact (if_pos c40).trans (lb_40 hk h hz hr ht)
    refine (if_neg c40).trans ?_
    by_cases c41 : ((xs (nI (6 * k)).toNatClampNeg) &&& (63 : Int32)) = (41 : Int32)
    · exact (if_pos c41).trans (lb_41 hk i1 h hz hr ht)
    refine (if_neg c41).trans ?_
    by_cases c42 : ((xs (nI (6 * k)).toNatClampNeg) &&& (63 : Int32)) = (42 : Int32)
    · exact (if_pos c42).trans (lb_42 hk h hz hr ht)
    refine (if_neg c42).trans ?_
    unfold M_L_law_b1332
    exact hk lf la up lo rz rp st lk kz fc tz tp reader_signs reader_size reader_place reader_fault reader_head draft_ropes draft_acts draft_start draft_reached draft_kinds draft_strengths draft_moved draft_needs draft_forbids c rst rrc kinds strengths moved needs forbids b tried now kept isK rw0 rl tw tl taken anew hand steps shares choices values place pb R A D h hz hr ht
