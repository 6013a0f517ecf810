/-! PURE PART: counts and the digest -/
def cs (kz : Nat → Int32) : Nat → Int32
  | 0 => 0
  | k + 1 => if kz k = -1 then cs kz k else cs kz k + 1
theorem of1 : ∀ k, k < 6 → M_X6_isOf (nI k) 1 = M_X7_isOf (nI k) 1 ∧ M_X6_isOf (nI k) 3 = M_X7_isOf (nI k) 3 := by decide +kernel
theorem p_findings (fc : Nat → Int32) (x1 : Int32) : ∃ v, M_X6_findings fc x1 = some v ∧ M_X7_findings fc x1 = some v := by
  unfold M_X6_findings M_X7_findings
  rcases in_1N 5 (by decide) 5 (by decide) x1 with ⟨v, hv0, hv, rfl, e⟩ | ⟨q, e⟩
  · rw [e, if_neg n10, if_neg (tN 1 hv0 (by omega)), if_pos (aL 5 hv), if_pos (pu_inb (by omega) (by decide))]
    exact ⟨_, rfl, rfl⟩
  · rw [e, if_pos p00]
    refine ⟨-1, ?_, rfl⟩
    by_cases q0 : x1 < 1
    · rw [if_pos q0]
    · rw [if_neg q0, if_neg (show ¬ x1 ≤ (5 : Int32) from q.resolve_left q0)]
theorem ct_C (N M : Nat) (hN : N < 1000) (hM : M < 1000) {sz rl rw : Nat → Int32} {pl : Nat → Nat → Int32} (hS : pu_S N M sz pl rl rw) (b4 : Nat → Int32 → Int32 → Option Int32)
    (h0 : ∀ n x, b4 (n + 1) x (nI N) = some x) (h1 : ∀ n k x, k < N → b4 (n + 1) x (nI k) = if 0 ≤ rl k then b4 n (x + 1) (nI (k + 1)) else b4 n (x + 0) (nI (k + 1))) : ∃ v, M_X4_countThere N M sz = some v ∧ b4 x_fuel 0 0 = some v :=
  pu_lp (fun n k (x : Int32) => ∃ v, M_X4_countThere_b4 N M sz n x (nI k) = some v ∧ b4 n x (nI k) = some v)
    (fun _ _ => True) N (by omega)
    (fun n x _ => ⟨x, by rw [M_X4_countThere_b4]; exact if_pos (pu_le (by omega) (by omega) (Nat.le_refl N)), h0 n x⟩)
    (fun n k x hk _ ih => by
      have e : ¬ Int32.ofNat N ≤ nI k := nI_ge hk (by omega)
      rw [M_X4_countThere_b4, if_neg e, h1 n k x hk]
      unfold M_X4_countThere_b24
      obtain ⟨a, b | ⟨z, hz, b, c⟩⟩ := hS k hk
      · rw [pu_there0 hk (by omega) b, Option.bind_some, if_pos p00, a, b, if_neg pu_n0, nI_1, show x + (0 : Int32) = x from by simp]
        exact ih x trivial
      · rw [pu_there1 hk (by omega) (by omega) b, Option.bind_some, if_neg n10, a, b, if_pos (pu_nn z (by omega)), nI_1]
        exact ih _ trivial)
    0 trivial
section
variable {R A D : Nat} {kinds strengths moved needs forbids now : Nat → Int32} {st : Nat → Int64}
variable {rsz rrl rrw tsz trl trw kept isK kz : Nat → Int32} {rpl tpl : Nat → Nat → Int32} {ks : Nat → Nat → Int64}
theorem co_C (h : pu_RS R A kinds strengths moved needs forbids now) (w : Int32) (hw : ∀ k, k < 6 → M_X6_isOf (nI k) w = M_X7_isOf (nI k) w) : ∃ v, M_X2_countOf (nI R) kinds w = some v ∧ M_X7_manyOf now w = some v := by
  have hR := h.1
  have e0 := h.2.2.1
  exact pu_lp (fun n k (x : Int32) => ∃ v, M_X2_countOf_b4 (nI R) kinds n w x (nI k) = some v ∧ M_X7_manyOf_b4 now n w x (nI k) = some v)
    (fun _ _ => True) R (by omega)
    (fun n x _ => ⟨x, by rw [M_X2_countOf_b4, if_pos (pu_le (by omega) (by omega) (Nat.le_refl R))], by rw [M_X7_manyOf_b4, e0, if_pos (pu_le (by omega) (by omega) (Nat.le_refl R))]⟩)
    (fun n k x hk _ ih => by
      obtain ⟨a1, ⟨kk, hkk, a2⟩, -⟩ := h.2.2.2.2.1 k hk
      rw [M_X2_countOf_b4, M_X7_manyOf_b4, e0, if_neg (nI_ge hk (by omega)), if_neg (nI_ge hk (by omega)), rs_kind hR hk, Option.bind_some, if_pos (iO 2 (by omega)), cO 2 (by omega), a1, a2, ← hw kk hkk]
      unfold M_X2_countOf_b27 M_X7_manyOf_b35
      rw [nI_1, show x + (0 : Int32) = x from by simp]
      by_cases q : M_X6_isOf (nI kk) w = 0
      · rw [if_pos q, if_pos q]; exact ih x trivial
      · rw [if_neg q, if_neg q]; exact ih _ trivial)
    0 trivial
theorem al_C (h : pu_RS R A kinds strengths moved needs forbids now) {s : Int64} (hC' : pu_CD R s now) : ∃ v, M_X5_allStrains s = some v ∧ M_X7_allStrain now = some v := by
  have hR := h.1
  have e0 := h.2.2.1
  have tail : ∀ (n : Nat) (x : Int32), 100 < n → M_X5_allStrains_b4 n s x (nI R) = some x := by
    intro n x hn
    exact pu_loop (fun n k (y : Int32) => R ≤ k → M_X5_allStrains_b4 n s y (nI k) = some x)
      (fun k y => y = x) 6
      (fun n y hy _ => by rw [M_X5_allStrains_b4, if_pos (show (6 : Int32) ≤ nI 6 by decide), hy])
      (fun n k y hk hy ih hk2 => by
        rw [M_X5_allStrains_b4, if_neg (gN 6 hk), hC'.2.1 k hk2 hk, nI_1]
        exact ih _ (by rw [hy]; simp) (by omega))
      (6 - R) n R x (by omega) (by omega) rfl (Nat.le_refl R)
  exact pu_loop (fun n k (x : Int32) => n + k = 1000000 → ∃ v, M_X5_allStrains_b4 n s x (nI k) = some v ∧ M_X7_allStrain_b4 now n x (nI k) = some v)
    (fun _ _ => True) R
    (fun n x _ hn => ⟨x, tail (n + 1) x (by omega), by rw [M_X7_allStrain_b4, e0, if_pos (pu_le (by omega) (by omega) (Nat.le_refl R))]⟩)
    (fun n k x hk _ ih hn => by
      rw [M_X5_allStrains_b4, M_X7_allStrain_b4, e0, if_neg (gN 6 (by omega)), if_neg (nI_ge hk (by omega)), if_pos (iO 76 (by omega)), cO 76 (by omega), hC'.1 k hk, nI_1]
      exact ih _ trivial (by omega))
    R x_fuel 0 0 (by omega) (by unfold x_fuel; omega) trivial (by unfold x_fuel; omega)
theorem ck_C (hz : pu_K R A kinds strengths moved needs forbids ks kz kept isK) : ∃ v, M_X0_countKept kz = some v ∧ (if isK 0 = 0 then M_X7_counted_b168 now isK rrl trl 0 else M_X7_counted_b168 now isK rrl trl 1) = some v := by
  have hk : ∀ k, k < 3 → (isK k = 0 ∧ kz k = -1) ∨ (¬ isK k = 0 ∧ ¬ kz k = -1) := by
    intro k hk
    rcases hz k hk with ⟨a, b⟩ | ⟨a, d, b, c⟩
    · exact .inl ⟨a, b⟩
    · exact .inr ⟨by rw [a]; exact n10, by rw [b]; exact pu_nI1 (by have := c.2.2.1; omega)⟩
  have e : M_X0_countKept kz = some (cs kz 3) :=
    pu_lp (fun n k (x : Int32) => M_X0_countKept_b4 kz n x (nI k) = some (cs kz 3))
      (fun k x => x = cs kz k) 3 (by omega)
      (fun n x hx => by rw [M_X0_countKept_b4, if_pos (show (3 : Int32) ≤ nI 3 by decide), hx])
      (fun n k x hk hx ih => by
        rw [M_X0_countKept_b4, if_neg (gN 3 hk), if_pos (pu_inb hk (by omega)), nI_clamp (by omega)]
        unfold M_X0_countKept_b22
        rw [nI_1]
        by_cases q : kz k = -1
        · rw [if_pos q]; exact ih _ (by rw [hx, cs, if_pos q])
        · rw [if_neg q]; exact ih _ (by rw [hx, cs, if_neg q]))
      0 rfl
  refine ⟨cs kz 3, e, ?_⟩
  unfold M_X7_counted_b168 M_X7_counted_b182
  rw [cs, cs, cs, cs]
  rcases hk 0 (by omega) with ⟨a0, b0⟩ | ⟨a0, b0⟩ <;> rcases hk 1 (by omega) with ⟨a1, b1⟩ | ⟨a1, b1⟩ <;> rcases hk 2 (by omega) with ⟨a2, b2⟩ | ⟨a2, b2⟩ <;> simp only [a0, a1, a2, b0, b1, b2, if_true, if_false] <;> rfl
theorem cd_C (h : pu_C R A kinds strengths moved needs forbids st D now) (hr : pu_S 6 40 rsz rpl rrl rrw) (ht : pu_S 4 60 tsz tpl trl trw) (hz : pu_K R A kinds strengths moved needs forbids ks kz kept isK) {w : Nat} (hw : w ≤ 12) :
    ∃ v, M_X6_count rsz st (nI D) kz tsz (nI R) (nI A) kinds (nI w) = some v ∧ M_X7_counted now isK rrl trl (nI w) = some v := by
  obtain ⟨h1, h2, h3, h4, h5⟩ := h
  have hR := h1.1
  unfold M_X6_count M_X7_counted
  rw [if_neg (nI_pos (by omega)), if_pos (aL 12 hw), now_C h3, Option.bind_some, st_tE, tt_eq h1 h2, h1.2.2.1, h1.2.2.2.1, h4, h2.2.2.1, h2.2.2.2.1, h2.2.2.2.2]
  obtain ⟨v7, a7, b7⟩ := al_C h1 h2
  obtain ⟨v8, a8, b8⟩ := co_C h1 1 (fun k hk => (of1 k hk).1)
  obtain ⟨v9, a9, b9⟩ := co_C h1 3 (fun k hk => (of1 k hk).2)
  obtain ⟨va, aa, ba⟩ := ct_C 6 40 (by decide) (by decide) hr (fun n x y => M_X7_manyThere_6_b4 rrl n 6 x y)
    (fun n x => by rw [M_X7_manyThere_6_b4, if_pos (show (6 : Int32) ≤ nI 6 by decide)])
    (fun n k x hk => by
      rw [M_X7_manyThere_6_b4, if_neg (gN 6 hk), if_pos (pu_inb hk (by decide)), nI_clamp (by omega)]
      unfold M_X7_manyThere_6_b21
      rw [nI_1])
  obtain ⟨vb, ab, bb⟩ := ct_C 4 60 (by decide) (by decide) ht (fun n x y => M_X7_manyThere_4_b4 trl n 4 x y)
    (fun n x => by rw [M_X7_manyThere_4_b4, if_pos (show (4 : Int32) ≤ nI 4 by decide)])
    (fun n k x hk => by
      rw [M_X7_manyThere_4_b4, if_neg (gN 4 hk), if_pos (pu_inb hk (by decide)), nI_clamp (by omega)]
      unfold M_X7_manyThere_4_b21
      rw [nI_1])
  obtain ⟨vc, ac, bc⟩ := ck_C (now := now) (rrl := rrl) (trl := trl) hz
  unfold M_X7_manyThere_6 M_X7_manyThere_4
  rw [a7, b7, a8, b8, a9, b9, aa, ab, ac, bc, show M_X7_manyThere_6_b4 rrl x_fuel 6 0 0 = some va from ba, show M_X7_manyThere_4_b4 trl x_fuel 4 0 0 = some vb from bb]
  have hc : w = 0 ∨ w = 1 ∨ w = 2 ∨ w = 3 ∨ w = 4 ∨ w = 5 ∨ w = 6 ∨ w = 7 ∨ w = 8 ∨ w = 9 ∨ w = 10 ∨ w = 11 ∨ w = 12 := by omega
  rcases hc with c | c | c | c | c | c | c | c | c | c | c | c | c <;> subst c <;> exact ⟨_, rfl, rfl⟩
theorem p_count (h : pu_C R A kinds strengths moved needs forbids st D now) (hr : pu_S 6 40 rsz rpl rrl rrw) (ht : pu_S 4 60 tsz tpl trl trw) (hz : pu_K R A kinds strengths moved needs forbids ks kz kept isK) (x1 : Int32) :
    ∃ v, M_X6_count rsz st (nI D) kz tsz (nI R) (nI A) kinds x1 = some v ∧ M_X7_count now isK rrl trl x1 = some v := by
  rcases in_0N 12 (by decide) 12 (by decide) x1 with ⟨w, hw, rfl, e⟩ | ⟨q, e⟩
  · obtain ⟨v, k1, k2⟩ := cd_C h hr ht hz hw
    unfold M_X7_count
    rw [e, if_neg n10, k1, k2]
    exact ⟨_, rfl, rfl⟩
  · unfold M_X7_count M_X6_count
    rw [e, if_pos p00]
    refine ⟨-1, ?_, rfl⟩
    by_cases q0 : x1 < 0
    · rw [if_pos q0]
    · rw [if_neg q0, if_neg (show ¬ x1 ≤ (12 : Int32) from q.resolve_left q0)]
theorem dgR (hr : pu_S 6 40 rsz rpl rrl rrw) (h : Int64) : ∃ h', M_X4_digestFrom 6 40 rsz rpl h = some h' ∧ M_X7_digest_b182 now kept isK rrw rrl trw trl x_fuel h 0 = M_X7_digest_b255 now kept isK rrw rrl trw trl x_fuel h' 0 :=
  pu_lp (fun n k (x : Int64) => ∃ h', M_X4_digestFrom_b5 6 40 rsz rpl n x (nI k) = some h' ∧ M_X7_digest_b182 now kept isK rrw rrl trw trl n x (nI k) = M_X7_digest_b255 now kept isK rrw rrl trw trl x_fuel h' 0)
    (fun _ _ => True) 6 (by omega)
    (fun n x _ => ⟨x, by rw [M_X4_digestFrom_b5]; exact if_pos (by decide), by rw [M_X7_digest_b182, if_pos (show (6 : Int32) ≤ nI 6 by decide)]⟩)
    (fun n k x hk _ ih => by
      have e : ¬ Int32.ofNat 6 ≤ nI k := nI_ge (b := 6) hk (by omega)
      rw [M_X4_digestFrom_b5, if_neg e, pu_size hk (by decide), Option.bind_some, M_X7_digest_b182, if_neg (gN 6 hk), if_pos (pu_inb hk (by decide)), nI_clamp (by omega)]
      obtain ⟨a, b | ⟨z, hz, b, c⟩⟩ := hr k hk
      · rw [a, b]
        have e1 : ∀ kc y, M_X4_digestFrom_b32 6 40 rsz rpl kc x_fuel y (nI k) 0 = kc y (nI (k + 1)) := by
          intro kc y
          show M_X4_digestFrom_b32 6 40 rsz rpl kc (999999 + 1) y (nI k) 0 = _
          rw [M_X4_digestFrom_b32, pu_size hk (by decide), Option.bind_some, b, if_pos (by decide), nI_1]
        have e2 : ∀ kc y, M_X7_digest_b207 now kept isK rrw rrl trw trl kc x_fuel y (nI k) 0 = kc y (nI (k + 1)) := by
          intro kc y
          show M_X7_digest_b207 now kept isK rrw rrl trw trl kc (999999 + 1) y (nI k) 0 = _
          rw [M_X7_digest_b207, if_pos (pu_inb hk (by decide)), nI_clamp (by omega), a, b, if_pos (by decide), nI_1]
        rw [e1, e2]
        exact ih _ trivial
      · rw [a, b]
        have key : ∀ kc kr y, ∃ y', M_X4_digestFrom_b32 6 40 rsz rpl kc x_fuel y (nI k) 0 = kc y' (nI (k + 1)) ∧ M_X7_digest_b207 now kept isK rrw rrl trw trl kr x_fuel y (nI k) 0 = kr y' (nI (k + 1)) := by
          intro kc kr y
          exact pu_lp (fun n i (y : Int64) => ∃ y', M_X4_digestFrom_b32 6 40 rsz rpl kc n y (nI k) (nI i) = kc y' (nI (k + 1)) ∧ M_X7_digest_b207 now kept isK rrw rrl trw trl kr n y (nI k) (nI i) = kr y' (nI (k + 1)))
            (fun _ _ => True) z (by omega)
            (fun n y _ => ⟨y, by rw [M_X4_digestFrom_b32, pu_size hk (by decide), Option.bind_some, b, if_pos (pu_le (by omega) (by omega) (Nat.le_refl z)), nI_1], by rw [M_X7_digest_b207, if_pos (pu_inb hk (by decide)), nI_clamp (by omega), a, b, if_pos (pu_le (by omega) (by omega) (Nat.le_refl z)), nI_1]⟩)
            (fun n i y hi _ ih2 => by
              rw [M_X4_digestFrom_b32, pu_size hk (by decide), Option.bind_some, b, if_neg (nI_ge hi (by omega)), pu_get hk (by decide) hz (by decide) b hi, Option.bind_some, M_X7_digest_b207, if_pos (pu_inb hk (by decide)), nI_clamp (show k < 2 ^ 31 by omega), a, b, if_neg (nI_ge hi (by omega)), pu_e40, if_pos (pu_inb (by omega) (by decide)), nI_clamp (show 40 * k + i < 2 ^ 31 by omega), c i hi, nI_1]
              exact ih2 _ trivial)
            y trivial
        obtain ⟨y', k1, k2⟩ := key (fun (x3' : Int64) (x5' : Int32) => M_X4_digestFrom_b5 6 40 rsz rpl n x3' x5') (fun (x1' : Int64) (x4' : Int32) => M_X7_digest_b182 now kept isK rrw rrl trw trl n x1' x4') (((31 : Int64) * x) + (nI z).toInt64)
        rw [k1, k2]
        exact ih _ trivial)
    h trivial
theorem dgT (hr : pu_S 4 60 tsz tpl trl trw) (h : Int64) : ∃ h', M_X4_digestFrom 4 60 tsz tpl h = some h' ∧ M_X7_digest_b255 now kept isK rrw rrl trw trl x_fuel h 0 = some h' :=
  pu_lp (fun n k (x : Int64) => ∃ h', M_X4_digestFrom_b5 4 60 tsz tpl n x (nI k) = some h' ∧ M_X7_digest_b255 now kept isK rrw rrl trw trl n x (nI k) = some h')
    (fun _ _ => True) 4 (by omega)
    (fun n x _ => ⟨x, by rw [M_X4_digestFrom_b5]; exact if_pos (by decide), by rw [M_X7_digest_b255, if_pos (show (4 : Int32) ≤ nI 4 by decide)]⟩)
    (fun n k x hk _ ih => by
      have e : ¬ Int32.ofNat 4 ≤ nI k := nI_ge (b := 4) hk (by omega)
      rw [M_X4_digestFrom_b5, if_neg e, pu_size hk (by decide), Option.bind_some, M_X7_digest_b255, if_neg (gN 4 hk), if_pos (pu_inb hk (by decide)), nI_clamp (by omega)]
      obtain ⟨a, b | ⟨z, hz, b, c⟩⟩ := hr k hk
      · rw [a, b]
        have e1 : ∀ kc y, M_X4_digestFrom_b32 4 60 tsz tpl kc x_fuel y (nI k) 0 = kc y (nI (k + 1)) := by
          intro kc y
          show M_X4_digestFrom_b32 4 60 tsz tpl kc (999999 + 1) y (nI k) 0 = _
          rw [M_X4_digestFrom_b32, pu_size hk (by decide), Option.bind_some, b, if_pos (by decide), nI_1]
        have e2 : ∀ kc y, M_X7_digest_b279 now kept isK rrw rrl trw trl kc x_fuel y (nI k) 0 = kc y (nI (k + 1)) := by
          intro kc y
          show M_X7_digest_b279 now kept isK rrw rrl trw trl kc (999999 + 1) y (nI k) 0 = _
          rw [M_X7_digest_b279, if_pos (pu_inb hk (by decide)), nI_clamp (by omega), a, b, if_pos (by decide), nI_1]
        rw [e1, e2]
        exact ih _ trivial
      · rw [a, b]
        have key : ∀ kc kr y, ∃ y', M_X4_digestFrom_b32 4 60 tsz tpl kc x_fuel y (nI k) 0 = kc y' (nI (k + 1)) ∧ M_X7_digest_b279 now kept isK rrw rrl trw trl kr x_fuel y (nI k) 0 = kr y' (nI (k + 1)) := by
          intro kc kr y
          exact pu_lp (fun n i (y : Int64) => ∃ y', M_X4_digestFrom_b32 4 60 tsz tpl kc n y (nI k) (nI i) = kc y' (nI (k + 1)) ∧ M_X7_digest_b279 now kept isK rrw rrl trw trl kr n y (nI k) (nI i) = kr y' (nI (k + 1)))
            (fun _ _ => True) z (by omega)
            (fun n y _ => ⟨y, by rw [M_X4_digestFrom_b32, pu_size hk (by decide), Option.bind_some, b, if_pos (pu_le (by omega) (by omega) (Nat.le_refl z)), nI_1], by rw [M_X7_digest_b279, if_pos (pu_inb hk (by decide)), nI_clamp (by omega), a, b, if_pos (pu_le (by omega) (by omega) (Nat.le_refl z)), nI_1]⟩)
            (fun n i y hi _ ih2 => by
              rw [M_X4_digestFrom_b32, pu_size hk (by decide), Option.bind_some, b, if_neg (nI_ge hi (by omega)), pu_get hk (by decide) hz (by decide) b hi, Option.bind_some, M_X7_digest_b279, if_pos (pu_inb hk (by decide)), nI_clamp (show k < 2 ^ 31 by omega), a, b, if_neg (nI_ge hi (by omega)), pu_e60, if_pos (pu_inb (by omega) (by decide)), nI_clamp (show 60 * k + i < 2 ^ 31 by omega), c i hi, nI_1]
              exact ih2 _ trivial)
            y trivial
        obtain ⟨y', k1, k2⟩ := key (fun (x3' : Int64) (x5' : Int32) => M_X4_digestFrom_b5 4 60 tsz tpl n x3' x5') (fun (x1' : Int64) (x4' : Int32) => M_X7_digest_b255 now kept isK rrw rrl trw trl n x1' x4') (((31 : Int64) * x) + (nI z).toInt64)
        rw [k1, k2]
        exact ih _ trivial)
    h trivial
theorem p_digest (h : pu_C R A kinds strengths moved needs forbids st D now) (hr : pu_S 6 40 rsz rpl rrl rrw) (ht : pu_S 4 60 tsz tpl trl trw) (hz : pu_K R A kinds strengths moved needs forbids ks kz kept isK) :
    ∃ v, M_X6_digest rsz rpl st (nI D) kz tsz tpl (nI R) (nI A) kinds strengths moved needs forbids = some v ∧ M_X7_digest now kept isK rrw rrl trw trl = some v := by
  have h1 := h.1
  have h2 := h.2.1
  have hR := h1.1
  have hA := h1.2.1
  have e0 := h1.2.2.1
  have e1 := h1.2.2.2.1
  -- kept courts, rows, texts
  have s4 : ∀ x : Int64, ∃ v, M_X6_digest_b133 rsz rpl st (nI D) kz tsz tpl (nI R) (nI A) kinds strengths moved needs forbids x_fuel x 0 = some v ∧ M_X7_digest_b132 now kept isK rrw rrl trw trl x_fuel x 0 = some v := by
    intro x
    exact pu_lp (fun n k (x : Int64) => ∃ v, M_X6_digest_b133 rsz rpl st (nI D) kz tsz tpl (nI R) (nI A) kinds strengths moved needs forbids n x (nI k) = some v ∧ M_X7_digest_b132 now kept isK rrw rrl trw trl n x (nI k) = some v)
      (fun _ _ => True) 3 (by omega)
      (fun n x _ => by
        obtain ⟨a, a1, a2⟩ := dgR (now := now) (kept := kept) (isK := isK) (trw := trw) (trl := trl) hr x
        obtain ⟨b, b1, b2⟩ := dgT (now := now) (kept := kept) (isK := isK) (rrw := rrw) (rrl := rrl) ht a
        rw [M_X6_digest_b133, if_pos (show (3 : Int32) ≤ nI 3 by decide), M_X7_digest_b132, if_pos (show (3 : Int32) ≤ nI 3 by decide), a1, Option.bind_some, b1, a2, b2]
        exact ⟨_, rfl, rfl⟩)
      (fun n k x hk _ ih => by
        rw [M_X6_digest_b133, if_neg (gN 3 hk), M_X7_digest_b132, if_neg (gN 3 hk), kp_z hz hk, Option.bind_some, if_pos (pu_inb hk (by decide)), nI_clamp (show k < 2 ^ 31 by omega), show ((85 : Int32) * nI k) + (35 : Int32) = nI (85 * k + 35) from e85 k 35, if_pos (pu_inb (by omega) (by decide)), nI_clamp (show 85 * k + 35 < 2 ^ 31 by omega)]
        unfold M_X7_digest_b170
        rw [nI_1]
        rcases hz k hk with ⟨c1, c2⟩ | ⟨c1, d, c2, c3⟩
        · rw [c1, c2, if_pos p00]; exact ih _ trivial
        · have e35 : kept (85 * k + 35) = nI d := c3.2.2.2.1
          rw [c1, c2, if_neg n10, e35]; exact ih _ trivial)
      x trivial
  -- acts
  have s3 : ∀ (x : Int64) (y : Int32), ∃ v, M_X6_digest_b98 rsz rpl st (nI D) kz tsz tpl (nI R) (nI A) kinds strengths moved needs forbids x_fuel x y 0 = some v ∧ M_X7_digest_b98 now kept isK rrw rrl trw trl x_fuel x y 0 = some v := by
    intro x y
    exact pu_lp (fun n k (x : Int64) => ∃ v, M_X6_digest_b98 rsz rpl st (nI D) kz tsz tpl (nI R) (nI A) kinds strengths moved needs forbids n x y (nI k) = some v ∧ M_X7_digest_b98 now kept isK rrw rrl trw trl n x y (nI k) = some v)
      (fun _ _ => True) A (by omega)
      (fun n x _ => by
        rw [M_X6_digest_b98, if_pos (pu_le (by omega) (by omega) (Nat.le_refl A)), M_X7_digest_b98, e1, if_pos (pu_le (by omega) (by omega) (Nat.le_refl A))]
        exact s4 x)
      (fun n k x hk _ ih => by
        rw [M_X6_digest_b98, if_neg (nI_ge hk (by omega)), M_X7_digest_b98, e1, if_neg (nI_ge hk (by omega)), nI_1]
        exact ih _ trivial)
      x trivial
  -- ropes
  have s2 : ∀ x : Int64, ∃ v, M_X6_digest_b33 rsz rpl st (nI D) kz tsz tpl (nI R) (nI A) kinds strengths moved needs forbids x_fuel x 0 = some v ∧ M_X7_digest_b33 now kept isK rrw rrl trw trl x_fuel x 0 = some v := by
    intro x
    exact pu_lp (fun n k (x : Int64) => ∃ v, M_X6_digest_b33 rsz rpl st (nI D) kz tsz tpl (nI R) (nI A) kinds strengths moved needs forbids n x (nI k) = some v ∧ M_X7_digest_b33 now kept isK rrw rrl trw trl n x (nI k) = some v)
      (fun _ _ => True) R (by omega)
      (fun n x _ => by
        rw [M_X6_digest_b33, if_pos (pu_le (by omega) (by omega) (Nat.le_refl R)), M_X7_digest_b33, e0, if_pos (pu_le (by omega) (by omega) (Nat.le_refl R)), now_C h.2.2.1, Option.bind_some, lw_A h1 h2, Option.bind_some, tt_eq h1 h2, Option.bind_some, (lw_C h1 (fun j hj q => tt_all h1 h2 hj q)).2.1, Option.bind_some]
        exact s3 x _)
      (fun n k x hk _ ih => by
        rw [M_X6_digest_b33, if_neg (nI_ge hk (by omega)), M_X7_digest_b33, e0, if_neg (nI_ge hk (by omega))]
        exact pu_lp (fun n' w (x : Int64) => ∃ v, M_X6_digest_b47 rsz rpl st (nI D) kz tsz tpl (nI R) (nI A) kinds strengths moved needs forbids (fun (x1' : Int64) (x3' : Int32) => M_X6_digest_b33 rsz rpl st (nI D) kz tsz tpl (nI R) (nI A) kinds strengths moved needs forbids n x1' x3') n' x (nI k) (nI w) = some v ∧ M_X7_digest_b46 now kept isK rrw rrl trw trl (fun (x1' : Int64) (x3' : Int32) => M_X7_digest_b33 now kept isK rrw rrl trw trl n x1' x3') n' x (nI k) (nI w) = some v)
          (fun _ _ => True) 6 (by omega)
          (fun n' x _ => by
            rw [M_X6_digest_b47, if_pos (show (5 : Int32) < nI 6 by decide), M_X7_digest_b46, if_pos (show (6 : Int32) ≤ nI 6 by decide), nI_1]
            exact ih x trivial)
          (fun n' w x hw _ ih2 => by
            obtain ⟨v, k1, k2⟩ := told_C h hk (nI w)
            rw [M_X6_digest_b47, if_neg (rN 5 (by omega)), M_X7_digest_b46, if_neg (gN 6 hw), k1, k2, Option.bind_some, Option.bind_some, nI_1]
            exact ih2 _ trivial)
          x trivial)
      x trivial
  exact pu_lp (fun n k (x : Int64) => ∃ v, M_X6_digest_b6 rsz rpl st (nI D) kz tsz tpl (nI R) (nI A) kinds strengths moved needs forbids n x (nI k) = some v ∧ M_X7_digest_b6 now kept isK rrw rrl trw trl n x (nI k) = some v)
    (fun _ _ => True) 13 (by omega)
    (fun n x _ => by
      rw [M_X6_digest_b6, if_pos (show (12 : Int32) < nI 13 by decide), M_X7_digest_b6, if_pos (show (13 : Int32) ≤ nI 13 by decide)]
      exact s2 x)
    (fun n k x hk _ ih => by
      obtain ⟨v, k1, k2⟩ := cd_C h hr ht hz (w := k) (by omega)
      rw [M_X6_digest_b6, if_neg (rN 12 (by omega)), M_X7_digest_b6, if_neg (gN 13 hk), k1, k2, Option.bind_some, Option.bind_some, nI_1]
      exact ih _ trivial)
    17 trivial
end
