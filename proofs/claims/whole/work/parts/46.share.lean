/-! PURE PART: a strain shared -/
theorem pu_S_put {N M : Nat} {sizes : Nat → Int32} {places : Nat → Nat → Int32} {r : Nat} {rl rw rw' q : Nat → Int32} (h : pu_S N M sizes places rl rw) (hr : r < N) {z : Nat} (hz : z ≤ M) (h1 : ∀ i, i < z → q i = rw' (M * r + i)) (h2 : ∀ j, (j < M * r ∨ M * r + z ≤ j) → rw' j = rw j) : pu_S N M (upd sizes r (nI z)) (upd2 places r q) (upd rl r (nI z)) rw' := by
  intro r' hr'
  by_cases e : r' = r
  · subst e
    rw [pu_us, pu_us]
    exact ⟨rfl, .inr ⟨z, hz, rfl, fun i hi => by rw [pu_2s, h1 i hi]⟩⟩
  · rw [pu_un e, pu_un e]
    refine ⟨(h r' hr').1, (h r' hr').2.imp id (fun ⟨z', a, b, c⟩ => ⟨z', a, b, fun i hi => ?_⟩)⟩
    rw [pu_2n e, h2 _ ?_, c i hi]
    rcases Nat.lt_or_gt_of_ne e with q | q
    · have := Nat.mul_le_mul_left M (show r' + 1 ≤ r by omega)
      rw [Nat.mul_add] at this
      omega
    · have := Nat.mul_le_mul_left M (show r + 1 ≤ r' by omega)
      rw [Nat.mul_add] at this
      omega
section
variable {R A D : Nat} {kinds strengths moved needs forbids now : Nat → Int32} {st : Nat → Int64}
variable {sz rl rw : Nat → Int32} {pl : Nat → Nat → Int32}
theorem rm_C (h : pu_C R A kinds strengths moved needs forbids st D now) {r : Nat} (hr : r < 6) {q sh : Nat → Int32} (hq : ∀ i, i < R → q i = sh i) (k62 : (Nat → Int32) → (Nat → Int32) → (Nat → Int32) → Int32 → Int32 → Int32 → Option (Int32 × (Nat → Int32) × (Nat → Int32) × (Nat → Int32))) (left : Int32) :
    ∃ b, (b = -9 ∨ ∃ i, i < R ∧ b = nI i) ∧ M_X6_roomiest (upd sz r (nI R)) (upd2 pl r q) st (nI D) (nI R) kinds strengths (nI r) = some b ∧
      M_X7_share_b81 now k62 x_fuel rw rl sh (nI r) left (-9) 0 0 = M_X7_share_b188 now k62 rw rl sh (nI r) left b (if b = -9 then 0 else 1) := by
  obtain ⟨h1, h2, h3, h4, h5⟩ := h
  have hR := h1.1
  have e0 := h1.2.2.1
  unfold M_X6_roomiest
  rw [now_C h3, Option.bind_some]
  exact pu_lp (fun n k (s : Int32 × Int32) => ∃ b, (b = -9 ∨ ∃ i, i < R ∧ b = nI i) ∧ M_X6_roomiest_b18 (upd sz r (nI R)) (upd2 pl r q) st (nI D) (nI R) kinds strengths n (nI r) (st D) s.1 s.2 (nI k) = some b ∧
      M_X7_share_b81 now k62 n rw rl sh (nI r) left s.1 s.2 (nI k) = M_X7_share_b188 now k62 rw rl sh (nI r) left b (if b = -9 then 0 else 1))
    (fun k s => (s.1 = -9 ∨ ∃ i, i < R ∧ s.1 = nI i) ∧ 0 ≤ s.2) R (by omega)
    (fun n s hs => ⟨s.1, hs.1, by rw [M_X6_roomiest_b18, if_pos (pu_le (by omega) (by omega) (Nat.le_refl R))], by
      rw [M_X7_share_b81, e0, if_pos (pu_le (by omega) (by omega) (Nat.le_refl R))]
      by_cases w : s.1 = -9
      · rw [if_pos w, if_pos w]
      · rw [if_neg w, if_neg w]⟩)
    (fun n k s hk hs ih => by
      obtain ⟨v, hv, b1, b2⟩ := rs_holds h1 hk
      have stay := ih s hs
      rw [M_X6_roomiest_b18, if_neg (nI_ge hk (by omega)), b1, Option.bind_some, pu_get hr (by decide) (show R ≤ 40 by omega) (by decide) pu_us hk, Option.bind_some, pu_2s, M_X7_share_b81, e0, if_neg (nI_ge hk (by omega)), b2, Option.bind_some, if_pos (iO 76 (by omega)), cO 76 (by omega), if_pos (pu_inb (by omega) (by omega)), nI_clamp (show k < 2 ^ 31 by omega), h2.1 k hk, rs_fast h2 (by omega), hq k hk]
      unfold M_X7_share_b136 M_X7_share_b152 M_X7_share_b168 M_X6_roomiest_b83
      simp only [nI_1]
      by_cases w : M_X5_isFast (st D) (nI k) = 0
      · simp only [if_pos w, if_pos hs.2]; exact stay
      · simp only [if_neg w]
        by_cases w2 : ((nI v - M_X5_strain (st D) (nI k)) - sh k) ≤ s.2
        · simp only [if_pos w2]; exact stay
        · simp only [if_neg w2]
          refine ih (nI k, (nI v - M_X5_strain (st D) (nI k)) - sh k) ⟨.inr ⟨k, hk, rfl⟩, ?_⟩
          have a := hs.2
          rw [Int32.le_iff_toInt_le] at w2 a ⊢
          show (0 : Int32).toInt ≤ (nI v - M_X5_strain (st D) (nI k) - sh k).toInt
          omega)
    (-9, 0) ⟨.inl rfl, by decide⟩
theorem sf_C (h : pu_C R A kinds strengths moved needs forbids st D now) {r : Nat} (hr : r < 6) (sh : Nat → Int32) (left : Int32) :
    ∃ rw', M_X7_share_b212 now rw rl sh (nI r) left = some (left, rw', upd rl r (nI R), sh) ∧ (∀ i, i < R → sh i = rw' (40 * r + i)) ∧ ∀ j, (j < 40 * r ∨ 40 * r + R ≤ j) → rw' j = rw j := by
  have hR := h.1.1
  have e0 := h.1.2.2.1
  unfold M_X7_share_b212
  rw [if_pos (pu_inb hr (by decide)), nI_clamp (by omega), e0]
  exact pu_lp (fun n k x => ∃ rw', M_X7_share_b227 now n x (upd rl r (nI R)) sh (nI r) left (nI k) = some (left, rw', upd rl r (nI R), sh) ∧ (∀ i, i < R → sh i = rw' (40 * r + i)) ∧ ∀ j, (j < 40 * r ∨ 40 * r + R ≤ j) → rw' j = rw j)
    (fun k x => (∀ i, i < k → sh i = x (40 * r + i)) ∧ ∀ j, (j < 40 * r ∨ 40 * r + R ≤ j) → x j = rw j) R (by omega)
    (fun n x hx => ⟨x, by rw [M_X7_share_b227, e0, if_pos (pu_le (by omega) (by omega) (Nat.le_refl R))], hx⟩)
    (fun n k x hk hx ih => by
      rw [M_X7_share_b227, e0, if_neg (nI_ge hk (by omega)), if_pos (pu_inb (by omega) (by decide)), pu_e40, if_pos (pu_inb (by omega) (by decide)), nI_clamp (by omega), nI_clamp (by omega), nI_1]
      refine ih _ ⟨fun i hi => ?_, fun j hj => by rw [pu_un (by omega)]; exact hx.2 j hj⟩
      by_cases e : i = k
      · subst e; rw [pu_us]
      · rw [pu_un (by omega)]; exact hx.1 i (by omega))
    rw ⟨fun i hi => absurd hi (by omega), fun _ _ => rfl⟩
theorem p_share (h : pu_C R A kinds strengths moved needs forbids st D now) (hS : pu_S 6 40 sz pl rl rw) (sh : Nat → Int32) (x1 x2 : Int32) :
    ∃ v sz' pl' rl' rw' sh', M_X6_share st (nI D) (nI R) kinds strengths sz pl x1 x2 = some (v, sz', pl') ∧ M_X7_share now rw rl sh x1 x2 = some (v, rw', rl', sh') ∧ pu_S 6 40 sz' pl' rl' rw' := by
  have hR := h.1.1
  have e0 := h.1.2.2.1
  unfold M_X6_share M_X7_share M_X2_isEmpty
  rcases in_0N 60 (by decide) 60 (by decide) x1 with ⟨v, hv, rfl, e⟩ | ⟨q, e⟩
  · rw [e, if_neg n10, if_neg (nI_pos (by omega)), if_neg (rN 60 hv)]
    rcases pu_numR x2 with ⟨r, hr, rfl, h1, h2⟩ | ⟨h1, h2⟩
    · rw [h1, h2, if_neg n10, if_neg n10, e0]
      by_cases q : R = 0
      · subst q
        exact ⟨_, _, _, _, _, _, rfl, rfl, hS⟩
      rw [if_neg (eN 0 q (by omega)), if_neg (eN 0 q (by omega)), if_pos p00]
      obtain ⟨q0, m1, m2⟩ := pu_make (N := 6) (M := 40) (sizes := sz) (places := pl) hr (by decide) (z := R) (by omega) (by decide) (most := 40) (blank := 0) rfl
      rw [m1, Option.bind_some]
      have z0 : ∃ s0, M_X7_share_b41 now x_fuel rw rl sh (nI r) (nI v) 1 0 = M_X7_share_b62 now x_fuel rw rl s0 (nI r) (nI v) 1 ∧ ∀ i, i < 6 → s0 i = 0 :=
        pu_lp (fun n k x => ∃ s0, M_X7_share_b41 now n rw rl x (nI r) (nI v) 1 (nI k) = M_X7_share_b62 now x_fuel rw rl s0 (nI r) (nI v) 1 ∧ ∀ i, i < 6 → s0 i = 0)
          (fun k x => ∀ i, i < k → x i = 0) 6 (by omega)
          (fun n x hx => ⟨x, by rw [M_X7_share_b41, if_pos (show (6 : Int32) ≤ nI 6 by decide)], hx⟩)
          (fun n k x hk hx ih => by
            rw [M_X7_share_b41, if_neg (gN 6 hk), if_pos (pu_inb (by omega) (by decide)), nI_clamp (by omega), nI_1]
            refine ih _ (fun i hi => ?_)
            by_cases e : i = k
            · subst e; rw [pu_us]
            · rw [pu_un e]; exact hx i (by omega))
          sh (fun i hi => absurd hi (by omega))
      obtain ⟨s0, z1, z2⟩ := z0
      rw [z1]
      exact pu_loop (fun n k (s : (Nat → Nat → Int32) × (Nat → Int32)) => n + k = 1000000 → ∃ ans sz' pl' rl' rw' sh', M_X6_share_b53 st (nI D) (nI R) kinds strengths n (upd sz r (nI R)) s.1 (nI v) (nI r) (nI k) = some (ans, sz', pl') ∧ M_X7_share_b62 now n rw rl s.2 (nI r) (nI (v - k)) 1 = some (ans, rw', rl', sh') ∧ pu_S 6 40 sz' pl' rl' rw')
        (fun k s => ∃ q, s.1 = upd2 pl r q ∧ ∀ i, i < R → q i = s.2 i) v
        (fun n s ⟨q, hs, hq⟩ _ => by
          obtain ⟨rw', f1, f2, f3⟩ := sf_C (rw := rw) (rl := rl) h hr s.2 (nI (v - v))
          refine ⟨0, upd sz r (nI R), s.1, upd rl r (nI R), rw', s.2, by rw [M_X6_share_b53, if_pos (pu_le (by omega) (by omega) (Nat.le_refl v))], ?_, ?_⟩
          · rw [M_X7_share_b62, Nat.sub_self, if_pos (show nI 0 ≤ 0 by decide)]
            rw [Nat.sub_self] at f1
            exact f1
          · rw [hs]
            exact pu_S_put hS hr (by omega) (fun i hi => (hq i hi).trans (f2 i hi)) f3)
        (fun n k s hk ⟨q, hs, hq⟩ ih hn => by
          obtain ⟨b, hb, c1, c2⟩ := rm_C (sz := sz) (pl := pl) (rw := rw) (rl := rl) h hr hq (fun (rows' : (Nat → Int32)) (rowLong' : (Nat → Int32)) (shares' : (Nat → Int32)) (x2' : Int32) (x3' : Int32) (x4' : Int32) => M_X7_share_b62 now n rows' rowLong' shares' x2' x3' x4') (nI (v - k))
          rw [M_X6_share_b53, if_neg (nI_ge hk (by omega)), hs, c1, Option.bind_some, M_X7_share_b62, if_neg (nI_nle (by omega) (by omega)), if_neg n10, c2]
          rcases hb with hb | ⟨i, hi, hb⟩
          · subst hb
            rw [if_pos rfl, if_pos rfl]
            unfold M_X7_share_b188 M_X7_share_b209
            rw [if_pos p00]
            obtain ⟨rw', f1, f2, f3⟩ := sf_C (rw := rw) (rl := rl) h hr s.2 (nI (v - k))
            obtain ⟨n', rfl⟩ : ∃ n', n = n' + 1 := ⟨n - 1, by omega⟩
            refine ⟨nI (v - k), upd sz r (nI R), upd2 pl r q, upd rl r (nI R), rw', s.2, ?_, ?_, ?_⟩
            · rw [pk_sub (by omega)]
            · show M_X7_share_b62 now (n' + 1) rw rl s.2 (nI r) (nI (v - k)) 0 = _
              rw [M_X7_share_b62, if_neg (nI_nle (by omega) (by omega)), if_pos p00, f1]
            · exact pu_S_put hS hr (by omega) (fun i hi => (hq i hi).trans (f2 i hi)) f3
          · subst hb
            rw [if_neg (pu_nI9 (by omega)), if_neg (pu_nI9 (by omega)), pu_get hr (by decide) (show R ≤ 40 by omega) (by decide) pu_us hi, Option.bind_some, pu_set hr (by decide) (show R ≤ 40 by omega) (by decide) pu_us hi, Option.bind_some, pu_22, pu_2s]
            unfold M_X7_share_b188 M_X7_share_b209
            rw [if_neg n10, if_pos (pu_inb (by omega) (by decide)), nI_clamp (by omega), nI_1]
            have em : nI (v - k) + (-1) = nI (v - (k + 1)) := by
              obtain ⟨w, hw⟩ : ∃ w, v - k = w + 1 := ⟨v - k - 1, by omega⟩
              rw [hw, pk_m1]; congr 1; omega
            rw [em]
            refine ih (upd2 pl r (upd q i (q i + 1)), upd s.2 i (s.2 i + 1)) ⟨_, rfl, fun j hj => ?_⟩ (by omega)
            show upd q i (q i + 1) j = upd s.2 i (s.2 i + 1) j
            by_cases e : j = i
            · subst e; rw [pu_us, pu_us, hq j hj]
            · rw [pu_un e, pu_un e, hq j hj])
        v x_fuel 0 (upd2 pl r q0, s0) (by omega) (by unfold x_fuel; omega) ⟨q0, rfl, fun i hi => (m2 i hi).trans (z2 i (by omega)).symm⟩ (by unfold x_fuel; omega)
    · rw [h1, h2, if_pos p00, if_pos p00]
      exact ⟨_, _, _, _, _, _, rfl, rfl, hS⟩
  · rw [e, if_pos p00]
    refine ⟨-1, sz, pl, rl, rw, sh, ?_, rfl, hS⟩
    by_cases q0 : x1 < 0
    · rw [if_pos q0]
    · rw [if_neg q0, if_pos]
      obtain ⟨w, hw, rfl⟩ := nI_of q0
      have := q.resolve_left q0
      by_cases w1 : w ≤ 60
      · exact absurd (pu_le (by omega) (by omega) w1) this
      · exact rL 60 (by omega) hw
end
