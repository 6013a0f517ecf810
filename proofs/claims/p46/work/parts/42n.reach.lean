/-! PURE PART: the class's search for the fewest deeds -/
def dg (k code j : Nat) : Nat := code / 12 ^ (k - 1 - j) % 12
theorem dg_lt (k code j : Nat) : dg k code j < 12 := Nat.mod_lt _ (by decide)
theorem dg_0 {k d c' : Nat} (hd : d < 12) (hc : c' < 12 ^ k) : dg (k + 1) (d * 12 ^ k + c') 0 = d := by
  unfold dg
  rw [show k + 1 - 1 - 0 = k by omega, Nat.mul_comm d, Nat.mul_add_div (Nat.pow_pos (by decide)), Nat.div_eq_of_lt hc, Nat.add_zero, Nat.mod_eq_of_lt hd]
theorem dg_s {k d c' j : Nat} (hj : j < k) : dg (k + 1) (d * 12 ^ k + c') (j + 1) = dg k c' j := by
  unfold dg
  rw [show k + 1 - 1 - (j + 1) = k - 1 - j by omega]
  have ht : k = (k - 1 - j) + 1 + j := by omega
  generalize k - 1 - j = e at ht ⊢
  have h1 : (12 : Nat) ^ k = 12 ^ e * (12 * 12 ^ j) := by rw [ht, Nat.pow_add, Nat.pow_succ, Nat.mul_assoc]
  have h2 : d * (12 ^ e * (12 * 12 ^ j)) = 12 ^ e * (12 * (12 ^ j * d)) := by ac_rfl
  rw [h1, h2, Nat.mul_add_div (Nat.pow_pos (by decide)), Nat.mul_add_mod]
theorem dg_c {d code : Nat} (h : code < 12 ^ (d + 1)) : code = dg (d + 1) code 0 * 12 ^ d + code % 12 ^ d := by
  have h1 : code / 12 ^ d < 12 := Nat.div_lt_of_lt_mul (by rw [← Nat.pow_succ]; exact h)
  unfold dg
  rw [show d + 1 - 1 - 0 = d by omega, Nat.mod_eq_of_lt h1, Nat.mul_comm]
  exact (Nat.div_add_mod code (12 ^ d)).symm
section
variable {R A : Nat} {kinds strengths moved needs forbids : Nat → Int32} {s : Int64}
theorem ok_s {a k d c' : Nat} (hc : c' < 12 ^ k) : lsOk R kinds strengths moved needs forbids a (k + 1) s (d * 12 ^ k + c') = (lsS R kinds strengths moved s d).elim false (fun s' => lsOk R kinds strengths moved needs forbids a k s' c') := by
  rw [lsOk, Nat.mul_comm d, Nat.mul_add_div (Nat.pow_pos (by decide)), Nat.div_eq_of_lt hc, Nat.add_zero, Nat.mul_add_mod, Nat.mod_eq_of_lt hc]
theorem ok_none {a k d : Nat} (hs : lsS R kinds strengths moved s d = none) {c' : Nat} (h : c' < (d + 1) * 12 ^ k) (h' : ∀ c', c' < d * 12 ^ k → lsOk R kinds strengths moved needs forbids a (k + 1) s c' = false) : lsOk R kinds strengths moved needs forbids a (k + 1) s c' = false := by
  by_cases q : c' < d * 12 ^ k
  · exact h' c' q
  · rw [Nat.succ_mul] at h
    rw [show c' = d * 12 ^ k + (c' - d * 12 ^ k) by omega, ok_s (by omega), hs]; rfl
theorem ok_some {a k d : Nat} {s' : Int64} (hs : lsS R kinds strengths moved s d = some s') (hz : ∀ c', c' < 12 ^ k → lsOk R kinds strengths moved needs forbids a k s' c' = false) {c' : Nat} (h : c' < (d + 1) * 12 ^ k) (h' : ∀ c', c' < d * 12 ^ k → lsOk R kinds strengths moved needs forbids a (k + 1) s c' = false) : lsOk R kinds strengths moved needs forbids a (k + 1) s c' = false := by
  by_cases q : c' < d * 12 ^ k
  · exact h' c' q
  · rw [Nat.succ_mul] at h
    rw [show c' = d * 12 ^ k + (c' - d * 12 ^ k) by omega, ok_s (by omega), hs]
    exact hz _ (by omega)
theorem lsS_no {c : Nat} (h : ¬ (c % 6 < R ∧ M_X5_isFast s (nI (c % 6)) = 1)) : lsS R kinds strengths moved s c = none := by unfold lsS; rw [if_neg h]
theorem lsS_hl {c : Nat} (h1 : c < 6) (h : c % 6 < R) (f : M_X5_isFast s (nI (c % 6)) = 1) : lsS R kinds strengths moved s c = if M_X5_parted (hS R kinds strengths moved s (c % 6) 1) = M_X5_parted s then some (hS R kinds strengths moved s (c % 6) 1) else none := by
  unfold lsS; rw [if_pos ⟨h, f⟩]; simp only [if_pos h1]
theorem lsS_lg {c : Nat} (h1 : ¬ c < 6) (h : c % 6 < R) (f : M_X5_isFast s (nI (c % 6)) = 1) : lsS R kinds strengths moved s c = if M_X5_parted (M_X5_afterLetGo s (nI (c % 6))) = M_X5_parted s then some (M_X5_afterLetGo s (nI (c % 6))) else none := by
  unfold lsS; rw [if_pos ⟨h, f⟩]; simp only [if_neg h1]
theorem rs_noRope (hR : R ≤ 6) {i : Nat} (h : ¬ i < R) (hi : i < 2 ^ 31) : M_X2_isRope (nI R) (nI i) = 0 := by
  rcases rs_rope hR (nI i) with ⟨j, hj, e, _⟩ | ⟨_, e⟩
  · exact absurd ((nI_eq hi (by omega)).mp e ▸ hj) h
  · exact e
theorem b108_s {kr : Int32 → (Nat → Int32) → Int32 → Int64 → Int32 → Int32 → Option (Int32 × Int32 × (Nat → Int32))} {k52 : Int32 → (Nat → Int32) → Int32 → Int64 → Int32 → Int32 → Int32 → Int32 → Option (Int32 × Int32 × (Nat → Int32))}
    {rch : Int32} {q : Nat → Int32} {a len k p d : Nat} (hp : p < 4) (s0 : Int64) :
    M_X3_isReached_b108 (nI R) (nI A) kinds strengths moved needs forbids kr k52 rch q (nI a) s (nI len) (nI (k + 1)) (nI p) (nI d) s0 =
      if M_X5_parted s0 = M_X5_parted s then (kr rch (upd q p (nI d)) (nI a) s0 (nI len) (nI k)).bind (fun r9 => if r9.1 = 0 then k52 r9.2.1 r9.2.2 (nI a) s (nI len) (nI (k + 1)) (nI p) (nI (d + 1)) else some (1, r9.2.1, r9.2.2))
      else k52 rch (upd q p (nI d)) (nI a) s (nI len) (nI (k + 1)) (nI p) (nI (d + 1)) := by
  unfold M_X3_isReached_b108 M_X3_isReached_b149
  rw [if_pos (pu_inb hp (by decide)), nI_clamp (by omega), nI_pred, nI_1]
theorem b52_s {kr : Int32 → (Nat → Int32) → Int32 → Int64 → Int32 → Int32 → Option (Int32 × Int32 × (Nat → Int32))} {n : Nat} {rch : Int32} {q : Nat → Int32} {a len k p d : Nat} (hV : pu_V R A kinds strengths moved needs forbids s) (hd : d < 12) (hp : p < 4) :
    (lsS R kinds strengths moved s d = none → ∃ rch1 q1, (∀ j, j < p → q1 j = q j) ∧ M_X3_isReached_b52 (nI R) (nI A) kinds strengths moved needs forbids kr (n + 1) rch q (nI a) s (nI len) (nI (k + 1)) (nI p) (nI d) = M_X3_isReached_b52 (nI R) (nI A) kinds strengths moved needs forbids kr n rch1 q1 (nI a) s (nI len) (nI (k + 1)) (nI p) (nI (d + 1))) ∧
    (∀ s', lsS R kinds strengths moved s d = some s' → ∃ rch1, M_X3_isReached_b52 (nI R) (nI A) kinds strengths moved needs forbids kr (n + 1) rch q (nI a) s (nI len) (nI (k + 1)) (nI p) (nI d) = (kr rch1 (upd q p (nI d)) (nI a) s' (nI len) (nI k)).bind (fun r9 => if r9.1 = 0 then M_X3_isReached_b52 (nI R) (nI A) kinds strengths moved needs forbids kr n r9.2.1 r9.2.2 (nI a) s (nI len) (nI (k + 1)) (nI p) (nI (d + 1)) else some (1, r9.2.1, r9.2.2))) := by
  obtain ⟨m, h1, h2⟩ := hV
  have hR := h1.1
  have ed : nI d - nI d / (6 : Int32) * (6 : Int32) = nI (d % 6) := pk_rem (d := 6) (by omega) (by decide) (by decide)
  have hm : d % 6 < 6 := Nat.mod_lt _ (by decide)
  rw [M_X3_isReached_b52, if_neg (gN 12 hd), ed]
  by_cases c1 : d % 6 < R
  · rw [rs_isRope hR c1, if_neg n10]
    rcases fast_b (s := s) (i := d % 6) hm with ⟨f1, f2, f3⟩ | f3
    · rw [f3, if_neg n10]
      have key : ∀ (s0 : Int64) (rch0 : Int32), lsS R kinds strengths moved s d = (if M_X5_parted s0 = M_X5_parted s then some s0 else none) →
          (lsS R kinds strengths moved s d = none → ∃ rch1 q1, (∀ j, j < p → q1 j = q j) ∧ M_X3_isReached_b108 (nI R) (nI A) kinds strengths moved needs forbids kr (fun (rg_reached' : Int32) (q_c' : (Nat → Int32)) (x1' : Int32) (x2' : Int64) (x5' : Int32) (x6' : Int32) (x7' : Int32) (x8' : Int32) => M_X3_isReached_b52 (nI R) (nI A) kinds strengths moved needs forbids kr n rg_reached' q_c' x1' x2' x5' x6' x7' x8') rch0 q (nI a) s (nI len) (nI (k + 1)) (nI p) (nI d) s0 = M_X3_isReached_b52 (nI R) (nI A) kinds strengths moved needs forbids kr n rch1 q1 (nI a) s (nI len) (nI (k + 1)) (nI p) (nI (d + 1))) ∧
          (∀ s', lsS R kinds strengths moved s d = some s' → ∃ rch1, M_X3_isReached_b108 (nI R) (nI A) kinds strengths moved needs forbids kr (fun (rg_reached' : Int32) (q_c' : (Nat → Int32)) (x1' : Int32) (x2' : Int64) (x5' : Int32) (x6' : Int32) (x7' : Int32) (x8' : Int32) => M_X3_isReached_b52 (nI R) (nI A) kinds strengths moved needs forbids kr n rg_reached' q_c' x1' x2' x5' x6' x7' x8') rch0 q (nI a) s (nI len) (nI (k + 1)) (nI p) (nI d) s0 = (kr rch1 (upd q p (nI d)) (nI a) s' (nI len) (nI k)).bind (fun r9 => if r9.1 = 0 then M_X3_isReached_b52 (nI R) (nI A) kinds strengths moved needs forbids kr n r9.2.1 r9.2.2 (nI a) s (nI len) (nI (k + 1)) (nI p) (nI (d + 1)) else some (1, r9.2.1, r9.2.2))) := by
        intro s0 rch0 e
        rw [b108_s hp]
        by_cases c3 : M_X5_parted s0 = M_X5_parted s
        · rw [if_pos c3] at e
          rw [if_pos c3, e]
          exact ⟨fun z => absurd z (by simp), fun s' z => ⟨rch0, by rw [Option.some.inj z]⟩⟩
        · rw [if_neg c3] at e
          rw [if_neg c3, e]
          exact ⟨fun _ => ⟨rch0, upd q p (nI d), fun j hj => pu_un (by omega), rfl⟩, fun s' z => absurd z (by simp)⟩
      by_cases c2 : d < 6
      · rw [if_neg (gN 6 c2), show (1 : Int32) = nI 1 from rfl, (hl_H h1 h2 c1 f1 f2 (v := 1) (by omega) (by omega)).1, Option.bind_some]
        exact key _ _ (lsS_hl c2 c1 f3)
      · rw [if_pos (gL 6 (by omega) (by omega))]
        exact key _ _ (lsS_lg c2 c1 f3)
    · rw [f3, if_pos p00]
      have e := lsS_no (R := R) (kinds := kinds) (strengths := strengths) (moved := moved) (s := s) (c := d) (fun z => by rw [f3] at z; exact absurd z.2 (by decide))
      rw [e]
      refine ⟨fun _ => ⟨rch, q, fun _ _ => rfl, ?_⟩, fun s' z => absurd z (by simp)⟩
      unfold M_X3_isReached_b149
      rw [nI_1]
  · rw [rs_noRope hR c1 (by omega), if_pos p00]
    have e := lsS_no (R := R) (kinds := kinds) (strengths := strengths) (moved := moved) (s := s) (c := d) (fun z => c1 z.1)
    rw [e]
    refine ⟨fun _ => ⟨rch, q, fun _ _ => rfl, ?_⟩, fun s' z => absurd z (by simp)⟩
    unfold M_X3_isReached_b149
    rw [nI_1]
end
section
variable {R A : Nat} {kinds strengths moved needs forbids : Nat → Int32} {a len : Nat}
theorem rc_C (ha : a < A) (hlen : len ≤ 4) : ∀ (k rn : Nat) (rch : Int32) (q : Nat → Int32) (s : Int64), k ≤ len → k < rn → pu_V R A kinds strengths moved needs forbids s →
    ∃ v rch' q', M_X3_isReached (nI R) (nI A) kinds strengths moved needs forbids rn rch q (nI a) s (nI len) (nI k) = some (v, rch', q') ∧ (∀ j, j < len - k → q' j = q j) ∧
      ((v = 1 ∧ ∃ code, code < 12 ^ k ∧ lsOk R kinds strengths moved needs forbids a k s code = true ∧ (∀ c', c' < code → lsOk R kinds strengths moved needs forbids a k s c' = false) ∧ ∀ j, j < k → q' (len - k + j) = nI (dg k code j)) ∨
       (v = 0 ∧ ∀ c', c' < 12 ^ k → lsOk R kinds strengths moved needs forbids a k s c' = false)) := by
  intro k
  induction k with
  | zero =>
    intro rn rch q s hk hrn hV
    have hR : R ≤ 6 := by obtain ⟨m, h1, -⟩ := hV; exact h1.1
    obtain ⟨rn, rfl⟩ : ∃ z, rn = z + 1 := ⟨rn - 1, by omega⟩
    rw [M_X3_isReached, if_neg (nI_pos (by omega)), if_neg (pu_nlt (by omega) (by omega) (by omega)), tf_C hV ha (by omega), Option.bind_some]
    by_cases q1 : lack R needs a s &&& lost s = 0 ∧ mu R needs forbids a s ≤ 0
    · rw [if_pos q1, if_pos p00, if_pos (show nI 0 = 0 from rfl)]
      refine ⟨1, rch, q, rfl, fun _ _ => rfl, .inl ⟨rfl, 0, by decide, far_1 hR (by omega), fun c' h => absurd h (by omega), fun j h => absurd h (by omega)⟩⟩
    · rw [if_neg q1, if_neg n10]
      refine ⟨0, rch, q, rfl, fun _ _ => rfl, .inr ⟨rfl, fun c' _ => ?_⟩⟩
      cases h : lsOk R kinds strengths moved needs forbids a 0 s c'
      · rfl
      · exact absurd (far_C 0 s c' a hV h) q1
  | succ k ih0 =>
    intro rn rch q s hk hrn hV
    obtain ⟨rn, rfl⟩ : ∃ z, rn = z + 1 := ⟨rn - 1, by omega⟩
    rw [M_X3_isReached, if_neg (nI_pos (by omega)), if_neg (pu_nlt (by omega) (by omega) (by omega)), tf_C hV ha (by omega), Option.bind_some]
    by_cases q1 : lack R needs a s &&& lost s = 0 ∧ mu R needs forbids a s ≤ k + 1
    · rw [if_pos q1, if_pos p00, if_neg (eN 0 (by omega) (by omega)), pk_sub hk, if_pos (tL 4 (by omega))]
      exact pu_lp (fun n d (z : Int32 × (Nat → Int32)) => ∃ v rch' q', M_X3_isReached_b52 (nI R) (nI A) kinds strengths moved needs forbids (fun (rg_reached' : Int32) (q_c' : (Nat → Int32)) (x1' : Int32) (x2' : Int64) (x5' : Int32) (x6' : Int32) => M_X3_isReached (nI R) (nI A) kinds strengths moved needs forbids rn rg_reached' q_c' x1' x2' x5' x6') n z.1 z.2 (nI a) s (nI len) (nI (k + 1)) (nI (len - (k + 1))) (nI d) = some (v, rch', q') ∧ (∀ j, j < len - (k + 1) → q' j = q j) ∧
          ((v = 1 ∧ ∃ code, code < 12 ^ (k + 1) ∧ lsOk R kinds strengths moved needs forbids a (k + 1) s code = true ∧ (∀ c', c' < code → lsOk R kinds strengths moved needs forbids a (k + 1) s c' = false) ∧ ∀ j, j < k + 1 → q' (len - (k + 1) + j) = nI (dg (k + 1) code j)) ∨
           (v = 0 ∧ ∀ c', c' < 12 ^ (k + 1) → lsOk R kinds strengths moved needs forbids a (k + 1) s c' = false)))
        (fun d z => (∀ j, j < len - (k + 1) → z.2 j = q j) ∧ ∀ c', c' < d * 12 ^ k → lsOk R kinds strengths moved needs forbids a (k + 1) s c' = false) 12 (by omega)
        (fun n z ⟨hz1, hz2⟩ => by
          rw [M_X3_isReached_b52, if_pos (gL 12 (by omega) (by omega))]
          exact ⟨0, z.1, z.2, rfl, hz1, .inr ⟨rfl, fun c' h => hz2 c' (by rw [Nat.pow_succ, Nat.mul_comm] at h; exact h)⟩⟩)
        (fun n d z hd ⟨hz1, hz2⟩ ih => by
          obtain ⟨g1, g2⟩ := b52_s (kr := fun (rg_reached' : Int32) (q_c' : (Nat → Int32)) (x1' : Int32) (x2' : Int64) (x5' : Int32) (x6' : Int32) => M_X3_isReached (nI R) (nI A) kinds strengths moved needs forbids rn rg_reached' q_c' x1' x2' x5' x6') (n := n) (rch := z.1) (q := z.2) (a := a) (len := len) (k := k) (p := len - (k + 1)) hV hd (by omega)
          cases hs : lsS R kinds strengths moved s d with
          | none =>
            obtain ⟨rch1, q1, e1, e2⟩ := g1 hs
            rw [e2]
            exact ih (rch1, q1) ⟨fun j hj => by show q1 j = q j; rw [e1 j hj, hz1 j hj], fun c' hc' => ok_none hs hc' hz2⟩
          | some s' =>
            obtain ⟨rch1, e2⟩ := g2 s' hs
            obtain ⟨v, rch2, q2, e3, e4, e5⟩ := ih0 rn rch1 (upd z.2 (len - (k + 1)) (nI d)) s' (by omega) (by omega) (V_step hV hs)
            have e6 : ∀ j, j < len - (k + 1) → q2 j = q j := fun j hj => by rw [e4 j (by omega), pu_un (by omega), hz1 j hj]
            rcases e5 with ⟨rfl, code, c1, c2, c3, c4⟩ | ⟨rfl, c1⟩
            · refine ⟨1, rch2, q2, ?_, e6, .inl ⟨rfl, d * 12 ^ k + code, ?_, ?_, ?_, ?_⟩⟩
              · rw [e2, e3]; rfl
              · have : (d + 1) * 12 ^ k ≤ 12 * 12 ^ k := Nat.mul_le_mul_right _ (by omega)
                rw [Nat.succ_mul] at this
                rw [Nat.pow_succ, Nat.mul_comm (12 ^ k)]
                omega
              · rw [ok_s c1, hs]; exact c2
              · intro c' hc'
                by_cases w : c' < d * 12 ^ k
                · exact hz2 c' w
                · rw [show c' = d * 12 ^ k + (c' - d * 12 ^ k) by omega, ok_s (by omega), hs]
                  exact c3 _ (by omega)
              · intro j hj
                cases j with
                | zero => rw [dg_0 hd c1, Nat.add_zero, e4 _ (by omega), pu_us]
                | succ j => rw [dg_s (by omega), show len - (k + 1) + (j + 1) = len - k + j by omega, c4 j (by omega)]
            · rw [e2, e3]
              exact ih (rch2, q2) ⟨e6, fun c' hc' => ok_some hs c1 hc' hz2⟩)
        (rch, q) ⟨fun _ _ => rfl, fun c' h => absurd h (by omega)⟩
    · rw [if_neg q1, if_neg n10]
      refine ⟨0, rch, q, rfl, fun _ _ => rfl, .inr ⟨rfl, fun c' _ => ?_⟩⟩
      cases h : lsOk R kinds strengths moved needs forbids a (k + 1) s c'
      · rfl
      · exact absurd (far_C (k + 1) s c' a hV h) q1
/-- what the class finds: the first code of the least length, or none up to four -/
def lsAt (R : Nat) (kinds strengths moved needs forbids : Nat → Int32) (a : Nat) (s : Int64) (L code : Nat) : Prop :=
  code < 12 ^ L ∧ lsOk R kinds strengths moved needs forbids a L s code = true ∧ (∀ c', c' < code → lsOk R kinds strengths moved needs forbids a L s c' = false) ∧ ∀ L' c', L' < L → c' < 12 ^ L' → lsOk R kinds strengths moved needs forbids a L' s c' = false
theorem fw_C (ha : a < A) (rch : Int32) (q : Nat → Int32) {s : Int64} (hV : pu_V R A kinds strengths moved needs forbids s) :
    ∃ v rch' q', M_X3_fewest (nI R) (nI A) kinds strengths moved needs forbids rch q (nI a) s = some (v, rch', q') ∧
      ((∃ L code, L ≤ 4 ∧ v = nI L ∧ lsAt R kinds strengths moved needs forbids a s L code ∧ ∀ j, j < L → q' j = nI (dg L code j)) ∨
       (v = -9 ∧ ∀ L' c', L' < 5 → c' < 12 ^ L' → lsOk R kinds strengths moved needs forbids a L' s c' = false)) :=
  pu_lp (fun n L (z : Int32 × (Nat → Int32)) => ∃ v rch' q', M_X3_fewest_b3 (nI R) (nI A) kinds strengths moved needs forbids n z.1 z.2 (nI a) s (nI L) = some (v, rch', q') ∧
      ((∃ L code, L ≤ 4 ∧ v = nI L ∧ lsAt R kinds strengths moved needs forbids a s L code ∧ ∀ j, j < L → q' j = nI (dg L code j)) ∨
       (v = -9 ∧ ∀ L' c', L' < 5 → c' < 12 ^ L' → lsOk R kinds strengths moved needs forbids a L' s c' = false)))
    (fun L _ => ∀ L' c', L' < L → c' < 12 ^ L' → lsOk R kinds strengths moved needs forbids a L' s c' = false) 5 (by omega)
    (fun n z hz => by
      rw [M_X3_fewest_b3, if_pos (rL 4 (by omega) (by omega))]
      exact ⟨_, _, _, rfl, .inr ⟨rfl, hz⟩⟩)
    (fun n L z hL hz ih => by
      obtain ⟨v, rch2, q2, e3, e4, e5⟩ := rc_C (len := L) ha (by omega) L 10 z.1 z.2 s (by omega) (by omega) hV
      rw [M_X3_fewest_b3, if_neg (rN 4 (by omega)), e3, Option.bind_some]
      rcases e5 with ⟨rfl, code, c1, c2, c3, c4⟩ | ⟨rfl, c1⟩
      · refine ⟨nI L, rch2, q2, if_neg n10, .inl ⟨L, code, by omega, rfl, ⟨c1, c2, c3, hz⟩, fun j hj => ?_⟩⟩
        have := c4 j hj
        rwa [Nat.sub_self, Nat.zero_add] at this
      · rw [if_pos p00, nI_1]
        refine ih (rch2, q2) (fun L' c' h1 h2 => ?_)
        by_cases w : L' = L
        · subst w; exact c1 c' h2
        · exact hz L' c' (by omega) h2)
    (rch, q) (fun L' c' h => absurd h (by omega))
end
