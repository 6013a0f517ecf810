/-! PURE PART: by what came on -/
theorem aN' (N : Nat) {a : Nat} (h : a < N) (hN : N < 2 ^ 31 := by decide) : ¬ (OfNat.ofNat N : Int32) ≤ nI a := gN N h hN
theorem gq_eq : ∀ s, s < 64 → ∀ n, n < 21 → M_X6_greatestPart (nI s) (nI n) = M_X7_greatestPart (nI s) (nI n) := by decide +kernel
theorem gp_v : ∀ s, s < 64 → ∀ n, n < 21 → ∃ g, g < 7 ∧ M_X7_greatestPart (nI s) (nI n) = some (nI g) := by decide +kernel
section
variable {R A D : Nat} {kinds strengths moved needs forbids now : Nat → Int32} {st : Nat → Int64}
variable {sz rl rw fc : Nat → Int32} {pl : Nat → Nat → Int32} {lf : Int32}
theorem pr_C (x : Int32) (hS : pu_S 6 40 sz pl rl rw) : (∃ v lf' fc', ¬ v = 0 ∧ M_X6_refusalOfPairs sz pl lf fc x = some (v, lf', fc') ∧ M_X7_refusesPairs rw rl fc lf x = some (v, fc', lf')) ∨
    ∃ r e, r < 6 ∧ x = nI r ∧ e ≤ 8 ∧ sz r = nI (2 * e) ∧ rl r = nI (2 * e) ∧ (∀ i, i < 2 * e → pl r i = rw (40 * r + i) ∧ ∃ v, v < 100 ∧ rw (40 * r + i) = nI v) ∧ M_X6_refusalOfPairs sz pl lf fc x = some (0, lf, fc) ∧ M_X7_refusesPairs rw rl fc lf x = some (0, fc, lf) := by
  unfold M_X6_refusalOfPairs M_X7_refusesPairs
  rcases pu_missR (lf := lf) (fc := fc) x hS with ⟨h1, h2, h3⟩ | ⟨r, hr, rfl, h1, h2, ⟨a, b, h3⟩ | ⟨z, hz, a, b, c, h3⟩⟩
  · refine .inl ⟨-1, lf, fc, by decide, ?_, ?_⟩
    · rw [h3]; rfl
    · rw [h2]; exact if_pos rfl
  · refine .inl ⟨-3, _, _, by decide, by rw [h3]; rfl, ?_⟩
    rw [h2, if_neg n10, if_pos (pu_inb hr (by decide)), nI_clamp (by omega), b, if_neg pu_n0, show (1 : Int32) = nI 1 from rfl, pu_g (by decide)]
    rfl
  · have e5 : M_X6_refusalOfPairs_b37 sz pl lf fc = some (-3, nI 5, upd fc 5 (fc 5 + 1)) := by
      unfold M_X6_refusalOfPairs_b37
      rw [show (5 : Int32) = nI 5 from rfl, pu_f (by decide) (by decide)]; rfl
    have f5 : M_X7_refusesPairs_b46 rw rl fc lf = some (-3, upd fc 5 (fc 5 + 1), nI 5) := by
      unfold M_X7_refusesPairs_b46
      rw [show (5 : Int32) = nI 5 from rfl, pu_g (by decide)]; rfl
    have hm : nI z - nI z / (2 : Int32) * (2 : Int32) = nI (z % 2) := pk_rem (d := 2) (by omega) (by omega) (by omega)
    rw [h3, h2, if_neg n10, if_pos (pu_inb hr (by decide)), nI_clamp (by omega), b, if_pos (pu_nn z (by omega)), Option.bind_some, if_pos p00, pu_size hr (by decide), a, Option.bind_some, hm, e5, f5]
    by_cases q1 : z ≤ 16
    · rw [if_neg (rN 16 q1), if_pos (aL 16 q1)]
      by_cases q2 : z % 2 = 0
      · rw [q2, if_pos (show nI 0 = 0 from rfl), if_pos (show nI 0 = 0 from rfl)]
        have key : (∃ v lf' fc', ¬ v = 0 ∧ M_X6_refusalOfPairs_b46 sz pl x_fuel lf fc (nI r) (nI z) 0 = some (v, lf', fc') ∧ M_X7_refusesPairs_b54 rw rl x_fuel fc lf (nI r) 0 = some (v, fc', lf')) ∨
            ((∀ i, i < z → ∃ v, v < 100 ∧ rw (40 * r + i) = nI v) ∧ M_X6_refusalOfPairs_b46 sz pl x_fuel lf fc (nI r) (nI z) 0 = some (0, lf, fc) ∧ M_X7_refusesPairs_b54 rw rl x_fuel fc lf (nI r) 0 = some (0, fc, lf)) :=
          pu_lp (fun n k (_ : Unit) => (∃ v lf' fc', ¬ v = 0 ∧ M_X6_refusalOfPairs_b46 sz pl n lf fc (nI r) (nI z) (nI k) = some (v, lf', fc') ∧ M_X7_refusesPairs_b54 rw rl n fc lf (nI r) (nI k) = some (v, fc', lf')) ∨
            ((∀ i, i < z → ∃ v, v < 100 ∧ rw (40 * r + i) = nI v) ∧ M_X6_refusalOfPairs_b46 sz pl n lf fc (nI r) (nI z) (nI k) = some (0, lf, fc) ∧ M_X7_refusesPairs_b54 rw rl n fc lf (nI r) (nI k) = some (0, fc, lf)))
            (fun k _ => ∀ i, i < k → ∃ v, v < 100 ∧ rw (40 * r + i) = nI v) z (by omega)
            (fun n _ hx => .inr ⟨hx, by rw [M_X6_refusalOfPairs_b46, if_pos (pu_le (by omega) (by omega) (Nat.le_refl z))], by rw [M_X7_refusesPairs_b54, if_pos (pu_inb hr (by decide)), nI_clamp (by omega), b, if_pos (pu_le (by omega) (by omega) (Nat.le_refl z))]⟩)
            (fun n k _ hk hx ih => by
              have e3 : M_X6_refusalOfPairs_b80 sz pl lf fc = some (-3, nI 3, upd fc 3 (fc 3 + 1)) := by
                unfold M_X6_refusalOfPairs_b80
                rw [show (3 : Int32) = nI 3 from rfl, pu_f (by decide) (by decide)]; rfl
              rw [M_X6_refusalOfPairs_b46, M_X7_refusesPairs_b54, if_neg (nI_ge hk (by omega)), pu_get hr (by decide) hz (by decide) a hk, Option.bind_some, Option.bind_some, if_pos (pu_inb hr (by decide)), nI_clamp (show r < 2 ^ 31 by omega), b, if_neg (nI_ge hk (by omega)), pu_e40, if_pos (pu_inb (by omega) (by decide)), nI_clamp (show 40 * r + k < 2 ^ 31 by omega), nI_1, c k hk, e3, show M_X7_finds fc lf 3 = some (-3, upd fc 3 (fc 3 + 1), nI 3) from pu_g (by decide)]
              rcases in_0N 99 (by decide) 99 (by decide) (rw (40 * r + k)) with ⟨v, hv, ev, e⟩ | ⟨q, e⟩
              · rw [e, if_neg n10, ev, if_neg (nI_pos (by omega)), if_pos (aL 99 hv)]
                refine ih () (fun i hi => ?_)
                by_cases w : i = k
                · subst w; exact ⟨v, by omega, ev⟩
                · exact hx i (by omega)
              · rw [e, if_pos p00]
                refine .inl ⟨-3, _, _, by decide, ?_, rfl⟩
                by_cases q0 : rw (40 * r + k) < 0
                · rw [if_pos q0]
                · rw [if_neg q0, if_neg (show ¬ rw (40 * r + k) ≤ (99 : Int32) from q.resolve_left q0)])
            () (fun i hi => absurd hi (by omega))
        rcases key with ⟨v, lf', fc', k1, k2, k3⟩ | ⟨k1, k2, k3⟩
        · exact .inl ⟨v, lf', fc', k1, k2, k3⟩
        · obtain ⟨e, he⟩ : ∃ e, z = 2 * e := ⟨z / 2, by omega⟩
          subst he
          exact .inr ⟨r, e, hr, rfl, by omega, a, b, fun i hi => ⟨c i hi, k1 i hi⟩, k2, k3⟩
      · have : z % 2 = 1 := by omega
        rw [this, if_neg (show ¬ nI 1 = 0 by decide), if_neg (show ¬ nI 1 = 0 by decide)]
        exact .inl ⟨-3, _, _, by decide, rfl, rfl⟩
    · rw [if_pos (rL 16 (by omega) (by omega)), if_neg (aN 16 (by omega) (by omega)), ite_self]
      exact .inl ⟨-3, _, _, by decide, rfl, rfl⟩
theorem kb_C {r e : Nat} (hr : r < 6) (he : e ≤ 8) (a : sz r = nI (2 * e)) (b : rl r = nI (2 * e)) (c : ∀ i, i < 2 * e → pl r i = rw (40 * r + i) ∧ ∃ v, v < 100 ∧ rw (40 * r + i) = nI v) :
    ∃ s, s < 64 ∧ M_X6_kindsThatFit sz pl (nI r) = some (nI s) ∧ M_X7_kindsBy rw rl (nI r) = some (nI s) :=
  pu_lp (fun n k x => ∃ s, s < 64 ∧ M_X6_kindsThatFit_b4 sz pl n (nI r) x (nI k) = some (nI s) ∧ M_X7_kindsBy_b4 rw rl n (nI r) x (nI k) = some (nI s))
    (fun k x => ∀ j, k ≤ j → j < 32 → bt x j = false) 6 (by omega)
    (fun n x hx => by
      obtain ⟨s, h1, h2⟩ := b_s64 hx
      exact ⟨s, h1, by rw [M_X6_kindsThatFit_b4, if_pos (show (6 : Int32) ≤ nI 6 by decide), h2], by rw [M_X7_kindsBy_b4, if_pos (show (6 : Int32) ≤ nI 6 by decide), h2]⟩)
    (fun n k x hk hx ih => by
      rw [M_X6_kindsThatFit_b4, M_X7_kindsBy_b4, if_neg (gN 6 hk), if_neg (gN 6 hk)]
      have no := ih x (fun j h1 h2 => hx j (by omega) h2)
      have yes := ih (x ||| ((1 : Int32) <<< (nI k &&& 31))) (fun j h1 h2 => by rw [b_or, hx j (by omega) h2, b_sb (by omega) h2, decide_eq_false (by omega)]; rfl)
      have e00 : (x ||| 0 : Int32) = x := b_ext (fun j hj => by rw [b_or, b_0, Bool.or_false])
      exact pu_lp (fun n' p (x4 : Int32) => ∃ s, s < 64 ∧ M_X6_kindsThatFit_b16 sz pl (fun (x1' : Int32) (x2' : Int32) (x3' : Int32) => M_X6_kindsThatFit_b4 sz pl n x1' x2' x3') n' (nI r) x (nI k) x4 (nI (2 * p)) = some (nI s) ∧ M_X7_kindsBy_b16 rw rl (fun (x1' : Int32) (x2' : Int32) (x3' : Int32) => M_X7_kindsBy_b4 rw rl n x1' x2' x3') n' (nI r) x (nI k) x4 (nI (2 * p)) = some (nI s))
        (fun p x4 => x4 = 0 ∨ x4 = 1) e (by omega)
        (fun n' x4 h4 => by
          rw [M_X6_kindsThatFit_b16, M_X7_kindsBy_b16, pu_size hr (by decide), a, Option.bind_some, if_pos (pu_inb hr (by decide)), nI_clamp (by omega), b, nI_1, if_pos (pu_le (by omega) (by omega) (by omega)), if_pos (pu_le (by omega) (by omega) (by omega))]
          unfold M_X6_kindsThatFit_b89 M_X7_kindsBy_b93
          simp only [nI_1]
          rcases h4 with h4 | h4
          · subst h4; simp only [if_pos p00, e00]; exact no
          · subst h4; simp only [if_neg n10]; exact yes)
        (fun n' p x4 hp h4 ih2 => by
          obtain ⟨c1, v, hv, c2⟩ := c (2 * p) (by omega)
          obtain ⟨c3, -⟩ := c (2 * p + 1) (by omega)
          have i0 := ih2 0 (.inl rfl)
          have i1 := ih2 1 (.inr rfl)
          rw [M_X6_kindsThatFit_b16, M_X7_kindsBy_b16, pu_size hr (by decide), a, Option.bind_some, if_pos (pu_inb hr (by decide)), nI_clamp (show r < 2 ^ 31 by omega), b, nI_1, if_neg (pu_nle (by omega) (by omega) (by omega)), if_neg (pu_nle (by omega) (by omega) (by omega)), pu_get hr (by decide) (by omega) (by decide) a (by omega), Option.bind_some, pu_get hr (by decide) (by omega) (by decide) a (by omega), Option.bind_some, pu_e40, nI_1, if_pos (pu_inb (by omega) (by decide)), if_pos (pu_inb (by omega) (by decide)), nI_clamp (show 40 * r + 2 * p < 2 ^ 31 by omega), nI_clamp (show 40 * r + 2 * p + 1 < 2 ^ 31 by omega), c1, c3, c2, pa_eq _ (by omega)]
          unfold M_X6_kindsThatFit_b69 M_X6_kindsThatFit_b70 M_X7_kindsBy_b71 M_X7_kindsBy_b72
          have e2 : nI (2 * p) + (2 : Int32) = nI (2 * (p + 1)) := nI_add (2 * p) 2
          simp only [e2, show 40 * r + (2 * p + 1) = 40 * r + 2 * p + 1 from rfl]
          rcases h4 with h4 | h4
          · subst h4; simp only [if_pos p00]; exact i0
          · subst h4; simp only [if_neg n10]
            by_cases w : M_X7_passesAs (nI k) (nI v) = rw (40 * r + 2 * p + 1)
            · simp only [if_pos w]; exact i1
            · simp only [if_neg w]; exact i0)
        1 (.inr rfl))
    0 (fun j _ _ => b_0 j)
theorem p_kinds (hS : pu_S 6 40 sz pl rl rw) (x1 : Int32) : ∃ v lf' fc', M_X6_kinds sz pl lf fc x1 = some (v, lf', fc') ∧ M_X7_kinds rw rl fc lf x1 = some (v, fc', lf') := by
  unfold M_X6_kinds M_X7_kinds
  rcases pr_C (lf := lf) (fc := fc) x1 hS with ⟨v, lf', fc', h1, h2, h3⟩ | ⟨r, e, hr, rfl, he, a, b, c, h2, h3⟩
  · rw [h2, h3, Option.bind_some, Option.bind_some, if_neg h1, if_neg h1]
    exact ⟨_, _, _, rfl, rfl⟩
  · obtain ⟨s, hs, k1, k2⟩ := kb_C hr he a b c
    rw [h2, h3, Option.bind_some, Option.bind_some, if_pos p00, if_pos p00, k1, k2]
    exact ⟨_, _, _, rfl, rfl⟩
theorem p_who (h : pu_C R A kinds strengths moved needs forbids st D now) (hS : pu_S 6 40 sz pl rl rw) (x1 : Int32) : ∃ v lf' fc', M_X6_who sz pl (nI R) kinds lf fc x1 = some (v, lf', fc') ∧ M_X7_who now rw rl fc lf x1 = some (v, fc', lf') := by
  have hR := h.1.1
  have e0 := h.1.2.2.1
  unfold M_X6_who M_X7_who
  rcases pr_C (lf := lf) (fc := fc) x1 hS with ⟨v, lf', fc', h1, h2, h3⟩ | ⟨r, e, hr, rfl, he, a, b, c, h2, h3⟩
  · rw [h2, h3, Option.bind_some, Option.bind_some, if_neg h1, if_neg h1]
    exact ⟨_, _, _, rfl, rfl⟩
  · obtain ⟨s, hs, k1, k2⟩ := kb_C hr he a b c
    rw [h2, h3, Option.bind_some, Option.bind_some, if_pos p00, if_pos p00, k1, k2, Option.bind_some, Option.bind_some]
    exact pu_lp (fun n k x => ∃ v lf' fc', M_X6_who_b24 sz pl (nI R) kinds n lf fc (nI s) x (nI k) = some (v, lf', fc') ∧ M_X7_who_b24 now rw rl n fc lf x (nI s) (nI k) = some (v, fc', lf'))
      (fun _ _ => True) R (by omega)
      (fun n x _ => ⟨x, lf, fc, by rw [M_X6_who_b24, if_pos (pu_le (by omega) (by omega) (Nat.le_refl R))], by rw [M_X7_who_b24, e0, if_pos (pu_le (by omega) (by omega) (Nat.le_refl R))]⟩)
      (fun n k x hk _ ih => by
        obtain ⟨a1, ⟨kk, hkk, a2⟩, -⟩ := h.1.2.2.2.2.1 k hk
        have e00 : (x ||| 0 : Int32) = x := b_ext (fun j hj => by rw [b_or, b_0, Bool.or_false])
        rw [M_X6_who_b24, M_X7_who_b24, e0, if_neg (nI_ge hk (by omega)), if_neg (nI_ge hk (by omega)), rs_kind hR hk, Option.bind_some, if_pos (iO 2 (by omega)), cO 2 (by omega), a1, a2, ha_b _ (by omega)]
        simp only [M_X6_who_b61, M_X7_who_b61, nI_1, e00]
        cases q : bt (nI s) kk
        · rw [if_pos ((b_bit _ (by omega)).mpr q)]
          exact ih _ trivial
        · rw [if_neg (fun z => Bool.noConfusion (q.symm.trans ((b_bit _ (by omega)).mp z)))]
          exact ih _ trivial)
      0 trivial
theorem p_test (hS : pu_S 6 40 sz pl rl rw) (la x1 : Int32) : ∃ v lf' la' fc', M_X6_test sz pl lf la fc x1 = some (v, lf', la', fc') ∧ M_X7_test rw rl fc lf la x1 = some (v, fc', lf', la') := by
  unfold M_X6_test M_X7_test
  rcases pr_C (lf := lf) (fc := fc) x1 hS with ⟨v, lf', fc', h1, h2, h3⟩ | ⟨r, e, hr, rfl, he, a, b, c, h2, h3⟩
  · rw [h2, h3, Option.bind_some, Option.bind_some, if_neg h1, if_neg h1]
    exact ⟨_, _, _, _, rfl, rfl⟩
  · obtain ⟨s, hs, k1, k2⟩ := kb_C hr he a b c
    rw [h2, h3, Option.bind_some, Option.bind_some, if_pos p00, if_pos p00, k1, k2, Option.bind_some, Option.bind_some]
    show ∃ v lf' la' fc', _ = _ ∧ M_X7_test_b29 rw rl (999999 + 1) fc lf la (nI s) (-9) 1000000 (nI 0) = _
    by_cases hs0 : s = 0
    · subst hs0
      refine ⟨-9, lf, la, fc, if_pos rfl, ?_⟩
      rw [M_X7_test_b29, if_neg (rN 20 (by omega)), if_pos (show nI 0 = 0 from rfl)]
      rfl
    · have hsn : ¬ nI s = 0 := eN 0 hs0 (by omega)
      obtain ⟨g0, hg0, eg0⟩ := gp_v s hs 0 (by omega)
      rw [if_neg hsn, M_X7_test_b29, if_neg (rN 20 (by omega)), if_neg hsn, eg0, Option.bind_some]
      unfold M_X7_test_b62 M_X7_test_b78
      rw [if_neg (aN' 1000000 (a := g0) (by omega)), if_neg (aN' 1000000 (a := g0) (by omega))]
      exact pu_loop (fun n k (z : Nat × Nat) => ∃ v lf' la' fc', M_X6_test_b31 sz pl (n + 1) lf la fc (nI s) (nI z.1) (nI k) = some (v, lf', la', fc') ∧ M_X7_test_b29 rw rl n fc lf la (nI s) (nI z.1) (nI z.2) (nI k) = some (v, fc', lf', la'))
        (fun k z => z.1 < 21 ∧ z.2 < 7 ∧ M_X7_greatestPart (nI s) (nI z.1) = some (nI z.2)) 21
        (fun n z ⟨h5, h6, h7⟩ => by
          rw [M_X6_test_b31, if_pos (show (20 : Int32) < nI 21 by decide), M_X7_test_b29, if_pos (show (20 : Int32) < nI 21 by decide), gq_eq s hs z.1 h5, h7, Option.bind_some]
          unfold M_X7_test_b86
          rw [if_neg (pu_nI9 (by omega))]
          exact ⟨_, _, _, _, rfl, rfl⟩)
        (fun n k z hk ⟨h5, h6, h7⟩ ih => by
          obtain ⟨g, hg, eg⟩ := gp_v s hs k (by omega)
          rw [M_X6_test_b31, if_neg (rN 20 (by omega)), M_X7_test_b29, if_neg (rN 20 (by omega)), if_neg hsn, gq_eq s hs k (by omega), eg, Option.bind_some, gq_eq s hs z.1 h5, h7, Option.bind_some, Option.bind_some]
          unfold M_X6_test_b57 M_X7_test_b62 M_X7_test_b78
          simp only [nI_1]
          by_cases w : nI z.2 ≤ nI g
          · simp only [if_pos w]; exact ih z ⟨h5, h6, h7⟩
          · simp only [if_neg w]; exact ih (k, g) ⟨by show k < 21; omega, hg, eg⟩)
        20 999999 1 (0, g0) (by omega) (by omega) ⟨by show 0 < 21; omega, hg0, eg0⟩
end
