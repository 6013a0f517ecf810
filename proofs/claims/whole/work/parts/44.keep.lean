/-! PURE PART: courts kept -/
def pu_K (R A : Nat) (kinds strengths moved needs forbids : Nat → Int32) (ks : Nat → Nat → Int64) (kz : Nat → Int32) (kept isK : Nat → Int32) : Prop :=
  ∀ k, k < 3 → (isK k = 0 ∧ kz k = -1) ∨ (isK k = 1 ∧ ∃ d, kz k = nI d ∧ pu_C R A kinds strengths moved needs forbids (ks k) d (fun j => kept (85 * k + j)))
theorem kp_3 (x : Int32) : (∃ k, k < 3 ∧ x = nI k ∧ M_X0_isKeepingPlace x = 1 ∧ M_X7_isShelf x = 1) ∨ (M_X0_isKeepingPlace x = 0 ∧ M_X7_isShelf x = 0) := by
  unfold M_X0_isKeepingPlace M_X7_isShelf
  rcases in_0N 2 (by decide) 2 (by decide) x with ⟨v, hv, rfl, e⟩ | ⟨q, e⟩
  · exact .inl ⟨v, by omega, rfl, by rw [if_neg (nI_pos (by omega)), if_neg (gN 3 (by omega))], e⟩
  · refine .inr ⟨?_, e⟩
    by_cases q0 : x < 0
    · rw [if_pos q0]
    · rw [if_neg q0, if_pos]
      obtain ⟨v, hv, rfl⟩ := nI_of q0
      have := q.resolve_left q0
      by_cases w : v ≤ 2
      · exact absurd (pu_le (by omega) (by omega) w) this
      · exact gL 3 (by omega) hv
theorem e85 (k i : Nat) : ((85 : Int32) * nI k) + nI i = nI (85 * k + i) := by
  rw [show (85 : Int32) = nI 85 from rfl, pk_mul, nI_add]
section
variable {R A D : Nat} {kinds strengths moved needs forbids now kept isK kz : Nat → Int32} {st : Nat → Int64} {ks : Nat → Nat → Int64}
theorem kp_z (hz : pu_K R A kinds strengths moved needs forbids ks kz kept isK) {k : Nat} (hk : k < 3) : M_X0_deedsKept kz (nI k) = some (kz k) := by
  unfold M_X0_deedsKept M_X0_isKeepingPlace
  rw [if_neg (nI_pos (by omega)), if_neg (gN 3 (by omega)), if_neg n10, if_pos (pu_inb hk (by omega)), nI_clamp (by omega)]
theorem p_keep (h : pu_C R A kinds strengths moved needs forbids st D now) (hz : pu_K R A kinds strengths moved needs forbids ks kz kept isK) (x1 : Int32) :
    ∃ v ks' kz' kept' isK', M_X6_keep st (nI D) (nI R) ks kz x1 = some (v, ks', kz') ∧ M_X7_keep now kept isK x1 = some (v, kept', isK') ∧ pu_K R A kinds strengths moved needs forbids ks' kz' kept' isK' := by
  have h1 := h.1
  have h3 := h.2.2.1
  have hR := h1.1
  unfold M_X6_keep M_X7_keep
  rcases kp_3 x1 with ⟨k, hk, rfl, e1, e2⟩ | ⟨e1, e2⟩
  · rw [e1, e2, if_neg n10, if_neg n10, h1.2.2.1]
    unfold M_X2_isEmpty
    by_cases q : R = 0
    · subst q
      exact ⟨_, _, _, _, _, rfl, rfl, hz⟩
    rw [if_neg (eN 0 q (by omega)), if_neg (eN 0 q (by omega)), if_pos p00]
    have a : ∃ f, M_X0_store st (nI D) ks kz (nI k) = some (upd2 ks k f, upd kz k (nI D)) ∧ ∀ d, d ≤ D → f d = st d := by
      unfold M_X0_store
      rw [e1, if_neg n10]
      exact pu_lp (fun n j (x : Nat → Nat → Int64) => ∃ f, M_X0_store_b10 st (nI D) n x kz (nI k) (nI j) = some (upd2 ks k f, upd kz k (nI D)) ∧ ∀ d, d ≤ D → f d = st d)
        (fun j x => ∃ f, x = upd2 ks k f ∧ ∀ d, d < j → f d = st d) (D + 1) (by omega)
        (fun n x ⟨f, hx, hf⟩ => ⟨f, by rw [M_X0_store_b10, if_pos (pu_lt (by omega) (by omega) (by omega))]; unfold M_X0_store_b44; rw [if_pos (pu_inb hk (by omega)), nI_clamp (by omega), hx], fun d hd => hf d (by omega)⟩)
        (fun n j x hj ⟨f, hx, hf⟩ ih => by
          rw [M_X0_store_b10, if_neg (pu_nlt (by omega) (by omega) (by omega)), if_neg (rN 40 (by omega)), if_pos (pu_inb hk (by omega)), if_pos (pu_inb (by omega) (by omega)), nI_clamp (by omega), nI_clamp (by omega), nI_1, hx, pu_2s, pu_22]
          refine ih _ ⟨vp_updL f j (st j), rfl, fun d hd => ?_⟩
          by_cases e : d = j
          · subst e; rw [pk_uLs]
          · rw [pk_uLn e]; exact hf d (by omega))
        ks ⟨ks k, pu_2f.symm, fun d hd => absurd hd (by omega)⟩
    obtain ⟨f, a1, a2⟩ := a
    have b : ∃ g, M_X7_keep_b23 now x_fuel kept isK (nI k) 0 = some (now 35, g, upd isK k (vp_nar .boolean 1)) ∧ (∀ i, i < 85 → g (85 * k + i) = now i) ∧ ∀ j, (j < 85 * k ∨ 85 * k + 85 ≤ j) → g j = kept j := by
      exact pu_lp (fun n j x => ∃ g, M_X7_keep_b23 now n x isK (nI k) (nI j) = some (now 35, g, upd isK k (vp_nar .boolean 1)) ∧ (∀ i, i < 85 → g (85 * k + i) = now i) ∧ ∀ j, (j < 85 * k ∨ 85 * k + 85 ≤ j) → g j = kept j)
        (fun j x => (∀ i, i < j → x (85 * k + i) = now i) ∧ ∀ j, (j < 85 * k ∨ 85 * k + 85 ≤ j) → x j = kept j) 85 (by omega)
        (fun n x hx => ⟨x, by rw [M_X7_keep_b23, if_pos (show (85 : Int32) ≤ nI 85 by decide), if_pos (pu_inb hk (by omega)), nI_clamp (by omega)], hx⟩)
        (fun n j x hj hx ih => by
          rw [M_X7_keep_b23, if_neg (gN 85 hj), if_pos (pu_inb hj (by omega)), e85, if_pos (pu_inb (by omega) (by omega)), nI_clamp (by omega), nI_clamp (by omega), nI_1]
          refine ih _ ⟨fun i hi => ?_, fun q hq => by rw [pu_un (by omega)]; exact hx.2 q hq⟩
          by_cases e : i = j
          · subst e; rw [pu_us]
          · rw [pu_un (by omega)]; exact hx.1 i (by omega))
        kept ⟨fun i hi => absurd hi (by omega), fun _ _ => rfl⟩
    obtain ⟨g, b1, b2, b3⟩ := b
    rw [a1, b1, Option.bind_some, h.2.2.2.1]
    refine ⟨nI D, upd2 ks k f, upd kz k (nI D), g, upd isK k (vp_nar .boolean 1), rfl, rfl, fun k' hk' => ?_⟩
    by_cases e : k' = k
    · subst e
      rw [pu_us, pu_us, pu_2s]
      exact .inr ⟨by decide, D, rfl, h.of (fun j hj => b2 j hj) a2⟩
    · rw [pu_un e, pu_un e, pu_2n e]
      refine (hz k' hk').imp id (fun ⟨c1, d, c2, c3⟩ => ⟨c1, d, c2, c3.of (fun j hj => b3 _ (by omega)) (fun _ _ => rfl)⟩)
  · rw [e1, e2, if_pos p00, if_pos p00]
    exact ⟨_, _, _, _, _, rfl, rfl, hz⟩
theorem p_on (h : pu_C R A kinds strengths moved needs forbids st D now) (hz : pu_K R A kinds strengths moved needs forbids ks kz kept isK) (lf : Int32) (fc : Nat → Int32) (x1 : Int32) :
    ∃ v lf' st' D' fc' now', M_X6_on ks kz lf st (nI D) fc x1 = some (v, lf', st', nI D', fc') ∧ M_X7_on kept isK now fc lf x1 = some (v, now', fc', lf') ∧ pu_C R A kinds strengths moved needs forbids st' D' now' := by
  unfold M_X6_on M_X7_on
  rcases kp_3 x1 with ⟨k, hk, rfl, e1, e2⟩ | ⟨e1, e2⟩
  · rw [e1, e2, if_neg n10, if_neg n10, kp_z hz hk, Option.bind_some, if_pos (pu_inb hk (by omega)), nI_clamp (by omega)]
    rcases hz k hk with ⟨c1, c2⟩ | ⟨c1, d, c2, c3⟩
    · rw [c1, c2, if_pos rfl, if_pos rfl, show (1 : Int32) = nI 1 from rfl, pu_f (by decide) (by decide), pu_g (by decide)]
      exact ⟨_, _, _, D, _, _, rfl, rfl, h⟩
    · have hd := c3.2.2.1
      rw [c1, c2, if_neg (pu_nI1 (by omega)), if_neg n10]
      have a : ∃ f, M_X0_restore ks kz st (nI D) (nI k) = some (f, nI d) ∧ ∀ q, q ≤ d → f q = ks k q := by
        unfold M_X0_restore
        rw [e1, if_neg n10, if_pos (pu_inb hk (by omega)), nI_clamp (by omega), c2, if_neg (pu_nI1 (by omega))]
        exact pu_lp (fun n j (x : Nat → Int64) => ∃ f, M_X0_restore_b30 ks kz n x (nI d) (nI k) (nI j) = some (f, nI d) ∧ ∀ q, q ≤ d → f q = ks k q)
          (fun j x => ∀ q, q < j → x q = ks k q) (d + 1) (by omega)
          (fun n x hx => ⟨x, by rw [M_X0_restore_b30, if_pos (pu_lt (by omega) (by omega) (by omega))], fun q hq => hx q (by omega)⟩)
          (fun n j x hj hx ih => by
            rw [M_X0_restore_b30, if_neg (pu_nlt (by omega) (by omega) (by omega)), if_neg (rN 40 (by omega)), if_pos (pu_inb hk (by omega)), if_pos (pu_inb (by omega) (by omega)), nI_clamp (by omega), nI_clamp (by omega), nI_1]
            refine ih _ (fun q hq => ?_)
            by_cases e : q = j
            · subst e; rw [pk_uLs]
            · rw [pk_uLn e]; exact hx q (by omega))
          st (fun q hq => absurd hq (by omega))
      obtain ⟨f, a1, a2⟩ := a
      have b : ∃ g, M_X7_on_b26 kept isK x_fuel now fc lf (nI k) 0 = some (g 35, g, fc, lf) ∧ ∀ i, i < 85 → g i = kept (85 * k + i) := by
        exact pu_lp (fun n j x => ∃ g, M_X7_on_b26 kept isK n x fc lf (nI k) (nI j) = some (g 35, g, fc, lf) ∧ ∀ i, i < 85 → g i = kept (85 * k + i))
          (fun j x => ∀ i, i < j → x i = kept (85 * k + i)) 85 (by omega)
          (fun n x hx => ⟨x, by rw [M_X7_on_b26, if_pos (show (85 : Int32) ≤ nI 85 by decide)], hx⟩)
          (fun n j x hj hx ih => by
            rw [M_X7_on_b26, if_neg (gN 85 hj), e85, if_pos (pu_inb (by omega) (by omega)), if_pos (pu_inb hj (by omega)), nI_clamp (by omega), nI_clamp (by omega), nI_1]
            refine ih _ (fun i hi => ?_)
            by_cases e : i = j
            · subst e; rw [pu_us]
            · rw [pu_un (by omega)]; exact hx i (by omega))
          now (fun i hi => absurd hi (by omega))
      obtain ⟨g, b1, b2⟩ := b
      have hC := c3.of (st' := f) (m' := g) (fun j hj => b2 j hj) a2
      rw [a1, b1, Option.bind_some]
      refine ⟨nI d, lf, f, d, fc, g, rfl, ?_, hC⟩
      rw [hC.2.2.2.1]
  · rw [e1, e2, if_pos p00, if_pos p00]
    exact ⟨_, _, _, D, _, _, rfl, rfl, h⟩
end
