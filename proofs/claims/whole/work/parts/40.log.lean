/-! PURE PART: the log of deeds on both sides -/
def pu_step (R A : Nat) (kinds strengths moved needs forbids : Nat → Int32) (Q : Int32 → Prop) (s : Int64) (c : Int32) (s' : Int64) : Prop :=
  ∀ x, pu_RS R A kinds strengths moved needs forbids x → pu_CD R s x → ∀ pb, ∃ x' pb', M_X7_goDeed_now x pb c = some (x', pb') ∧ pu_CD R s' x' ∧ (∀ j, j < 76 → x' j = x j) ∧ Q pb'
def pu_st0 (R : Nat) (s : Int64) (m : Nat → Int32) : Prop :=
  (∀ i, i < R → m (20 + i) = M_X5_strain s (nI i)) ∧ (∀ i, R ≤ i → i < 6 → M_X5_strain s (nI i) = 0) ∧ M_X5_letGo s = 0 ∧ M_X5_parted s = 0 ∧ m 26 = M_X5_frostIn s
def pu_C (R A : Nat) (kinds strengths moved needs forbids : Nat → Int32) (st : Nat → Int64) (D : Nat) (m : Nat → Int32) : Prop :=
  pu_RS R A kinds strengths moved needs forbids m ∧ pu_CD R (st D) m ∧ D ≤ 40 ∧ m 35 = nI D ∧ pu_st0 R (st 0) m ∧
  ∀ d, d < D → pu_step R A kinds strengths moved needs forbids (fun _ => True) (st d) (m (36 + d)) (st (d + 1))
theorem pu_C.of {R A D : Nat} {kinds strengths moved needs forbids : Nat → Int32} {st st' : Nat → Int64} {m m' : Nat → Int32} (h : pu_C R A kinds strengths moved needs forbids st D m) (e : ∀ j, j < 85 → m' j = m j) (e2 : ∀ d, d ≤ D → st' d = st d) : pu_C R A kinds strengths moved needs forbids st' D m' := by
  obtain ⟨h1, h2, h3, h4, ⟨h5, h6, h7, h8, h9⟩, h10⟩ := h
  have hR := h1.1
  rw [← e2 D (Nat.le_refl D)] at h2
  refine ⟨h1.of (fun j hj => e j (by omega)), h2.of hR (fun j _ hj => e j hj), h3, by rw [e _ (by omega), h4], ?_, fun d hd => ?_⟩
  · rw [← e2 0 (Nat.zero_le D)] at h5 h6 h7 h8 h9
    exact ⟨fun i hi => by rw [e _ (by omega), h5 i hi], h6, h7, h8, by rw [e _ (by omega), h9]⟩
  · rw [e _ (by omega), e2 d (by omega), e2 (d + 1) (by omega)]
    exact h10 d hd
section
variable {R A D : Nat} {kinds strengths moved needs forbids now : Nat → Int32} {st : Nat → Int64}
theorem now_C (hD : D ≤ 40) : M_X0_now st (nI D) = some (st D) := by
  unfold M_X0_now
  rw [if_neg (nI_pos (by omega)), if_neg (rN 40 (by omega)), if_pos (pu_inb (by omega) (by omega)), nI_clamp (by omega)]
theorem does_C (h : pu_C R A kinds strengths moved needs forbids st D now) (hD : D < 40) {c : Int32} {s' : Int64} {Q : Int32 → Prop} (hs : pu_step R A kinds strengths moved needs forbids Q (st D) c s') (pb : Int32) :
    ∃ now' pb', M_X7_does now pb c = some (now', pb') ∧ pu_C R A kinds strengths moved needs forbids (vp_updL st (D + 1) s') (D + 1) now' ∧ Q pb' := by
  obtain ⟨h1, h2, h3, h4, ⟨h5, h6, h7, h8, h9⟩, h10⟩ := h
  have hR := h1.1
  have e36 : ((36 : Int32) + nI D).toNatClampNeg = 36 + D := cO 36 (by omega)
  obtain ⟨x', pb', r1, r2, r3, r4⟩ := hs (upd (upd now (36 + D) c) 35 (nI (D + 1))) (h1.of (fun j hj => by rw [pu_un (by omega), pu_un (by omega)])) (h2.of hR (fun j h76 h85 => by rw [pu_un (by omega), pu_un (by omega)])) pb
  refine ⟨x', pb', ?_, ⟨?_, ?_, by omega, ?_, ?_, fun d hd => ?_⟩, r4⟩
  · unfold M_X7_does
    rw [h4, if_pos (iO 36 (by omega)), e36, pu_un (show (35 : Nat) ≠ 36 + D by omega), h4, nI_1, r1, Option.bind_some]
  · exact h1.of (fun j hj => by rw [r3 j (by omega), pu_un (by omega), pu_un (by omega)])
  · rw [pk_uLs]; exact r2
  · rw [r3 _ (by omega), pu_us]
  · rw [pk_uLn (by omega)]
    exact ⟨fun i hi => by rw [r3 _ (by omega), pu_un (by omega), pu_un (by omega), h5 i hi], h6, h7, h8, by rw [r3 _ (by omega), pu_un (by omega), pu_un (by omega), h9]⟩
  · rw [r3 _ (by omega), pu_un (by omega)]
    by_cases e : d = D
    · subst e
      rw [pu_us, pk_uLn (by omega), pk_uLs]
      intro x a b p
      obtain ⟨y, q, c1, c2, c3, _⟩ := hs x a b p
      exact ⟨y, q, c1, c2, c3, trivial⟩
    · rw [pu_un (by omega), pk_uLn (by omega), pk_uLn (by omega)]
      exact h10 d (by omega)
theorem done_F {s' : Int64} {x : Int32} : M_X6_done st (nI 40) s' x = some (-2, st, nI 40) := by
  unfold M_X6_done M_X0_isFull
  rw [nI_1, if_neg (aN 40 (a := 41) (by omega) (by omega)), if_neg (by decide)]
theorem done_C (hD : D < 40) {s' : Int64} {x : Int32} : M_X6_done st (nI D) s' x = some (x, vp_updL st (D + 1) s', nI (D + 1)) := by
  unfold M_X6_done M_X0_isFull M_X0_add
  rw [nI_1, if_pos (aL 40 (by omega)), if_pos rfl, if_neg (nI_pos (by omega)), if_neg (gN 40 hD), if_pos (pu_inb (by omega) (by omega)), nI_clamp (by omega)]
  rfl
theorem step_slack (hR : R ≤ 6) {s : Int64} {i : Nat} (hi : i < R) : pu_step R A kinds strengths moved needs forbids (fun _ => True) s (nI (200 + i)) (M_X5_afterLetGo s (nI i)) :=
  fun x _ b p => by
    obtain ⟨y, c1, c2, c3⟩ := dn_slack (m := x) hR b hi p
    exact ⟨y, p, c1, c2, c3, trivial⟩
theorem step_belay (hR : R ≤ 6) {s : Int64} {i : Nat} (hi : i < R) : pu_step R A kinds strengths moved needs forbids (fun _ => True) s (nI (300 + i)) (M_X5_afterMadeOff s (nI i)) :=
  fun x _ b p => by
    obtain ⟨y, c1, c2, c3⟩ := dn_belay (m := x) hR b hi p
    exact ⟨y, p, c1, c2, c3, trivial⟩
theorem step_cut (hR : R ≤ 6) {s : Int64} {i : Nat} (hi : i < R) : pu_step R A kinds strengths moved needs forbids (fun _ => True) s (nI (400 + i)) (ap s ((1 : Int32) <<< (nI i &&& 31))) :=
  fun x _ b p => by
    obtain ⟨y, c1, c2, c3⟩ := dn_cut (m := x) hR b hi p
    exact ⟨y, p, c1, c2, c3, trivial⟩
theorem step_splice (hR : R ≤ 6) {s : Int64} {i : Nat} (hi : i < R) : pu_step R A kinds strengths moved needs forbids (fun _ => True) s (nI (500 + i)) (M_X5_afterSpliced s (nI i)) :=
  fun x _ b p => by
    obtain ⟨y, c1, c2, c3⟩ := dn_splice (m := x) hR b hi p
    exact ⟨y, p, c1, c2, c3, trivial⟩
theorem step_frost (hR : R ≤ 6) {s : Int64} {v : Nat} (hv : v < 2) : pu_step R A kinds strengths moved needs forbids (fun _ => True) s (nI (600 + v)) (M_X5_afterFrost s (nI v)) :=
  fun x _ b p => by
    obtain ⟨y, c1, c2, c3⟩ := dn_frost (m := x) hR b hv p
    exact ⟨y, p, c1, c2, c3, trivial⟩
theorem step_idle {s : Int64} : pu_step R A kinds strengths moved needs forbids (fun _ => True) s 0 s :=
  fun x _ b p => ⟨x, p, dn_idle p, b, fun _ _ => rfl, trivial⟩
theorem step_haul {s : Int64} {i v : Nat} (hi : i < R) (hb1 : bl s (24 + i) = false) (hb2 : bl s (30 + i) = false) (hv0 : 0 < v) (hv : v < 10) : pu_step R A kinds strengths moved needs forbids (fun pb' => pu_Ev R s (hS R kinds strengths moved s i v) (-9) pb') s (nI (100 + 10 * v + i)) (hS R kinds strengths moved s i v) :=
  fun x a b p => by
    obtain ⟨y, q, c1, c2, c3, c4⟩ := dn_haul (m := x) a b hi hb1 hb2 hv0 hv
    exact ⟨y, q, c1 p, c2, c3, c4⟩
theorem begin_C (h : pu_C R A kinds strengths moved needs forbids st D now) : ∃ x, M_X7_begin_85 now = some x ∧ pu_CD R (st 0) x ∧ ∀ j, j < 76 → x j = now j := by
  obtain ⟨h1, h2, h3, h4, ⟨h5, h6, h7, h8, h9⟩, h10⟩ := h
  have hR := h1.1
  exact pu_lp (fun n k x => ∃ y, M_X7_begin_85_b2 n x (nI k) = some y ∧ pu_CD R (st 0) y ∧ ∀ j, j < 76 → y j = now j)
    (fun k x => (∀ j, j < 76 → x j = now j) ∧ ∀ i, i < k → x (76 + i) = now (20 + i)) 6 (by omega)
    (fun n x h => by
      refine ⟨_, by rw [M_X7_begin_85_b2, if_pos (show (6 : Int32) ≤ nI 6 by decide)], ⟨fun i hi => ?_, h6, ?_, ?_, ?_⟩, fun j hj => ?_⟩
      · rw [pu_un (by omega), pu_un (by omega), pu_un (by omega), h.2 i (by omega), h5 i hi]
      · rw [pu_un (by omega), pu_un (by omega), pu_us, h7]
      · rw [pu_un (by omega), pu_us, h8]
      · rw [pu_us, pu_un (by omega), pu_un (by omega), h.1 _ (by omega), h9]
      · rw [pu_un (by omega), pu_un (by omega), pu_un (by omega), h.1 j hj])
    (fun n k x hk h ih => by
      rw [M_X7_begin_85_b2, if_neg (gN 6 hk), if_pos (iO 20 (by omega)), if_pos (iO 76 (by omega)), cO 20 (by omega), cO 76 (by omega), nI_1]
      refine ih _ ⟨fun j hj => by rw [pu_un (by omega), h.1 j hj], fun i hi => ?_⟩
      by_cases e : i = k
      · subst e; rw [pu_us, h.1 _ (by omega)]
      · rw [pu_un (by omega), h.2 i (by omega)])
    now ⟨fun _ _ => rfl, fun i hi => absurd hi (by omega)⟩
theorem p_undo (h : pu_C R A kinds strengths moved needs forbids st D now) (pb x1 : Int32) :
    ∃ v now' pb' D', M_X6_undo (nI D) x1 = (v, nI D') ∧ M_X7_undo now pb x1 = some (v, now', pb') ∧ pu_C R A kinds strengths moved needs forbids st D' now' := by
  have h4 := h.2.2.2.1
  have hD := h.2.2.1
  have hR6 : R ≤ 6 := h.1.1
  have e : M_X7_in x1.toInt64 (0 : Int64) ((now 35).toInt64) = if (x1 < 0 ∨ nI D < x1) then 0 else 1 := by rw [h4]; exact pu_in1 x1 0 (nI D)
  unfold M_X6_undo M_X7_undo M_X0_deeds M_X0_goBack
  rw [e]
  rcases pu_nng x1 with h0 | ⟨n, hn, rfl⟩
  · rw [if_pos h0, if_pos (show x1 < 0 ∨ nI D < x1 from .inl h0), if_pos rfl]
    exact ⟨_, _, _, D, rfl, rfl, h⟩
  · rw [if_neg (nI_pos hn)]
    by_cases q : n ≤ D
    · rw [if_pos (pu_le (by omega) (by omega) q), if_neg (nI_pos hn), if_neg (pu_nlt (by omega) (by omega) q), if_neg (show ¬ (nI n < 0 ∨ nI D < nI n) from fun w => w.elim (nI_pos hn) (pu_nlt (by omega) (by omega) q)), if_neg n10, h4]
      obtain ⟨x, r1, r2, r3⟩ := begin_C h
      rw [r1, Option.bind_some]
      have key : ∀ pb, ∃ y pb', M_X7_undo_b38 x_fuel x pb (nI n) (nI D - nI n) 0 = some (nI D - nI n, y, pb') ∧ pu_C R A kinds strengths moved needs forbids st n y := by
        intro pb
        exact pu_lp (fun f k (s : (Nat → Int32) × Int32) => ∃ y pb', M_X7_undo_b38 f s.1 s.2 (nI n) (nI D - nI n) (nI k) = some (nI D - nI n, y, pb') ∧ pu_C R A kinds strengths moved needs forbids st n y)
          (fun k s => pu_CD R (st k) s.1 ∧ ∀ j, j < 76 → s.1 j = now j) n (by omega)
          (fun f s hs => by
            obtain ⟨h1, h2, h3, h4', ⟨h5, h6, h7, h8, h9⟩, h10⟩ := h
            refine ⟨_, _, by rw [M_X7_undo_b38, if_pos (pu_le (by omega) (by omega) (Nat.le_refl n))], h1.of (fun j hj => by rw [pu_un (by omega), hs.2 j (by omega)]), hs.1.of h1.1 (fun j h76 _ => by rw [pu_un (by omega)]), by omega, by rw [pu_us], ⟨fun i hi => by rw [pu_un (by omega), hs.2 _ (by have := h1.1; omega), h5 i hi], h6, h7, h8, by rw [pu_un (by omega), hs.2 _ (by omega), h9]⟩, fun d hd => ?_⟩
            rw [pu_un (by omega), hs.2 _ (by omega)]
            exact h10 d (by omega))
          (fun f k s hk hs ih => by
            obtain ⟨h1, h2, h3, h4', h5, h10⟩ := h
            rw [M_X7_undo_b38, if_neg (nI_ge hk (by omega)), if_pos (iO 36 (by omega)), cO 36 (by omega), hs.2 _ (by omega)]
            obtain ⟨y, q', c1, c2, c3, _⟩ := h10 k (by omega) s.1 (h1.of (fun j hj => hs.2 j (by omega))) hs.1 s.2
            rw [c1, Option.bind_some, nI_1]
            exact ih (y, q') ⟨c2, fun j hj => (c3 j hj).trans (hs.2 j hj)⟩)
          (x, pb) ⟨r2, r3⟩
      obtain ⟨y, pb', k1, k2⟩ := key pb
      exact ⟨nI D - nI n, y, pb', n, rfl, k1, k2⟩
    · rw [if_neg (pu_nle (by omega) (by omega) (by omega)), if_pos (show nI n < 0 ∨ nI D < nI n from .inr (pu_lt (by omega) (by omega) (by omega))), if_pos rfl]
      exact ⟨_, _, _, D, rfl, rfl, h⟩
end
