/-! PURE PART: a text is read as a court -/
/-- the same text on both sides: z bytes of it -/
def tx (z t : Nat) (signs texts tl : Nat → Int32) : Prop := t < 4 ∧ z ≤ 60 ∧ tl t = nI z ∧ ∀ j, j < z → signs j = texts (60 * t + j)
/-- what is read of a court so far -/
def rdR (R A : Nat) (start : Int64) (kinds strengths moved needs forbids m : Nat → Int32) : Prop :=
  R ≤ 6 ∧ A ≤ 4 ∧ m 0 = nI R ∧ m 1 = nI A ∧ (A = 0 ∨ 0 < R) ∧
  (∀ i, i < R → m (2 + i) = kinds i ∧ (∃ k, k < 6 ∧ kinds i = nI k) ∧ m (8 + i) = strengths i ∧ (∃ v, v < 10 ∧ 1 ≤ v ∧ strengths i = nI v) ∧ m (14 + i) = moved i ∧ (∃ w, w < 6 ∧ moved i = nI w) ∧ m (20 + i) = M_X5_strain start (nI i)) ∧
  (∀ i, R ≤ i → i < 6 → M_X5_strain start (nI i) = 0) ∧ M_X5_letGo start = 0 ∧ M_X5_parted start = 0 ∧ m 26 = M_X5_frostIn start ∧
  (∀ a, a < A → m (27 + a) = needs a ∧ m (31 + a) = forbids a ∧ (∃ k, k < 64 ∧ needs a = nI k) ∧ (∃ k, k < 64 ∧ forbids a = nI k))
theorem in_fig {lo hi : Nat} (h1 : hi < 100) (h2 : lo < 100) (c : Int32) : (∃ v, lo ≤ v ∧ v ≤ hi ∧ c = nI (48 + v) ∧ M_X7_in c.toInt64 (((48 : Int32) + nI lo).toInt64) (((48 : Int32) + nI hi).toInt64) = 1) ∨
    ((c - (48 : Int32) < nI lo ∨ ¬ c - (48 : Int32) ≤ nI hi) ∧ M_X7_in c.toInt64 (((48 : Int32) + nI lo).toInt64) (((48 : Int32) + nI hi).toInt64) = 0) := by
  have ea : ∀ k, (48 : Int32) + nI k = nI (48 + k) := fun k => nI_add 48 k
  rw [ea, ea, pu_in1]
  by_cases q : lo ≤ hi
  · by_cases w : ∃ v, lo ≤ v ∧ v ≤ hi ∧ c = nI (48 + v)
    · obtain ⟨v, w1, w2, rfl⟩ := w
      refine .inl ⟨v, w1, w2, rfl, if_neg ?_⟩
      rintro (z | z)
      · exact pu_nlt (by omega) (by omega) (by omega) z
      · exact pu_nlt (by omega) (by omega) (by omega) z
    · refine .inr ⟨?_, if_pos ?_⟩
      · by_cases y : c - (48 : Int32) < nI lo
        · exact .inl y
        · refine .inr (fun y2 => w ?_)
          have h0 : ¬ c - (48 : Int32) < 0 := fun z => y (Int32.lt_of_lt_of_le z (nI_pos' (by omega)))
          obtain ⟨v, hv, e⟩ := nI_of h0
          rw [e] at y y2
          refine ⟨v, ?_, (nI_leI hv (by omega)).mp y2, ?_⟩
          · by_cases x : lo ≤ v
            · exact x
            · exact absurd (pu_lt (by omega) (by omega) (by omega)) y
          · rw [← ea v, ← e, Int32.add_comm, Int32.sub_add_cancel]
      · by_cases y : c < nI (48 + lo)
        · exact .inl y
        · refine .inr ?_
          have h0 : ¬ c < 0 := fun z => y (Int32.lt_of_lt_of_le z (nI_pos' (by omega)))
          obtain ⟨v, hv, rfl⟩ := nI_of h0
          refine pu_lt (by omega) hv ?_
          have l1 : 48 + lo ≤ v := by
            by_cases x : 48 + lo ≤ v
            · exact x
            · exact absurd (pu_lt (by omega) (by omega) (by omega)) y
          by_cases x : 48 + hi < v
          · exact x
          · exact absurd ⟨v - 48, by omega, by omega, by rw [show 48 + (v - 48) = v by omega]⟩ w
  · refine .inr ⟨?_, if_pos ?_⟩
    · by_cases y : c - (48 : Int32) < nI lo
      · exact .inl y
      · exact .inr (fun y2 => y (Int32.lt_of_le_of_lt y2 (pu_lt (by omega) (by omega) (by omega))))
    · by_cases y : c < nI (48 + lo)
      · exact .inl y
      · exact .inr (Int32.lt_of_lt_of_le (pu_lt (by omega) (by omega) (by omega)) (Int32.not_lt.mp y))
theorem kl_eq (c : Int32) : M_X1_kindOfLetter c = M_X7_kindBy c := by
  by_cases h1 : c = 110
  · subst h1; rfl
  by_cases h2 : c = 111
  · subst h2; rfl
  by_cases h3 : c = 112
  · subst h3; rfl
  by_cases h4 : c = 113
  · subst h4; rfl
  by_cases h5 : c = 114
  · subst h5; rfl
  by_cases h6 : c = 115
  · subst h6; rfl
  by_cases h7 : c = 116
  · subst h7; rfl
  by_cases h8 : c = 117
  · subst h8; rfl
  by_cases h9 : c = 118
  · subst h9; rfl
  by_cases h10 : c = 119
  · subst h10; rfl
  unfold M_X1_kindOfLetter M_X7_kindBy
  rw [if_neg h1, if_neg h2, if_neg h3, if_neg h4, if_neg h5, if_neg h6, if_neg h7, if_neg h8, if_neg h9, if_neg h10, if_neg h5, if_neg h6, if_neg h3, if_neg h1, if_neg h7]
theorem kb_k (c : Int32) : M_X7_kindBy c = -9 ∨ ∃ k, k < 6 ∧ M_X7_kindBy c = nI k := by
  unfold M_X7_kindBy
  split
  · exact .inr ⟨0, by omega, rfl⟩
  split
  · exact .inr ⟨1, by omega, rfl⟩
  split
  · exact .inr ⟨2, by omega, rfl⟩
  split
  · exact .inr ⟨3, by omega, rfl⟩
  split
  · exact .inr ⟨4, by omega, rfl⟩
  split
  · exact .inr ⟨5, by omega, rfl⟩
  exact .inl rfl
section
variable {z t : Nat} {signs texts tl : Nat → Int32}
theorem hr_C (h : tx z t signs texts tl) {p : Nat} (hp : p < z) : M_X7_here texts tl (nI p) (nI t) = some (signs p) ∧ M_X1_sign signs (nI z) (nI p) = some (signs p) := by
  obtain ⟨h1, h2, h3, h4⟩ := h
  unfold M_X7_here M_X1_sign
  rw [if_pos (pu_inb h1 (by decide)), nI_clamp (by omega), h3, if_neg (nI_ge hp (by omega)), pu_e60, if_pos (pu_inb (by omega) (by decide)), nI_clamp (by omega), h4 p hp,
    if_neg (nI_pos (by omega)), if_neg (nI_ge hp (by omega)), if_neg (gN 60 (by omega)), if_pos (pu_inb (by omega) (by decide)), nI_clamp (by omega), h4 p hp]
  exact ⟨rfl, rfl⟩
theorem hr_E (h : tx z t signs texts tl) {p : Nat} (hp : z ≤ p) (hp2 : p < 2 ^ 31) : M_X7_here texts tl (nI p) (nI t) = some (-9) := by
  obtain ⟨h1, h2, h3, h4⟩ := h
  unfold M_X7_here
  rw [if_pos (pu_inb h1 (by decide)), nI_clamp (by omega), h3, if_pos (pu_le (by omega) hp2 hp)]
theorem sk_C (h : tx z t signs texts tl) : ∀ (d p n1 n2 : Nat), p + d = z → d < n1 → d < n2 → ∃ p', p ≤ p' ∧ p' ≤ z ∧ M_X7_skip_b0 texts tl n1 (nI p) (nI t) = some (nI p') ∧ M_X1_isMoreAhead_b0 signs (nI z) n2 (nI p) = some ((if p' < z then 1 else 0), nI p') := by
  have hz := h.2.1
  intro d
  induction d with
  | zero =>
    intro p n1 n2 hp h1 h2
    obtain ⟨n1, rfl⟩ : ∃ y, n1 = y + 1 := ⟨n1 - 1, by omega⟩
    obtain ⟨n2, rfl⟩ : ∃ y, n2 = y + 1 := ⟨n2 - 1, by omega⟩
    refine ⟨p, Nat.le_refl p, by omega, ?_, ?_⟩
    · rw [M_X7_skip_b0, hr_E h (by omega) (by omega), Option.bind_some, if_neg (by decide)]
    · rw [M_X1_isMoreAhead_b0, if_pos (pu_le (by omega) (by omega) (by omega))]
      unfold M_X1_isMoreAhead_b33
      rw [if_pos (pu_le (by omega) (by omega) (by omega)), if_neg (by omega)]
  | succ d ih =>
    intro p n1 n2 hp h1 h2
    obtain ⟨n1, rfl⟩ : ∃ y, n1 = y + 1 := ⟨n1 - 1, by omega⟩
    obtain ⟨n2, rfl⟩ : ∃ y, n2 = y + 1 := ⟨n2 - 1, by omega⟩
    obtain ⟨e1, e2⟩ := hr_C h (show p < z by omega)
    rw [M_X7_skip_b0, e1, Option.bind_some, M_X1_isMoreAhead_b0, if_neg (nI_ge (by omega) (by omega)), e2, Option.bind_some, nI_1]
    by_cases q : signs p = 32
    · rw [if_pos q, if_pos q]
      obtain ⟨p', a1, a2, a3, a4⟩ := ih (p + 1) n1 n2 (by omega) (by omega) (by omega)
      exact ⟨p', by omega, a2, a3, a4⟩
    · rw [if_neg q, if_neg q]
      refine ⟨p, Nat.le_refl p, by omega, rfl, ?_⟩
      unfold M_X1_isMoreAhead_b33
      rw [if_neg (nI_ge (by omega) (by omega)), if_pos (by omega)]
theorem sk_A (h : tx z t signs texts tl) {p : Nat} (hp : p ≤ z) : ∃ p', p ≤ p' ∧ p' ≤ z ∧ M_X7_skip texts tl (nI p) (nI t) = some (nI p') ∧ M_X1_isMoreAhead signs (nI z) (nI p) = some ((if p' < z then 1 else 0), nI p') := by
  have hz := h.2.1
  exact sk_C h (z - p) p x_fuel x_fuel (by omega) (by unfold x_fuel; omega) (by unfold x_fuel; omega)
theorem fg_N {p f lo hi : Int32} (hf : ¬ f = -9) : M_X1_figure signs (nI z) p f lo hi = some (0, p, f) := by
  unfold M_X1_figure
  rw [if_neg hf]
theorem fg_C (h : tx z t signs texts tl) {p lo hi : Nat} (lo' hi' : Int32) (hp : p ≤ z) (h1 : hi < 100) (el : lo' = nI lo := by rfl) (eh : hi' = nI hi := by rfl) (h2 : lo < 100 := by omega) :
    (∃ v, lo ≤ v ∧ v ≤ hi ∧ p < z ∧ M_X1_figure signs (nI z) (nI p) (-9) lo' hi' = some (nI v, nI (p + 1), -9) ∧ ∀ (m : Nat → Int32) (o : Nat), o < 85 → M_X7_takes texts tl m (nI p) (nI t) (nI o) lo' hi' = some (1, upd m o (nI v), nI (p + 1))) ∨
    (M_X1_figure signs (nI z) (nI p) (-9) lo' hi' = some (0, nI p, nI p) ∧ ∀ (m : Nat → Int32) (o : Nat), o < 85 → M_X7_takes texts tl m (nI p) (nI t) (nI o) lo' hi' = some (0, m, nI p)) := by
  have hz := h.2.1
  subst el eh
  unfold M_X1_figure M_X1_figure_b50 M_X7_takes
  rw [if_pos rfl]
  by_cases q : p < z
  · obtain ⟨e1, e2⟩ := hr_C h q
    rw [if_pos (pu_lt (by omega) (by omega) q), e1, e2, Option.bind_some]
    rcases in_fig (lo := lo) (hi := hi) h1 h2 (signs p) with ⟨v, v1, v2, v3, v4⟩ | ⟨v1, v2⟩
    · have e3 : nI (48 + v) - (48 : Int32) = nI v := by
        have := pk_sub (a := 48 + v) (b := 48) (by omega)
        rw [show 48 + v - 48 = v by omega] at this
        exact this
      refine .inl ⟨v, v1, v2, q, ?_, fun m o ho => ?_⟩
      · rw [v3, e3, if_neg (pu_nlt (by omega) (by omega) v1), if_pos (pu_le (by omega) (by omega) v2), nI_1]
      · rw [Option.bind_some, v4, if_neg n10, if_pos (pu_inb ho (by decide)), nI_clamp (by omega), v3, e3, nI_1]
    · refine .inr ⟨?_, fun m o ho => by rw [Option.bind_some, v2, if_pos p00]⟩
      by_cases w : signs p - (48 : Int32) < nI lo
      · rw [if_pos w]
      · rw [if_neg w, if_neg (v1.resolve_left w)]
  · obtain rfl : p = z := by omega
    rw [if_neg (pu_nlt (by omega) (by omega) (by omega)), hr_E h (by omega) (by omega)]
    refine .inr ⟨rfl, fun m o ho => ?_⟩
    rcases in_fig (lo := lo) (hi := hi) h1 h2 (-9) with ⟨v, _, _, v3, _⟩ | ⟨_, v2⟩
    · exact absurd v3.symm (pu_nI9 (by omega))
    · rw [Option.bind_some, v2, if_pos p00]
theorem rs_N {p f : Int32} (hf : ¬ f = -9) : ∃ v, M_X1_ropeSet signs (nI z) p f = some (v, p, f) := by
  unfold M_X1_ropeSet
  rw [fg_N hf, Option.bind_some, fg_N hf, Option.bind_some, if_neg hf]
  exact ⟨_, rfl⟩
theorem rs_C (h : tx z t signs texts tl) {p : Nat} (hp : p ≤ z) :
    (∃ v, v < 64 ∧ p + 2 ≤ z ∧ M_X1_ropeSet signs (nI z) (nI p) (-9) = some (nI v, nI (p + 2), -9) ∧ ∀ (m : Nat → Int32) (o : Nat), o < 85 → ∃ m', M_X7_takesSet texts tl m (nI p) (nI t) (nI o) = some (1, m', nI (p + 2)) ∧ m' o = nI v ∧ ∀ j, j ≠ o → m' j = m j) ∨
    (∃ v pl f, f < 100 ∧ M_X1_ropeSet signs (nI z) (nI p) (-9) = some (v, pl, nI f) ∧ ∀ (m : Nat → Int32) (o : Nat), o < 85 → ∃ m', M_X7_takesSet texts tl m (nI p) (nI t) (nI o) = some (0, m', nI f)) := by
  have hz := h.2.1
  unfold M_X1_ropeSet M_X7_takesSet M_X7_takesSet_b75
  rcases fg_C h (lo := 0) (hi := 9) 0 9 hp (by omega) with ⟨v, v1, v2, v3, v4, v5⟩ | ⟨v4, v5⟩
  · rcases fg_C h (lo := 0) (hi := 9) (p := p + 1) 0 9 (by omega) (by omega) with ⟨w, w1, w2, w3, w4, w5⟩ | ⟨w4, w5⟩
    · have e1 : ((10 : Int32) * nI v) + nI w = nI (10 * v + w) := by rw [show (10 : Int32) = nI 10 from rfl, pk_mul, nI_add]
      have e2 : nI w + ((10 : Int32) * nI v) = nI (10 * v + w) := by rw [show (10 : Int32) = nI 10 from rfl, pk_mul, nI_add, Nat.add_comm]
      rw [v4, Option.bind_some, w4, Option.bind_some, if_pos rfl, e1]
      by_cases q : 10 * v + w ≤ 63
      · rw [if_pos (aL 63 q)]
        refine .inl ⟨10 * v + w, by omega, by omega, rfl, fun m o ho => ⟨upd (upd (upd m o (nI v)) o (nI w)) o (nI (10 * v + w)), ?_, pu_us, fun j hj => by rw [pu_un hj, pu_un hj, pu_un hj]⟩⟩
        have hin : inb (nI o) 85 := pu_inb ho (by decide)
        rw [v5 m o ho, Option.bind_some, if_neg n10, if_pos hin, w5 _ o ho, Option.bind_some, if_neg n10]
        simp only [if_pos hin]
        rw [nI_clamp (by omega), pu_us, pu_us, pu_us, e2, if_pos (aL 63 q), if_neg (rN 63 q)]
      · rw [if_neg (aN 63 (by omega) (by omega))]
        refine .inr ⟨_, _, p, by omega, rfl, fun m o ho => ⟨upd (upd (upd m o (nI v)) o (nI w)) o (nI (10 * v + w)), ?_⟩⟩
        have hin : inb (nI o) 85 := pu_inb ho (by decide)
        rw [v5 m o ho, Option.bind_some, if_neg n10, if_pos hin, w5 _ o ho, Option.bind_some, if_neg n10]
        simp only [if_pos hin]
        rw [nI_clamp (by omega), pu_us, pu_us, pu_us, e2, if_neg (aN 63 (by omega) (by omega)), if_pos (rL 63 (by omega) (by omega))]
    · rw [v4, Option.bind_some, w4, Option.bind_some, if_neg (pu_nI9 (by omega))]
      refine .inr ⟨_, _, p + 1, by omega, rfl, fun m o ho => ⟨upd m o (nI v), ?_⟩⟩
      rw [v5 m o ho, Option.bind_some, if_neg n10, if_pos (pu_inb ho (by decide)), w5 _ o ho]
      rfl
  · rw [v4, Option.bind_some, fg_N (pu_nI9 (by omega)), Option.bind_some, if_neg (pu_nI9 (by omega))]
    refine .inr ⟨_, _, p, by omega, rfl, fun m o ho => ⟨m, ?_⟩⟩
    rw [v5 m o ho]
    rfl
theorem aO (b : Nat) (m : Nat → Int32) {k A : Nat} (hA : m k = nI A) : (OfNat.ofNat b : Int32) + m k = nI (b + A) := by rw [hA]; exact nI_add b A
/-- an act is read -/
theorem ra_C (h : tx z t signs texts tl) {R A : Nat} {start : Int64} {kinds strengths moved needs forbids m : Nat → Int32} (hr : rdR R A start kinds strengths moved needs forbids m) {p : Nat} (hp : p < z) (hR : 0 < R) (hA : A < 4) :
    (∃ p' needs' forbids' m', p < p' ∧ p' ≤ z ∧ M_X1_readAct signs (nI z) (nI p) (-9) (nI A) needs forbids = some (nI p', -9, nI (A + 1), needs', forbids') ∧ M_X7_takesAct texts tl m (nI p) (nI t) = some (1, m', nI p') ∧ rdR R (A + 1) start kinds strengths moved needs' forbids' m') ∨
    (∃ pl f m', f < 100 ∧ M_X1_readAct signs (nI z) (nI p) (-9) (nI A) needs forbids = some (pl, nI f, nI A, needs, forbids) ∧ M_X7_takesAct texts tl m (nI p) (nI t) = some (0, m', nI f)) := by
  have hz := h.2.1
  obtain ⟨a1, a2, a3, a4, a5, a6, a7, a8, a9, a10, a11⟩ := hr
  unfold M_X1_readAct M_X7_takesAct
  rw [a4, if_neg (eN 4 (by omega) (by omega)), a3, if_neg (eN 0 (by omega) (by omega)), nI_1, show (27 : Int32) + nI A = nI (27 + A) from nI_add 27 A]
  rcases rs_C h (p := p + 1) (by omega) with ⟨v, v1, v2, v3, v4⟩ | ⟨v, pl, f, v1, v3, v4⟩
  · obtain ⟨m1, k1, k2, k3⟩ := v4 m (27 + A) (by omega)
    rw [v3, Option.bind_some, k1, Option.bind_some, if_neg n10]
    dsimp only
    rw [show (31 : Int32) + nI A = nI (31 + A) from nI_add 31 A]
    rcases rs_C h (p := p + 1 + 2) (by omega) with ⟨w, w1, w2, w3, w4⟩ | ⟨w, pl, f, w1, w3, w4⟩
    · obtain ⟨m2, g1, g2, g3⟩ := w4 m1 (31 + A) (by omega)
      have ea : M_X2_addAct (nI A) needs forbids (nI v) (nI w) = some (nI (A + 1), upd needs A (nI v), upd forbids A (nI w)) := by
        unfold M_X2_addAct
        rw [if_neg (nI_pos (by omega)), if_neg (gN 4 hA), if_pos (pu_inb hA (by decide)), nI_clamp (by omega), nI_1]
      rw [w3, Option.bind_some, if_pos rfl, ea, Option.bind_some, g1, Option.bind_some, if_neg n10]
      dsimp only
      have e1 : m2 1 = nI A := by rw [g3 1 (by omega), k3 1 (by omega), a4]
      refine .inl ⟨p + 1 + 2 + 2, upd needs A (nI v), upd forbids A (nI w), upd m2 1 (nI (A + 1)), by omega, by omega, rfl, by rw [e1, nI_1], ?_⟩
      have old : ∀ j, j ≠ 1 → j ≠ 27 + A → j ≠ 31 + A → upd m2 1 (nI (A + 1)) j = m j := fun j q1 q2 q3 => by rw [pu_un q1, g3 j q3, k3 j q2]
      refine ⟨a1, by omega, ?_, pu_us, .inr hR, fun i hi => ?_, a7, a8, a9, ?_, fun a ha => ?_⟩
      · rw [old 0 (by omega) (by omega) (by omega), a3]
      · rw [old _ (by omega) (by omega) (by omega), old _ (by omega) (by omega) (by omega), old _ (by omega) (by omega) (by omega), old _ (by omega) (by omega) (by omega)]
        exact a6 i hi
      · rw [old 26 (by omega) (by omega) (by omega), a10]
      · by_cases q : a = A
        · subst q
          rw [pu_us, pu_us, pu_un (by omega), pu_un (by omega), g3 (27 + a) (by omega), k2, g2]
          exact ⟨rfl, rfl, ⟨v, v1, rfl⟩, ⟨w, w1, rfl⟩⟩
        · rw [pu_un q, pu_un q, old _ (by omega) (by omega) (by omega), old _ (by omega) (by omega) (by omega)]
          exact a11 a (by omega)
    · obtain ⟨m2, g1⟩ := w4 m1 (31 + A) (by omega)
      rw [w3, Option.bind_some, if_neg (pu_nI9 (by omega)), g1, Option.bind_some, if_pos p00]
      exact .inr ⟨pl, f, m2, w1, rfl, rfl⟩
  · obtain ⟨m1, k1⟩ := v4 m (27 + A) (by omega)
    obtain ⟨y, hy⟩ := rs_N (signs := signs) (z := z) (p := pl) (f := nI f) (pu_nI9 (by omega))
    rw [v3, Option.bind_some, hy, Option.bind_some, if_neg (pu_nI9 (by omega)), k1, Option.bind_some, if_pos p00]
    exact .inr ⟨pl, f, m1, v1, rfl, rfl⟩
/-- a rope is read -/
theorem rr_C (h : tx z t signs texts tl) {R A : Nat} {start : Int64} {kinds strengths moved needs forbids m : Nat → Int32} (hr : rdR R A start kinds strengths moved needs forbids m) {p k : Nat} (hp : p < z) (hR : R < 6) (hA : A = 0) (hk : k < 6) (hc : M_X7_kindBy (signs p) = nI k) :
    (∃ p' start' kinds' strengths' moved' m', p < p' ∧ p' ≤ z ∧ M_X1_readRope signs (nI z) (nI p) (-9) (nI R) start kinds strengths moved (nI k) = some (nI p', -9, nI (R + 1), start', kinds', strengths', moved') ∧ M_X7_takesRope texts tl m (nI p) (nI t) = some (1, m', nI p') ∧ rdR (R + 1) A start' kinds' strengths' moved' needs forbids m') ∨
    (∃ pl f m', f < 100 ∧ M_X1_readRope signs (nI z) (nI p) (-9) (nI R) start kinds strengths moved (nI k) = some (pl, nI f, nI R, start, kinds, strengths, moved) ∧ M_X7_takesRope texts tl m (nI p) (nI t) = some (0, m', nI f)) := by
  have hz := h.2.1
  subst hA
  obtain ⟨a1, a2, a3, a4, a5, a6, a7, a8, a9, a10, a11⟩ := hr
  unfold M_X1_readRope M_X7_takesRope
  rw [(hr_C h hp).1, Option.bind_some, hc, if_neg (pu_nI9 (by omega)), a3, if_neg (eN 6 (by omega) (by omega)), a4, if_pos (show nI 0 ≤ 0 by decide), if_pos (iO 2 (by omega)), cO 2 (by omega), nI_1,
    show (8 : Int32) + nI R = nI (8 + R) from nI_add 8 R, show (14 : Int32) + nI R = nI (14 + R) from nI_add 14 R, show (20 : Int32) + nI R = nI (20 + R) from nI_add 20 R]
  rcases fg_C h (lo := 1) (hi := 9) (p := p + 1) 1 9 (by omega) (by omega) with ⟨v, v1, v2, v3, v4, v5⟩ | ⟨v4, v5⟩
  · rw [v4, Option.bind_some, v5 _ _ (by omega), Option.bind_some, if_neg n10]
    rcases fg_C h (lo := 0) (hi := 5) (p := p + 1 + 1) 0 5 (by omega) (by omega) with ⟨w, w1, w2, w3, w4, w5⟩ | ⟨w4, w5⟩
    · rw [w4, Option.bind_some, w5 _ _ (by omega), Option.bind_some, if_neg n10, if_pos (pu_inb (by omega) (by decide)), nI_clamp (show 8 + R < 2 ^ 31 by omega)]
      dsimp only
      rw [pu_un (by omega), pu_us]
      rcases fg_C h (lo := 0) (hi := v) (p := p + 1 + 1 + 1) 0 (nI v) (by omega) (by omega) with ⟨u, u1, u2, u3, u4, u5⟩ | ⟨u4, u5⟩
      · have ea : M_X2_addRope (nI R) start kinds strengths moved (nI k) (nI v) (nI w) (nI u) = some (nI (R + 1), M_X5_afterStrain start (nI R) (nI u), upd kinds R (nI k), upd strengths R (nI v), upd moved R (nI w)) := by
          unfold M_X2_addRope
          rw [if_neg (nI_pos (by omega)), if_neg (gN 6 hR), if_pos (pu_inb hR (by decide)), nI_clamp (by omega), nI_1]
        rw [u4, Option.bind_some, if_pos rfl, ea, Option.bind_some, u5 _ _ (by omega), Option.bind_some, if_neg n10]
        dsimp only
        refine .inl ⟨p + 1 + 1 + 1 + 1, _, _, _, _, _, by omega, by omega, rfl, rfl, ?_⟩
        have old : ∀ (x y1 y2 y3 y4 : Int32) (j : Nat), j ≠ 0 → j ≠ 2 + R → j ≠ 8 + R → j ≠ 14 + R → j ≠ 20 + R → upd (upd (upd (upd (upd m (2 + R) y1) (8 + R) y2) (14 + R) y3) (20 + R) y4) 0 x j = m j := fun x y1 y2 y3 y4 j q0 q1 q2 q3 q4 => by rw [pu_un q0, pu_un q4, pu_un q3, pu_un q2, pu_un q1]
        refine ⟨by omega, a2, ?_, ?_, .inl rfl, fun i hi => ?_, fun i h6 h7 => ?_, ?_, ?_, ?_, fun a ha => absurd ha (by omega)⟩
        · rw [pu_us, pu_un (by omega), pu_un (by omega), pu_un (by omega), pu_un (by omega), a3]
          exact nI_1 R
        · rw [old _ _ _ _ _ 1 (by omega) (by omega) (by omega) (by omega) (by omega), a4]
        · by_cases q : i = R
          · subst q
            rw [pu_us, pu_us, pu_us, as_self start hR (by omega)]
            refine ⟨?_, ⟨k, hk, rfl⟩, ?_, ⟨v, by omega, v1, rfl⟩, ?_, ⟨w, by omega, rfl⟩, ?_⟩
            · rw [pu_un (by omega), pu_un (by omega), pu_un (by omega), pu_un (by omega), pu_us]
            · rw [pu_un (by omega), pu_un (by omega), pu_un (by omega), pu_us]
            · rw [pu_un (by omega), pu_un (by omega), pu_us]
            · rw [pu_un (by omega), pu_us]
          · rw [pu_un q, pu_un q, pu_un q, as_other start hR (by omega) q, old _ _ _ _ _ (2 + i) (by omega) (by omega) (by omega) (by omega) (by omega), old _ _ _ _ _ (8 + i) (by omega) (by omega) (by omega) (by omega) (by omega), old _ _ _ _ _ (14 + i) (by omega) (by omega) (by omega) (by omega) (by omega), old _ _ _ _ _ (20 + i) (by omega) (by omega) (by omega) (by omega) (by omega)]
            exact a6 i (by omega)
        · rw [as_other start hR h7 (by omega)]; exact a7 i (by omega) h7
        · rw [as_letGo start hR, a8]
        · rw [as_parted start hR, a9]
        · rw [old _ _ _ _ _ 26 (by omega) (by omega) (by omega) (by omega) (by omega), as_frost start hR, a10]
      · rw [u4, Option.bind_some, if_neg (pu_nI9 (by omega)), u5 _ _ (by omega), Option.bind_some, if_pos rfl]
        exact .inr ⟨_, p + 1 + 1 + 1, _, by omega, rfl, rfl⟩
    · rw [w4, Option.bind_some, fg_N (pu_nI9 (by omega)), Option.bind_some, if_neg (pu_nI9 (by omega)), w5 _ _ (by omega), Option.bind_some, if_pos rfl]
      exact .inr ⟨_, p + 1 + 1, _, by omega, rfl, rfl⟩
  · rw [v4, Option.bind_some, fg_N (pu_nI9 (by omega)), Option.bind_some, fg_N (pu_nI9 (by omega)), Option.bind_some, if_neg (pu_nI9 (by omega)), v5 _ _ (by omega), Option.bind_some, if_pos rfl]
    exact .inr ⟨_, p + 1, _, by omega, rfl, rfl⟩
end
