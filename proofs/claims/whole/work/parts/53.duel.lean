/-! PURE PART: two who haul against each other -/
def wv (k : Nat) (v is : Int32) : Int32 := if is = 1000000 then v else if is = -1000000 then v else if k % 2 = 0 then (if v < is then is else v) else (if is < v then is else v)
def s0v (k : Nat) : Int32 := if k % 2 = 0 then -1000000 else 1000000
def dst (R : Nat) (kinds strengths moved : Nat → Int32) (k c : Nat) (x : Option Int64) : Option Int64 :=
  x.bind (fun s => if c = 0 then some s else if 2 * (c - 1) + k % 2 < R ∧ M_X5_isFast s (nI (2 * (c - 1) + k % 2)) = 1 then some (hS R kinds strengths moved s (2 * (c - 1) + k % 2) 1) else none)
def endv (s : Int64) : Int32 := M_J6_bitCount_0f7a4 (M_X5_parted s &&& 42) - M_J6_bitCount_0f7a4 (M_X5_parted s &&& 21)
def dv (R : Nat) (kinds strengths moved : Nat → Int32) : Nat → Nat → Option Int64 → Int32
  | 0, _, x => x.elim 1000000 endv
  | d + 1, k, x => wv k (wv k (wv k (wv k (s0v k) (dv R kinds strengths moved d (k + 1) (dst R kinds strengths moved k 0 x))) (dv R kinds strengths moved d (k + 1) (dst R kinds strengths moved k 1 x))) (dv R kinds strengths moved d (k + 1) (dst R kinds strengths moved k 2 x))) (dv R kinds strengths moved d (k + 1) (dst R kinds strengths moved k 3 x))
def sm (x : Int32) : Prop := -10 ≤ x.toInt ∧ x.toInt ≤ 10
theorem sm_f {x : Int32} (h : sm x) : ¬ x = 1000000 ∧ ¬ x = -1000000 := by
  have e1 : (1000000 : Int32).toInt = 1000000 := by decide
  have e2 : (-1000000 : Int32).toInt = -1000000 := by decide
  constructor
  · intro q; rw [q] at h; unfold sm at h; rw [e1] at h; omega
  · intro q; rw [q] at h; unfold sm at h; rw [e2] at h; omega
theorem wv_F {k : Nat} {v x : Int32} (h : x = 1000000 ∨ x = -1000000) : wv k v x = v := by
  unfold wv
  rcases h with h | h
  · rw [if_pos h]
  · rw [if_pos h, ite_self]
theorem wv_s {k : Nat} {v x : Int32} (h : sm x) : wv k v x = if k % 2 = 0 then (if v < x then x else v) else (if x < v then x else v) := by
  unfold wv; rw [if_neg (sm_f h).1, if_neg (sm_f h).2]
theorem wv_0 {k : Nat} {x : Int32} (h : sm x) : wv k (s0v k) x = x := by
  have e1 : (1000000 : Int32).toInt = 1000000 := by decide
  have e2 : (-1000000 : Int32).toInt = -1000000 := by decide
  rw [wv_s h]; unfold s0v
  obtain ⟨h1, h2⟩ := h
  by_cases q : k % 2 = 0
  · rw [if_pos q, if_pos q, if_pos]; rw [Int32.lt_iff_toInt_lt, e2]; omega
  · rw [if_neg q, if_neg q, if_pos]; rw [Int32.lt_iff_toInt_lt, e1]; omega
theorem wv_sm {k : Nat} {v x : Int32} (hv : sm v) (h : sm x ∨ x = 1000000 ∨ x = -1000000) : sm (wv k v x) := by
  rcases h with h | h
  · rw [wv_s h]; split <;> split <;> assumption
  · rw [wv_F h]; exact hv
theorem pc_le6 (x : Int32) : pc x ≤ 6 := by
  unfold pc
  have := Bool.toNat_le (bt x 0); have := Bool.toNat_le (bt x 1); have := Bool.toNat_le (bt x 2)
  have := Bool.toNat_le (bt x 3); have := Bool.toNat_le (bt x 4); have := Bool.toNat_le (bt x 5)
  omega
theorem par_64 (s : Int64) (y : Int32) : ∃ v, v < 64 ∧ M_X5_parted s &&& y = nI v := b_s64 (fun j h6 h7 => by rw [b_and, st_parted s h7, decide_eq_false (by omega), Bool.false_and, Bool.false_and])
theorem endv_sm (s : Int64) : sm (endv s) := by
  unfold endv
  obtain ⟨v, hv, e⟩ := par_64 s 42
  obtain ⟨w, hw, e2⟩ := par_64 s 21
  rw [e, e2, (bc_eq v hv).2, (bc_eq w hw).2]
  have := pc_le6 (nI v); have := pc_le6 (nI w)
  unfold sm
  rw [pk_sub_toInt (by omega) (by omega)]
  omega
section
variable {R A : Nat} {kinds strengths moved needs forbids now : Nat → Int32}
theorem dv_none : ∀ (d k : Nat), dv R kinds strengths moved d k none = 1000000 ∨ dv R kinds strengths moved d k none = -1000000 := by
  intro d
  induction d with
  | zero => intro k; exact .inl rfl
  | succ d ih =>
    intro k
    rw [dv]
    show wv k (wv k (wv k (wv k (s0v k) (dv R kinds strengths moved d (k + 1) none)) (dv R kinds strengths moved d (k + 1) none)) (dv R kinds strengths moved d (k + 1) none)) (dv R kinds strengths moved d (k + 1) none) = 1000000 ∨ wv k (wv k (wv k (wv k (s0v k) (dv R kinds strengths moved d (k + 1) none)) (dv R kinds strengths moved d (k + 1) none)) (dv R kinds strengths moved d (k + 1) none)) (dv R kinds strengths moved d (k + 1) none) = -1000000
    rw [wv_F (ih (k + 1)), wv_F (ih (k + 1)), wv_F (ih (k + 1)), wv_F (ih (k + 1))]
    unfold s0v
    split
    · exact .inr rfl
    · exact .inl rfl
theorem dv_some : ∀ (d k : Nat) (s : Int64), sm (dv R kinds strengths moved d k (some s)) := by
  intro d
  induction d with
  | zero => intro k s; exact endv_sm s
  | succ d ih =>
    intro k s
    have any : ∀ x, sm (dv R kinds strengths moved d (k + 1) x) ∨ dv R kinds strengths moved d (k + 1) x = 1000000 ∨ dv R kinds strengths moved d (k + 1) x = -1000000 := fun x => by
      cases x with
      | none => exact .inr (dv_none d (k + 1))
      | some s' => exact .inl (ih (k + 1) s')
    rw [dv]
    refine wv_sm (wv_sm (wv_sm ?_ (any _)) (any _)) (any _)
    have : dst R kinds strengths moved k 0 (some s) = some s := rfl
    rw [this, wv_0 (ih (k + 1) s)]
    exact ih (k + 1) s
/-! the class's play -/
def fw (R : Nat) (kinds strengths moved : Nat → Int32) (d k : Nat) (s : Int64) : Nat → Nat → Int32 → Int32
  | 0, _, v => v
  | e + 1, j, v => fw R kinds strengths moved d k s e (j + 1) (wv k v (dv R kinds strengths moved d (k + 1) (dst R kinds strengths moved k (j + 1) (some s))))
theorem dst_no {k j : Nat} {s : Int64} (h : ¬ (2 * j + k % 2 < R ∧ M_X5_isFast s (nI (2 * j + k % 2)) = 1)) : dst R kinds strengths moved k (j + 1) (some s) = none := by
  unfold dst
  rw [Option.bind_some, if_neg (by omega), Nat.add_sub_cancel, if_neg h]
theorem dst_go {k j : Nat} {s : Int64} (h : 2 * j + k % 2 < R) (f : M_X5_isFast s (nI (2 * j + k % 2)) = 1) : dst R kinds strengths moved k (j + 1) (some s) = some (hS R kinds strengths moved s (2 * j + k % 2) 1) := by
  unfold dst
  rw [Option.bind_some, if_neg (by omega), Nat.add_sub_cancel, if_pos ⟨h, f⟩]
theorem fw_stop {d k : Nat} {s : Int64} : ∀ (e j : Nat) (v : Int32), R ≤ 2 * j + k % 2 → fw R kinds strengths moved d k s e j v = v := by
  intro e
  induction e with
  | zero => intro j v h; rfl
  | succ e ih =>
    intro j v h
    rw [fw, dst_no (by omega), wv_F (dv_none d (k + 1))]
    exact ih (j + 1) v (by omega)
theorem V_haul {s : Int64} (hV : pu_V R A kinds strengths moved needs forbids s) {i : Nat} (hi : i < R) (f1 : bl s (24 + i) = false) (f2 : bl s (30 + i) = false) :
    pu_V R A kinds strengths moved needs forbids (hS R kinds strengths moved s i 1) ∧ ∀ rch, M_X2_hauled (nI R) kinds strengths moved rch s (nI i) (nI 1) = some (hS R kinds strengths moved s i 1, hC R kinds strengths moved s i 1) := by
  obtain ⟨m, h1, h2⟩ := hV
  obtain ⟨g, m', pb', -, k2, k3, -⟩ := hl_H h1 h2 hi f1 f2 (v := 1) (by omega) (by omega)
  exact ⟨⟨m', h1.of (fun j hj => k3 j (by omega)), k2⟩, g⟩
theorem pl_C : ∀ (d k rn : Nat) (rch : Int32) (s : Int64), d < 100 → d < rn → (k % 2 = 0 ↔ d % 2 = 0) → pu_V R A kinds strengths moved needs forbids s →
    ∃ rch', M_X3_played (nI R) kinds strengths moved rn rch s (nI d) = some (dv R kinds strengths moved d k (some s), rch') := by
  intro d
  induction d with
  | zero =>
    intro k rn rch s _ hrn _ hV
    obtain ⟨rn, rfl⟩ : ∃ z, rn = z + 1 := ⟨rn - 1, by omega⟩
    rw [M_X3_played, if_neg (show ¬ (0 : Int32) < nI 0 by decide)]
    exact ⟨rch, rfl⟩
  | succ d ih =>
    intro k rn rch s hd hrn hk hV
    have hR : R ≤ 6 := by obtain ⟨m, h1, -⟩ := hV; exact h1.1
    obtain ⟨rn, rfl⟩ : ∃ z, rn = z + 1 := ⟨rn - 1, by omega⟩
    have ed : nI (d + 1) - nI (d + 1) / (2 : Int32) * (2 : Int32) = nI ((d + 1) % 2) := pk_rem (d := 2) (by omega) (by decide) (by decide)
    have eq0 : (nI ((d + 1) % 2) = 0) ↔ k % 2 = 0 := by
      rw [show (0 : Int32) = nI 0 from rfl, nI_eq (by omega) (by omega)]
      exact hk.symm
    rw [M_X3_played, if_pos (rL 0 (by omega) (by omega)), ed]
    have ihc := ih (k + 1) rn
    have hsm : ∀ s', sm (dv R kinds strengths moved d (k + 1) (some s')) := dv_some d (k + 1)
    obtain ⟨rch1, e1⟩ := ihc rch s (by omega) (by omega) (by omega) hV
    have loop : ∀ (e j n : Nat) (rch : Int32) (v x4 : Int32), j + e = 3 → e < n → (x4 = 0 ↔ ¬ k % 2 = 0) →
        ∃ rch', M_X3_played_b63 (nI R) kinds strengths moved (fun (reached' : Int32) (x1' : Int64) (x3' : Int32) => M_X3_played (nI R) kinds strengths moved rn reached' x1' x3') n rch s (nI (d + 1)) x4 v (nI (2 * j + k % 2)) = some (fw R kinds strengths moved d k s e j v, rch') := by
      intro e
      induction e with
      | zero =>
        intro j n rch v x4 hj hn hx
        obtain ⟨n, rfl⟩ : ∃ z, n = z + 1 := ⟨n - 1, by omega⟩
        rw [M_X3_played_b63, if_pos (pu_le (by omega) (by omega) (by omega))]
        exact ⟨rch, rfl⟩
      | succ e ihe =>
        intro j n rch v x4 hj hn hx
        obtain ⟨n, rfl⟩ : ∃ z, n = z + 1 := ⟨n - 1, by omega⟩
        rw [M_X3_played_b63]
        by_cases q : 2 * j + k % 2 < R
        · rw [if_neg (nI_ge q (by omega))]
          unfold M_X3_played_b120 M_X3_played_b122
          have e2 : nI (2 * j + k % 2) + (2 : Int32) = nI (2 * (j + 1) + k % 2) := by rw [show (2 : Int32) = nI 2 from rfl, nI_add]; congr 1; omega
          rw [e2]
          rcases fast_b (s := s) (i := 2 * j + k % 2) (by omega) with ⟨f1, f2, f3⟩ | f3
          · obtain ⟨hV', g⟩ := V_haul hV q f1 f2
            obtain ⟨rch2, e3⟩ := ihc (hC R kinds strengths moved s (2 * j + k % 2) 1) _ (by omega) (by omega) (by omega) hV'
            rw [f3, if_neg n10, show (1 : Int32) = nI 1 from rfl, g rch, Option.bind_some, show nI (d + 1) - nI 1 = nI d from nI_pred d]
            simp only [e3, Option.bind_some]
            rw [fw, dst_go q f3, wv_s (hsm _)]
            by_cases w : k % 2 = 0
            · rw [if_neg (fun z => hx.mp z w), if_pos w]
              exact ihe (j + 1) n rch2 _ x4 (by omega) (by omega) hx
            · rw [if_pos (hx.mpr w), if_neg w]
              exact ihe (j + 1) n rch2 _ x4 (by omega) (by omega) hx
          · rw [f3, if_pos p00, fw, dst_no (fun z => by rw [f3] at z; exact absurd z.2 (by decide)), wv_F (dv_none d (k + 1))]
            exact ihe (j + 1) n rch v x4 (by omega) (by omega) hx
        · rw [if_pos (pu_le (by omega) (by omega) (by omega)), fw_stop _ _ _ (by omega)]
          exact ⟨rch, rfl⟩
    have edv : dv R kinds strengths moved (d + 1) k (some s) = fw R kinds strengths moved d k s 3 0 (dv R kinds strengths moved d (k + 1) (some s)) := by
      rw [dv]
      show wv k (wv k (wv k (wv k (s0v k) (dv R kinds strengths moved d (k + 1) (some s))) _) _) _ = _
      rw [wv_0 (hsm s)]
      rfl
    rw [edv]
    unfold M_X3_played_b39 M_X3_played_b61
    rw [nI_pred]
    simp only [e1, Option.bind_some]
    by_cases w : k % 2 = 0
    · rw [if_pos (eq0.mpr w), if_neg n10]
      have := loop 3 0 x_fuel rch1 (dv R kinds strengths moved d (k + 1) (some s)) 1 (by omega) (by unfold x_fuel; omega) ⟨fun z => absurd z n10, fun z => absurd w z⟩
      rw [w] at this
      exact this
    · rw [if_neg (fun z => w (eq0.mp z)), if_pos trivial]
      have := loop 3 0 x_fuel rch1 (dv R kinds strengths moved d (k + 1) (some s)) 0 (by omega) (by unfold x_fuel; omega) ⟨fun _ => w, fun _ => rfl⟩
      rw [show k % 2 = 1 by omega] at this
      exact this
/-! the reference's play -/
def cst (R : Nat) (kinds strengths moved : Nat → Int32) (ch : Nat → Nat) : Nat → Nat → Option Int64 → Option Int64
  | 0, _, x => x
  | d + 1, p, x => cst R kinds strengths moved ch d (p + 1) (dst R kinds strengths moved p (ch p) x)
theorem cst_none (ch : Nat → Nat) : ∀ d p, cst R kinds strengths moved ch d p none = none := by
  intro d
  induction d with
  | zero => intro p; rfl
  | succ d ih => intro p; rw [cst]; exact ih (p + 1)
theorem cst_last (ch : Nat → Nat) : ∀ d p x, cst R kinds strengths moved ch (d + 1) p x = dst R kinds strengths moved (p + d) (ch (p + d)) (cst R kinds strengths moved ch d p x) := by
  intro d
  induction d with
  | zero => intro p x; rfl
  | succ d ih => intro p x; rw [cst, ih (p + 1), cst, show p + 1 + d = p + (d + 1) by omega]
theorem cst_of {ch ch' : Nat → Nat} : ∀ d p x, (∀ j, p ≤ j → j < p + d → ch' j = ch j) → cst R kinds strengths moved ch' d p x = cst R kinds strengths moved ch d p x := by
  intro d
  induction d with
  | zero => intro p x _; rfl
  | succ d ih => intro p x h; rw [cst, cst, h p (by omega) (by omega), ih (p + 1) _ (fun j h1 h2 => h j (by omega) (by omega))]
def pre (R : Nat) (kinds strengths moved : Nat → Int32) (s0 : Int64) (choices : Nat → Int32) (k : Nat) (x : Option Int64) : Prop :=
  ∃ ch : Nat → Nat, (∀ j, j < k → choices j = nI (ch j) ∧ ch j < 4) ∧ cst R kinds strengths moved ch k 0 (some s0) = x
theorem pre_of {s0 : Int64} {choices choices' : Nat → Int32} {k : Nat} {x : Option Int64} (h : pre R kinds strengths moved s0 choices k x) (e : ∀ j, j < k → choices' j = choices j) : pre R kinds strengths moved s0 choices' k x := by
  obtain ⟨ch, h1, h2⟩ := h
  exact ⟨ch, fun j hj => by rw [e j hj]; exact h1 j hj, h2⟩
theorem pre_s {s0 : Int64} {choices : Nat → Int32} {k c : Nat} {x : Option Int64} (h : pre R kinds strengths moved s0 choices k x) (e : choices k = nI c) (hc : c < 4) : pre R kinds strengths moved s0 choices (k + 1) (dst R kinds strengths moved k c x) := by
  obtain ⟨ch, h1, h2⟩ := h
  refine ⟨fun j => if j = k then c else ch j, fun j hj => ?_, ?_⟩
  · by_cases q : j = k
    · subst q; simp only [if_true]; exact ⟨e, hc⟩
    · simp only [if_neg q]; exact h1 j (by omega)
  · rw [cst_last, Nat.zero_add, cst_of k 0 (some s0) (ch := ch) (fun j _ hj => if_neg (by omega)), h2, if_pos rfl]
theorem b8_N {choices : Nat → Int32} {n : Nat} (m : Nat → Int32) (pb x1 x3 : Int32) : M_X7_goChoices_b8 now choices (n + 1) m pb x1 0 x3 = some (1000000, m, pb) := by
  rw [M_X7_goChoices_b8]
  unfold M_X7_goChoices_b103
  by_cases q : x1 ≤ x3
  · rw [if_pos q, if_pos p00]
  · rw [if_neg q, if_pos p00, if_pos p00]
theorem b8_C {choices : Nat → Int32} {T : Nat} {ch : Nat → Nat} (hT : T ≤ 6) (hn0 : now 0 = nI R) (hch : ∀ j, j < T → choices j = nI (ch j) ∧ ch j < 4) : ∀ (d n p : Nat) (s : Int64) (m : Nat → Int32) (pb : Int32), p + d = T → d + 1 < n → pu_RS R A kinds strengths moved needs forbids m → pu_CD R s m →
    ∃ m' pb', M_X7_goChoices_b8 now choices n m pb (nI T) 1 (nI p) = some ((cst R kinds strengths moved ch d p (some s)).elim 1000000 endv, m', pb') := by
  intro d
  induction d with
  | zero =>
    intro n p s m pb hp hn hRS hC'
    obtain ⟨n, rfl⟩ : ∃ z, n = z + 1 := ⟨n - 1, by omega⟩
    rw [M_X7_goChoices_b8, if_pos (pu_le (by omega) (by omega) (by omega))]
    unfold M_X7_goChoices_b103
    obtain ⟨v, hv, e⟩ := par_64 s 42
    obtain ⟨w, hw, e2⟩ := par_64 s 21
    rw [if_neg n10, hC'.2.2.2.1, e, e2, (bc_eq v hv).1, Option.bind_some, (bc_eq w hw).1, Option.bind_some, ← e, ← e2]
    exact ⟨_, _, rfl⟩
  | succ d ih =>
    intro n p s m pb hp hn hRS hC'
    have hR := hRS.1
    obtain ⟨n, rfl⟩ : ∃ z, n = z + 1 := ⟨n - 1, by omega⟩
    obtain ⟨n', hn'⟩ : ∃ z, n = z + 1 := ⟨n - 1, by omega⟩
    obtain ⟨hc1, hc2⟩ := hch p (by omega)
    have ed : nI p - nI p / (2 : Int32) * (2 : Int32) = nI (p % 2) := pk_rem (d := 2) (by omega) (by decide) (by decide)
    rw [M_X7_goChoices_b8, if_neg (pu_nle (by omega) (by omega) (by omega)), if_neg n10, if_pos (pu_inb (by omega) (by decide)), nI_clamp (by omega), hc1, ed]
    unfold M_X7_goChoices_b33 M_X7_goChoices_b65 M_X7_goChoices_b69 M_X7_goChoices_b70 M_X7_goChoices_b97
    have hin : inb (nI p) 6 := pu_inb (by omega) (by decide)
    simp only [if_pos hin]
    rw [nI_clamp (by omega), hc1, if_neg n10, if_pos trivial, nI_1, cst]
    generalize ch p = c at hc2 ⊢
    cases c with
    | zero =>
      rw [if_pos (show nI 0 = 0 from rfl), if_pos (show nI 0 ≤ 0 by decide)]
      exact ih n (p + 1) s m pb (by omega) (by omega) hRS hC'
    | succ c =>
      have e4 : (2 : Int32) * (nI (c + 1) - 1) + nI (p % 2) = nI (2 * c + p % 2) := by rw [nI_pred, show (2 : Int32) = nI 2 from rfl, pk_mul, nI_add]
      rw [if_neg (eN 0 (by omega) (by omega)), if_neg (nI_nle (by omega) (by omega)), e4, hn0]
      by_cases q : 2 * c + p % 2 < R
      · rw [if_neg (nI_ge q (by omega)), rs_fast hC' (by omega)]
        rcases fast_b (s := s) (i := 2 * c + p % 2) (by omega) with ⟨f1, f2, f3⟩ | f3
        · obtain ⟨m1, pb1, k1, k2, k3, -⟩ := dh_haul hRS hC' q f1 f2 (v := 1) (by omega) (by omega)
          rw [f3, if_neg n10, show (110 : Int32) + nI (2 * c + p % 2) = nI (100 + 10 * 1 + (2 * c + p % 2)) from nI_add 110 _, k1 pb, Option.bind_some, dst_go q f3]
          exact ih n (p + 1) _ m1 pb1 (by omega) (by omega) (hRS.of (fun j hj => k3 j (by omega))) k2
        · rw [f3, if_pos p00, hn', b8_N, dst_no (fun z => by rw [f3] at z; exact absurd z.2 (by decide)), cst_none]
          exact ⟨m, pb, rfl⟩
      · rw [if_pos (pu_le (by omega) (by omega) (by omega)), hn', b8_N, dst_no (by omega), cst_none]
        exact ⟨m, pb, rfl⟩
theorem gc_C (h1 : pu_RS R A kinds strengths moved needs forbids now) {s : Int64} (h2 : pu_CD R s now) {choices : Nat → Int32} {T : Nat} (hT : T ≤ 6) {x : Option Int64} (hp : pre R kinds strengths moved s choices T x) (hand : Nat → Int32) (pb : Int32) :
    ∃ m' pb', M_X7_goChoices now choices hand pb (nI T) = some (x.elim 1000000 endv, m', pb') := by
  obtain ⟨ch, a1, rfl⟩ := hp
  obtain ⟨y, k1, k2, k3, k4⟩ := hand_C h1 h2 hand
  unfold M_X7_goChoices
  rw [k1, Option.bind_some]
  exact b8_C (ch := ch) hT h1.2.2.1 a1 T x_fuel 0 s y pb (by omega) (by unfold x_fuel; omega) k3 k4
theorem wg_C {k : Nat} (hk : k < 6) (values : Nat → Int32) (is : Int32) : M_X7_weigh values (nI k) is = some (upd values k (wv k (values k) is)) := by
  have ed : nI k - nI k / (2 : Int32) * (2 : Int32) = nI (k % 2) := pk_rem (d := 2) (by omega) (by decide) (by decide)
  have eq0 : (nI (k % 2) = 0) ↔ k % 2 = 0 := by rw [show (0 : Int32) = nI 0 from rfl, nI_eq (by omega) (by omega)]
  unfold M_X7_weigh M_X7_weigh_b39 M_X7_weigh_b65 M_X7_weigh_b71
  have hin : inb (nI k) 6 := pu_inb hk (by decide)
  simp only [if_pos hin]
  rw [ed, nI_clamp (by omega), if_neg n10, if_pos trivial]
  unfold wv
  by_cases a1 : is = 1000000
  · simp only [if_pos a1, ite_self]
  · by_cases a2 : is = -1000000
    · simp only [if_neg a1, if_pos a2, ite_self]
    · simp only [if_neg a1, if_neg a2]
      by_cases w : k % 2 = 0
      · rw [if_pos (eq0.mpr w), if_pos w]
        by_cases c : is ≤ values k
        · rw [if_pos c, if_neg (Int32.not_lt.mpr c)]
        · rw [if_neg c, if_pos (Int32.not_le.mp c)]
      · rw [if_neg (fun z => w (eq0.mp z)), if_neg w]
        by_cases c : values k ≤ is
        · rw [if_pos c, if_neg (Int32.not_lt.mpr c)]
        · rw [if_neg c, if_pos (Int32.not_le.mp c)]
theorem so_C {k : Nat} (hk : k < 2 ^ 31) : M_X7_startOf (nI k) = s0v k := by
  have ed : nI k - nI k / (2 : Int32) * (2 : Int32) = nI (k % 2) := pk_rem (d := 2) hk (by decide) (by decide)
  have eq0 : (nI (k % 2) = 0) ↔ k % 2 = 0 := by rw [show (0 : Int32) = nI 0 from rfl, nI_eq (by omega) (by omega)]
  unfold M_X7_startOf s0v
  rw [ed]
  by_cases w : k % 2 = 0
  · rw [if_pos (eq0.mpr w), if_pos w]
  · rw [if_neg (fun z => w (eq0.mp z)), if_neg w]
def du_K (now : Nat → Int32) (n : Nat) : (Nat → Int32) → (Nat → Int32) → (Nat → Int32) → Int32 → Int32 → Int32 → Int32 → Int32 → Option (Int32 × (Nat → Int32) × (Nat → Int32) × (Nat → Int32) × Int32 × Int32) :=
  fun hand' choices' values' askedIs' partedBy' x2' x3' x4' => M_X7_duel_b70 now n hand' choices' values' askedIs' partedBy' x2' x3' x4'
def du_S (R A : Nat) (kinds strengths moved : Nat → Int32) (now : Nat → Int32) (s0 : Int64) (T d k : Nat) : Prop :=
  ∀ (n : Nat) (hand choices values : Nat → Int32) (asked pb x3 : Int32) (x : Option Int64), 4 ^ d ≤ n → pre R kinds strengths moved s0 choices k x → (∀ j, k ≤ j → j < T → choices j = 0 ∧ values j = s0v j) →
    ∃ hand' choices' values' pb' f, M_X7_duel_b70 now n hand choices values asked pb (nI T) x3 1 = M_X7_duel_b89 now (du_K now (n - 4 ^ d)) f hand' choices' values' asked pb' (nI T) (dv R kinds strengths moved d k x) (nI k - 1) 1 ∧ f + d = x_fuel ∧ (∀ j, j < k → choices' j = choices j ∧ values' j = values j) ∧ ∀ j, k ≤ j → j < T → choices' j = 0 ∧ values' j = s0v j
theorem du_one {s0 : Int64} {T d k c : Nat} (hT : T ≤ 6) (hk : k + (d + 1) = T) (hc : c < 4) (ih : du_S R A kinds strengths moved now s0 T d (k + 1)) (n : Nat) (hand choices values : Nat → Int32) (asked pb x3 : Int32) (x : Option Int64) (hn : 4 ^ d ≤ n)
    (hp : pre R kinds strengths moved s0 choices k x) (hck : choices k = nI c) (hz : ∀ j, k < j → j < T → choices j = 0 ∧ values j = s0v j) :
    ∃ hand' choices' values' pb' x3', (∀ j, j < k → choices' j = choices j ∧ values' j = values j) ∧ (∀ j, k < j → j < T → choices' j = 0 ∧ values' j = s0v j) ∧
      (c < 3 → M_X7_duel_b70 now n hand choices values asked pb (nI T) x3 1 = M_X7_duel_b70 now (n - 4 ^ d) hand' choices' values' asked pb' (nI T) x3' 1 ∧ choices' k = nI (c + 1) ∧ values' k = wv k (values k) (dv R kinds strengths moved d (k + 1) (dst R kinds strengths moved k c x))) ∧
      (c = 3 → ∃ f, M_X7_duel_b70 now n hand choices values asked pb (nI T) x3 1 = M_X7_duel_b89 now (du_K now (n - 4 ^ d)) f hand' choices' values' asked pb' (nI T) (wv k (values k) (dv R kinds strengths moved d (k + 1) (dst R kinds strengths moved k c x))) (nI k - 1) 1 ∧ f + (d + 1) = x_fuel ∧ choices' k = 0 ∧ values' k = s0v k) := by
  obtain ⟨hand1, choices1, values1, pb1, f, e1, e2, e3, e4⟩ := ih n hand choices values asked pb x3 _ hn (pre_s hp hck hc) (fun j h1 h2 => hz j (by omega) h2)
  obtain ⟨f, rfl⟩ : ∃ z, f = z + 2 := ⟨f - 2, by unfold x_fuel at e2; omega⟩
  obtain ⟨a1, a2⟩ := e3 k (by omega)
  rw [nI_pred, M_X7_duel_b89, if_neg (nI_pos (by omega)), if_neg n10, wg_C (by omega), Option.bind_some, if_pos (pu_inb (by omega) (by decide)), nI_clamp (by omega), pu_us, a1, hck, nI_1, a2] at e1
  by_cases q : c = 3
  · subst q
    rw [if_pos (show nI (3 + 1) = 4 from rfl)] at e1
    unfold M_X7_duel_b133 at e1
    rw [if_neg n10, if_pos (pu_inb (by omega) (by decide)), nI_clamp (by omega), pu_us, so_C (by omega), show nI k + (-1 : Int32) = nI k - 1 from (Int32.sub_eq_add_neg _ _).symm] at e1
    refine ⟨hand1, _, _, pb1, 0, ?_, ?_, fun h => absurd h (by omega), fun _ => ⟨f + 1, e1, by omega, pu_us, pu_us⟩⟩
    · intro j hj
      rw [pu_un (by omega), pu_un (by omega), pu_un (by omega), pu_un (by omega)]
      exact e3 j (by omega)
    · intro j h1 h2
      rw [pu_un (by omega), pu_un (by omega), pu_un (by omega), pu_un (by omega)]
      exact e4 j (by omega) h2
  · rw [if_neg (eN 4 (by omega) (by omega))] at e1
    unfold M_X7_duel_b133 at e1
    rw [if_pos p00] at e1
    dsimp only at e1
    rw [M_X7_duel_b89, if_neg (nI_pos (by omega)), if_pos p00] at e1
    unfold M_X7_duel_b174 M_X7_duel_b184 at e1
    rw [if_neg (nI_pos (by omega))] at e1
    refine ⟨hand1, _, _, pb1, _, ?_, ?_, fun _ => ⟨e1, pu_us, pu_us⟩, fun h => absurd h q⟩
    · intro j hj
      rw [pu_un (by omega), pu_un (by omega)]
      exact e3 j (by omega)
    · intro j h1 h2
      rw [pu_un (by omega), pu_un (by omega)]
      exact e4 j (by omega) h2
theorem du_all (h1 : pu_RS R A kinds strengths moved needs forbids now) {s0 : Int64} (h2 : pu_CD R s0 now) {T : Nat} (hT : T ≤ 6) : ∀ (d k : Nat), k + d = T → du_S R A kinds strengths moved now s0 T d k := by
  intro d
  induction d with
  | zero =>
    intro k hk n hand choices values asked pb x3 x hn hp hz
    obtain ⟨n, rfl⟩ : ∃ z, n = z + 1 := ⟨n - 1, by omega⟩
    obtain rfl : k = T := by omega
    obtain ⟨m', pb', e⟩ := gc_C h1 h2 hT hp hand pb
    rw [M_X7_duel_b70, if_neg n10, e, Option.bind_some]
    exact ⟨m', choices, values, pb', x_fuel, rfl, rfl, fun _ _ => ⟨rfl, rfl⟩, hz⟩
  | succ d ih =>
    intro k hk n hand choices values asked pb x3 x hn hp hz
    have i1 := ih (k + 1) (by omega)
    have hn4 : 4 ^ d + 4 ^ d + 4 ^ d + 4 ^ d ≤ n := by rw [Nat.pow_succ] at hn; omega
    obtain ⟨a0, v0⟩ := hz k (by omega) (by omega)
    obtain ⟨hand1, ch1, va1, pb1, y1, b1, c1, d1, -⟩ := du_one hT hk (c := 0) (by omega) i1 n hand choices values asked pb x3 x (by omega) hp a0 (fun j q1 q2 => hz j (by omega) q2)
    obtain ⟨f1, g1, k1⟩ := d1 (by omega)
    obtain ⟨hand2, ch2, va2, pb2, y2, b2, c2, d2, -⟩ := du_one hT hk (c := 1) (by omega) i1 (n - 4 ^ d) hand1 ch1 va1 asked pb1 y1 x (by omega) (pre_of hp (fun j hj => (b1 j hj).1)) g1 c1
    obtain ⟨f2, g2, k2⟩ := d2 (by omega)
    obtain ⟨hand3, ch3, va3, pb3, y3, b3, c3, d3, -⟩ := du_one hT hk (c := 2) (by omega) i1 (n - 4 ^ d - 4 ^ d) hand2 ch2 va2 asked pb2 y2 x (by omega) (pre_of hp (fun j hj => by rw [(b2 j hj).1, (b1 j hj).1])) g2 c2
    obtain ⟨f3, g3, k3⟩ := d3 (by omega)
    obtain ⟨hand4, ch4, va4, pb4, y4, b4, c4, -, d4⟩ := du_one hT hk (c := 3) (by omega) i1 (n - 4 ^ d - 4 ^ d - 4 ^ d) hand3 ch3 va3 asked pb3 y3 x (by omega) (pre_of hp (fun j hj => by rw [(b3 j hj).1, (b2 j hj).1, (b1 j hj).1])) g3 c3
    obtain ⟨f, f4, l4, g4, k4⟩ := d4 rfl
    refine ⟨hand4, ch4, va4, pb4, f, ?_, l4, fun j hj => ⟨?_, ?_⟩, fun j q1 q2 => ?_⟩
    · rw [f1, f2, f3, f4, k3, k2, k1, v0, show n - 4 ^ d - 4 ^ d - 4 ^ d - 4 ^ d = n - 4 ^ (d + 1) by rw [Nat.pow_succ]; omega]
      rfl
    · rw [(b4 j hj).1, (b3 j hj).1, (b2 j hj).1, (b1 j hj).1]
    · rw [(b4 j hj).2, (b3 j hj).2, (b2 j hj).2, (b1 j hj).2]
    · by_cases w : j = k
      · subst w; exact ⟨g4, k4⟩
      · exact c4 j (by omega) q2
end
section
variable {R A D : Nat} {kinds strengths moved needs forbids now : Nat → Int32} {st : Nat → Int64}
theorem b35_C {T : Nat} (hT : T ≤ 6) (hand choices values : Nat → Int32) (asked pb x3 : Int32) :
    ∃ choices' values', M_X7_duel_b35 now x_fuel hand choices values asked pb (nI T) x3 0 = M_X7_duel_b70 now x_fuel hand choices' values' asked pb (nI T) x3 1 ∧ ∀ j, j < T → choices' j = 0 ∧ values' j = s0v j :=
  pu_lp (fun n k (z : (Nat → Int32) × (Nat → Int32)) => ∃ choices' values', M_X7_duel_b35 now n hand z.1 z.2 asked pb (nI T) x3 (nI k) = M_X7_duel_b70 now x_fuel hand choices' values' asked pb (nI T) x3 1 ∧ ∀ j, j < T → choices' j = 0 ∧ values' j = s0v j)
    (fun k z => ∀ j, j < k → z.1 j = 0 ∧ z.2 j = s0v j) T (by omega)
    (fun n z hz => ⟨z.1, z.2, by rw [M_X7_duel_b35, if_pos (pu_le (by omega) (by omega) (Nat.le_refl T))], hz⟩)
    (fun n k z hk hz ih => by
      rw [M_X7_duel_b35, if_neg (nI_ge hk (by omega)), if_pos (pu_inb (by omega) (by decide)), nI_clamp (by omega), so_C (by omega), nI_1]
      refine ih (_, _) (fun j hj => ?_)
      by_cases e : j = k
      · subst e; exact ⟨pu_us, pu_us⟩
      · show upd z.1 k 0 j = 0 ∧ upd z.2 k (s0v k) j = s0v j
        rw [pu_un e, pu_un e]; exact hz j (by omega))
    (choices, values) (fun j hj => absurd hj (by omega))
theorem p_duel (h : pu_C R A kinds strengths moved needs forbids st D now) (hand choices values : Nat → Int32) (la rch pb x1 : Int32) :
    ∃ v la' rch' hand' choices' values' pb', M_X6_duel st (nI D) (nI R) kinds strengths moved la rch x1 = some (v, la', rch') ∧ M_X7_duel now hand choices values la pb x1 = some (v, hand', choices', values', la', pb') := by
  obtain ⟨h1, h2, h3, -⟩ := h
  have hR := h1.1
  unfold M_X6_duel M_X7_duel M_X2_isEmpty
  rw [h1.2.2.1]
  rcases in_0N 3 (by decide) 3 (by decide) x1 with ⟨v, hv, rfl, e⟩ | ⟨q, e⟩
  · rw [e, if_neg n10, if_neg (nI_pos (by omega)), if_pos (aL 3 hv)]
    by_cases q : R = 0
    · subst q
      exact ⟨_, _, _, _, _, _, _, rfl, rfl⟩
    rw [if_neg (eN 0 q (by omega)), if_neg (eN 0 q (by omega)), if_pos p00, now_C h3, Option.bind_some, show (2 : Int32) * nI v = nI (2 * v) from pk_mul 2 v]
    have emin : M_J9_min_7cf53 (nI (2 * v)) 6 = nI (2 * v) := by
      unfold M_J9_min_7cf53
      rw [if_neg (rN 6 (by omega))]
    obtain ⟨rch', e1⟩ := pl_C (A := A) (needs := needs) (forbids := forbids) (2 * v) 0 10 rch (st D) (by omega) (by omega) (by omega) ⟨now, h1, h2⟩
    unfold M_X3_outcome
    rw [emin, e1, Option.bind_some, Option.bind_some]
    obtain ⟨ch', va', k1, k2⟩ := b35_C (now := now) (T := 2 * v) (by omega) hand choices values la pb 0
    have hp4 : (4 : Nat) ^ (2 * v) ≤ 4 ^ 6 := Nat.pow_le_pow_right (by decide) (by omega)
    obtain ⟨hand1, ch1, va1, pb1, f, k3, k4, -, -⟩ := du_all h1 h2 (T := 2 * v) (by omega) (2 * v) 0 (by omega) x_fuel hand ch' va' la pb 0 (some (st D)) (by unfold x_fuel; omega) ⟨fun _ => 0, fun j hj => absurd hj (by omega), rfl⟩ (fun j _ hj => k2 j hj)
    obtain ⟨f, rfl⟩ : ∃ z, f = z + 1 := ⟨f - 1, by unfold x_fuel at k4; omega⟩
    obtain ⟨n', hn'⟩ : ∃ z, x_fuel - 4 ^ (2 * v) = z + 1 := ⟨x_fuel - 4 ^ (2 * v) - 1, by unfold x_fuel; omega⟩
    have hneg : nI 0 - (1 : Int32) < 0 := by decide
    refine ⟨(M_X6_tell la (dv R kinds strengths moved (2 * v) 0 (some (st D)))).1, (M_X6_tell la (dv R kinds strengths moved (2 * v) 0 (some (st D)))).2, rch', hand1, ch1, va1, pb1, rfl, ?_⟩
    · show M_X7_duel_b35 now x_fuel hand choices values la pb (nI (2 * v)) 0 0 = _
      rw [k1, k3, M_X7_duel_b89, if_pos hneg]
      unfold M_X7_duel_b174 M_X7_duel_b184
      rw [if_pos hneg, hn']
      unfold du_K
      rw [M_X7_duel_b70, if_pos p00]
      rfl
  · rw [e, if_pos p00]
    refine ⟨-1, la, rch, hand, choices, values, pb, ?_, rfl⟩
    by_cases q0 : x1 < 0
    · rw [if_pos q0]
    · rw [if_neg q0, if_neg (show ¬ x1 ≤ (3 : Int32) from q.resolve_left q0)]
end
