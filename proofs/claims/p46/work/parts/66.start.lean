/-! THE LAW, its start: the acts, the ropes, the court -/
theorem ac_1 {R : Nat} (hR : R ≤ 6) {t N : Int32} : ((t &&& N) &&& (((1 : Int32) <<< (nI R &&& (31 : Int32))) - 1)) = (N &&& (((1 : Int32) <<< (nI R &&& (31 : Int32))) - 1)) ↔ ∀ j, j < R → bt N j = true → bt t j = true := by
  constructor
  · intro h j hj hN
    have e : bt ((t &&& N) &&& (((1 : Int32) <<< (nI R &&& (31 : Int32))) - 1)) j = bt (N &&& (((1 : Int32) <<< (nI R &&& (31 : Int32))) - 1)) j := by rw [h]
    rw [b_and, b_and, b_and, all_b R (by omega) j (by omega), hN, decide_eq_true hj] at e
    cases ht : bt t j
    · rw [ht] at e; exact absurd e (by decide)
    · rfl
  · intro h
    apply b_ext
    intro j hj
    rw [b_and, b_and, b_and, all_b R (by omega) j hj]
    by_cases q : j < R
    · cases hN : bt N j
      · rw [Bool.and_false]
      · rw [h j q hN]; rfl
    · rw [decide_eq_false q, Bool.and_false, Bool.and_false]
theorem ac_2 {R : Nat} {t F : Int32} (ht : ∀ j, j < 32 → R ≤ j → bt t j = false) (hR : R ≤ 6) : (t &&& F) = 0 ↔ ∀ j, j < R → bt F j = true → bt t j = false := by
  rw [bx_0]
  constructor
  · intro h j hj hF
    have e := h j (by omega)
    rw [b_and, hF, Bool.and_true] at e
    exact e
  · intro h j hj
    rw [b_and]
    by_cases q : j < R
    · cases hF : bt F j
      · rw [Bool.and_false]
      · rw [h j q hF]; rfl
    · rw [ht j hj (by omega)]; rfl
theorem ac_3 {R : Nat} {needs forbids : Nat → Int32} {t : Int32} {a : Nat} : law1 R needs forbids t a = true ↔ (∀ j, j < R → bt (needs a) j = true → bt t j = true) ∧ (∀ j, j < R → bt (forbids a) j = true → bt t j = false) := by
  unfold law1
  rw [decide_eq_true_iff]
  exact ⟨fun h => ⟨fun j hj => (h j hj).1, fun j hj => (h j hj).2⟩, fun h j hj => ⟨h.1 j hj, h.2 j hj⟩⟩
theorem lt_A : ∀ A, A < 5 → ∀ v, v < 64 → (∀ j, j < 6 → A ≤ j → bt (nI v) j = false) → nI v < (1 : Int32) <<< (nI A &&& (31 : Int32)) := by decide +kernel
theorem smF_R {R : Nat} {s : Int64} (h : ∀ j, R ≤ j → j < 6 → sv s j = 0) : ∀ d, R + d ≤ 6 → smF s (R + d) = smF s R := by
  intro d
  induction d with
  | zero => intro _; rfl
  | succ d ih =>
    intro hd
    show smF s (R + d) + sv s (R + d) = _
    rw [ih (by omega), h (R + d) (by omega) (by omega), Nat.add_zero]
section
variable {R A D : Nat} {kinds strengths moved needs forbids : Nat → Int32} {Y : x_Y} {lf : Int32} {la : Int32} {up : Int64} {lo : Int64} {rsz : Nat → Int32} {rpl : Nat → Nat → Int32} {st : Nat → Int64} {ks : Nat → Nat → Int64} {kz : Nat → Int32} {fc : Nat → Int32} {rch : Int32} {tr : Nat → Int32}
variable {D0 L : Nat} {xs row row' sc : Nat → Int32}
theorem L_346 (hL : L ≤ 260) (hB : HB R A D0 kinds strengths moved needs forbids row row' Y ks kz) (hz : zk 6 40 rsz) (hst : ∀ d, d ≤ D0 → st d = ks 0 d) (hsc : ∀ i, i < R → sc i = nI (sv (ks 0 D0) i)) :
    ∀ (d a fu : Nat), a + d = A → d < fu → M_L_law_b346 xs L fu row' (TS Y R A kinds strengths moved needs forbids lf la up lo rsz rpl st (nI D0) ks kz fc rch tr) sc (nI R) (nI A) (nI D0) (M_X5_frostIn (ks 0 D0)) (tautF (ks 0 D0)) (M_X5_letGo (ks 0 D0)) (M_X5_parted (ks 0 D0)) (lawF R A needs forbids (tautF (ks 0 D0))) (nI a) = some () := by
  have hRS := hB.2.1
  have hR := hRS.1
  have hA := hRS.2.1
  have hV := hB.2.2.2.2.2.2.2.2.1
  intro d
  induction d with
  | zero =>
    intro a fu h1 h2
    obtain ⟨fu, rfl⟩ : ∃ q, fu = q + 1 := ⟨fu - 1, by omega⟩
    obtain rfl : a = A := by omega
    have fin := L_438 (xs := xs) (L := L) (up := up) (lo := lo) (rpl := rpl) (lf := lf) (fc := fc) (tr := tr) hL hB hz hsc R 0 x_fuel la st rch (by omega) (by unfold x_fuel; omega) hst
    rw [M_L_law_b346, if_pos (pu_le (by omega) (by omega) (Nat.le_refl a))]
    exact fin
  | succ d ih =>
    intro a fu h1 h2
    obtain ⟨fu, rfl⟩ : ∃ q, fu = q + 1 := ⟨fu - 1, by omega⟩
    have ha : a < A := by omega
    have fin := ih (a + 1) fu (by omega) (by omega)
    obtain ⟨r1, r2, -⟩ := hRS.2.2.2.2.2 a ha
    have bit := (V_lawb hV).1 a (by omega)
    rw [decide_eq_true ha, Bool.true_and] at bit
    rw [M_L_law_b346, if_neg (nI_ge ha (by omega)), if_pos (i38 27 (by omega)), cO' 27 (by omega), r1]
    unfold M_L_law_b403 M_L_law_b404 M_L_law_b424
    rw [bitI _ (show a < 32 by omega), bit, nI_1]
    have i31 : inb ((31 : Int32) + nI a) 38 := i38 31 (by omega)
    have c31 : ((31 : Int32) + nI a).toNatClampNeg = 31 + a := cO' 31 (by omega)
    by_cases c1 : ((tautF (ks 0 D0) &&& needs a) &&& (((1 : Int32) <<< (nI R &&& (31 : Int32))) - 1)) = (needs a &&& (((1 : Int32) <<< (nI R &&& (31 : Int32))) - 1))
    · rw [if_pos c1, if_pos i31, c31, r2]
      by_cases c2 : (tautF (ks 0 D0) &&& forbids a) = 0
      · have hl : law1 R needs forbids (tautF (ks 0 D0)) a = true := ac_3.mpr ⟨(ac_1 hR).mp c1, (ac_2 (fun j hj h => V_all hV hj h) hR).mp c2⟩
        rw [if_pos c2, hl, if_pos (show (if true = true then (1 : Int32) else 0) = 1 by decide), (if_pos (by first | rfl | trivial))]
        exact fin
      · have hl : law1 R needs forbids (tautF (ks 0 D0)) a = false := by
          cases h : law1 R needs forbids (tautF (ks 0 D0)) a
          · rfl
          · exact absurd ((ac_2 (fun j hj h => V_all hV hj h) hR).mpr (ac_3.mp h).2) c2
        rw [if_neg c2, hl, if_neg (show ¬ (if false = true then (1 : Int32) else 0) = 1 by decide), (if_pos (by first | rfl | trivial))]
        exact fin
    · have hl : law1 R needs forbids (tautF (ks 0 D0)) a = false := by
        cases h : law1 R needs forbids (tautF (ks 0 D0)) a
        · rfl
        · exact absurd ((ac_1 hR).mpr (ac_3.mp h).1) c1
      rw [if_neg c1, hl, if_neg (show ¬ (if false = true then (1 : Int32) else 0) = 1 by decide), (if_pos (by first | rfl | trivial))]
      exact fin
theorem L_269 {k139 : (Nat → Int32) → x_S → (Nat → Int32) → Int32 → Int32 → Int32 → Int32 → Int32 → Int32 → Int32 → Int32 → Int32 → Int32 → Option (Unit)} {x12 : Int32} (hB : HB R A D0 kinds strengths moved needs forbids row row' Y ks kz) (eS : st D0 = ks 0 D0) {k : Nat} (hk : k < R)
    (h : ∀ la : Int32, k139 row' (TS Y R A kinds strengths moved needs forbids lf la up lo rsz rpl st (nI D0) ks kz fc rch tr) sc (nI R) (nI A) (nI D0) (M_X5_frostIn (ks 0 D0)) (tautF (ks 0 D0)) (M_X5_letGo (ks 0 D0)) (M_X5_parted (ks 0 D0)) (lawF R A needs forbids (tautF (ks 0 D0))) x12 (nI (k + 1)) = some ()) {s0 s1 : Int32} (e : s0 = s1) :
    M_L_law_b269 xs L k139 row' (TS Y R A kinds strengths moved needs forbids lf la up lo rsz rpl st (nI D0) ks kz fc rch tr) sc (nI R) (nI A) (nI D0) (M_X5_frostIn (ks 0 D0)) (tautF (ks 0 D0)) (M_X5_letGo (ks 0 D0)) (M_X5_parted (ks 0 D0)) (lawF R A needs forbids (tautF (ks 0 D0))) x12 (nI k) s0 s1 = some () := by
  have hR := hB.2.1.1
  have hD0 : D0 ≤ 9 := hB.2.2.2.1
  unfold M_L_law_b269
  rw [if_pos e, t_told4 (by omega) hR hk, Option.bind_some]
  dsimp only
  rw [eS, bitI _ (show k < 32 by omega), st_letGo _ (show k < 32 by omega), decide_eq_true (show k < 6 by omega), Bool.true_and]
  rw [if_pos (by cases bl (ks 0 D0) (24 + k) <;> decide), t_told5 (by omega) hR hk, Option.bind_some]
  dsimp only
  rw [eS, bitI _ (show k < 32 by omega), st_parted _ (show k < 32 by omega), decide_eq_true (show k < 6 by omega), Bool.true_and, (if_pos (by first | rfl | trivial)), nI_1]
  exact h _
theorem L_240 {k139 : (Nat → Int32) → x_S → (Nat → Int32) → Int32 → Int32 → Int32 → Int32 → Int32 → Int32 → Int32 → Int32 → Int32 → Int32 → Option (Unit)} {x12 : Int32} (hB : HB R A D0 kinds strengths moved needs forbids row row' Y ks kz) (eS : st D0 = ks 0 D0) {k : Nat} (hk : k < R) (es : sc k = nI (sv (ks 0 D0) k))
    (h : ∀ la : Int32, k139 row' (TS Y R A kinds strengths moved needs forbids lf la up lo rsz rpl st (nI D0) ks kz fc rch tr) sc (nI R) (nI A) (nI D0) (M_X5_frostIn (ks 0 D0)) (tautF (ks 0 D0)) (M_X5_letGo (ks 0 D0)) (M_X5_parted (ks 0 D0)) (lawF R A needs forbids (tautF (ks 0 D0))) x12 (nI (k + 1)) = some ()) :
    M_L_law_b240 xs L k139 row' (TS Y R A kinds strengths moved needs forbids lf la up lo rsz rpl st (nI D0) ks kz fc rch tr) sc (nI R) (nI A) (nI D0) (M_X5_frostIn (ks 0 D0)) (tautF (ks 0 D0)) (M_X5_letGo (ks 0 D0)) (M_X5_parted (ks 0 D0)) (lawF R A needs forbids (tautF (ks 0 D0))) x12 (nI k) = some () := by
  have hR := hB.2.1.1
  have hv := sv_lt (ks 0 D0) k
  unfold M_L_law_b240 M_L_law_b253
  rw [if_pos (pu_inb (show k < 6 by omega) (by decide)), nI_clamp (by omega), es, bitI _ (show k < 32 by omega), st_t _ (show k < 32 by omega), decide_eq_true (show k < 6 by omega), Bool.true_and]
  by_cases q : sv (ks 0 D0) k = 0
  · rw [decide_eq_true (sv_0.mp q), q, if_pos (show nI 0 ≤ 0 by decide), if_neg (show ¬ (if (!true) = true then (1 : Int32) else 0) = 1 by decide)]
    exact L_269 hB eS hk h rfl
  · rw [decide_eq_false (fun z => q (sv_0.mpr z)), if_neg (aN 0 (by omega) (by omega)), if_pos (show (if (!false) = true then (1 : Int32) else 0) = 1 by decide)]
    exact L_269 hB eS hk h rfl
theorem L_186 {k139 : (Nat → Int32) → x_S → (Nat → Int32) → Int32 → Int32 → Int32 → Int32 → Int32 → Int32 → Int32 → Int32 → Int32 → Int32 → Option (Unit)} {x12 : Int32} (hB : HB R A D0 kinds strengths moved needs forbids row row' Y ks kz) (eS : st D0 = ks 0 D0) {k : Nat} (hk : k < R) (es : sc k = nI (sv (ks 0 D0) k)) {s0 : Int32} (h0 : s0 = 0 ∨ sv (ks 0 D0) k = 0)
    (h : ∀ la : Int32, k139 row' (TS Y R A kinds strengths moved needs forbids lf la up lo rsz rpl st (nI D0) ks kz fc rch tr) sc (nI R) (nI A) (nI D0) (M_X5_frostIn (ks 0 D0)) (tautF (ks 0 D0)) (M_X5_letGo (ks 0 D0)) (M_X5_parted (ks 0 D0)) (lawF R A needs forbids (tautF (ks 0 D0))) x12 (nI (k + 1)) = some ()) :
    M_L_law_b186 xs L k139 row' (TS Y R A kinds strengths moved needs forbids lf la up lo rsz rpl st (nI D0) ks kz fc rch tr) sc (nI R) (nI A) (nI D0) (M_X5_frostIn (ks 0 D0)) (tautF (ks 0 D0)) (M_X5_letGo (ks 0 D0)) (M_X5_parted (ks 0 D0)) (lawF R A needs forbids (tautF (ks 0 D0))) x12 (nI k) s0 = some () := by
  have hRS := hB.2.1
  have hR := hRS.1
  have hD0 : D0 ≤ 9 := hB.2.2.2.1
  have hv := sv_lt (ks 0 D0) k
  have hin : inb (nI k) 6 := pu_inb (show k < 6 by omega) (by decide)
  have go : ∀ (la s1 s2 : Int32) (w : Nat), s1 + s2 = nI w → sv (ks 0 D0) k ≤ w → w < 2 ^ 31 → M_L_law_b223 xs L k139 row' (TS Y R A kinds strengths moved needs forbids lf la up lo rsz rpl st (nI D0) ks kz fc rch tr) sc (nI R) (nI A) (nI D0) (M_X5_frostIn (ks 0 D0)) (tautF (ks 0 D0)) (M_X5_letGo (ks 0 D0)) (M_X5_parted (ks 0 D0)) (lawF R A needs forbids (tautF (ks 0 D0))) x12 (nI k) s0 (nI (sv (ks 0 D0) k)) s1 s2 = some () := by
    intro la s1 s2 w e1 e2 e3
    unfold M_L_law_b223
    rw [e1, if_neg (pu_nlt (by omega) (by omega) e2)]
    by_cases q : s0 = 0
    · rw [if_pos q]
      exact L_240 hB eS hk es h
    · rw [if_neg q, if_pos hin, nI_clamp (by omega), es, if_pos (show nI (sv (ks 0 D0) k) = 0 by rw [h0.resolve_left q]; rfl)]
      exact L_240 hB eS hk es h
  obtain ⟨r1, -⟩ := hRS.2.2.2.2.1 k hk
  obtain ⟨-, hh⟩ := hd_e hRS hk
  have hg := hB.2.2.2.2.2.2.2.2.2.1.1 k hk
  unfold M_L_law_b186
  rw [if_pos hin, nI_clamp (by omega), es, if_neg (nI_pos (by omega)), t_told1 (by omega) hRS hk, Option.bind_some]
  dsimp only
  rw [if_pos (i38 2 (by omega)), cO' 2 (by omega), r1]
  by_cases q : kinds k = 2
  · rw [if_pos q] at hg
    rw [if_pos q]
    exact go _ _ _ (hd R kinds strengths k + 1) (by rw [nI_1]) hg (by omega)
  · rw [if_neg q] at hg
    rw [if_neg q]
    exact go _ _ _ (hd R kinds strengths k + 0) (nI_add _ 0) hg (by omega)
theorem L_139 (hL : L ≤ 260) (hB : HB R A D0 kinds strengths moved needs forbids row row' Y ks kz) (hz : zk 6 40 rsz) (hst : ∀ d, d ≤ D0 → st d = ks 0 d) :
    ∀ (d k fu : Nat) (la : Int32) (sc : Nat → Int32), k + d = R → d < fu → (∀ i, i < k → sc i = nI (sv (ks 0 D0) i)) → M_L_law_b139 xs L fu row' (TS Y R A kinds strengths moved needs forbids lf la up lo rsz rpl st (nI D0) ks kz fc rch tr) sc (nI R) (nI A) (nI D0) (M_X5_frostIn (ks 0 D0)) (tautF (ks 0 D0)) (M_X5_letGo (ks 0 D0)) (M_X5_parted (ks 0 D0)) (lawF R A needs forbids (tautF (ks 0 D0))) (nI (smF (ks 0 D0) k)) (nI k) = some () := by
  have hRS := hB.2.1
  have hR := hRS.1
  have hA := hRS.2.1
  have hA1 := hB.1.2.2.1
  have hD0 : D0 ≤ 9 := hB.2.2.2.1
  have hV := hB.2.2.2.2.2.2.2.2.1
  have hG := hB.2.2.2.2.2.2.2.2.2.1
  have eS : st D0 = ks 0 D0 := hst D0 (Nat.le_refl _)
  intro d
  induction d with
  | zero =>
    intro k fu la sc h1 h2 hsc
    obtain ⟨fu, rfl⟩ : ∃ q, fu = q + 1 := ⟨fu - 1, by omega⟩
    obtain rfl : k = R := by omega
    obtain ⟨hb, v, hv, ev⟩ := V_lawb hV
    have fin := L_346 (xs := xs) (L := L) (la := la) (rch := rch) (up := up) (lo := lo) (rpl := rpl) (lf := lf) (fc := fc) (tr := tr) hL hB hz hst hsc A 0 x_fuel (by omega) (by unfold x_fuel; omega)
    have hsm : smF (ks 0 D0) k = smF (ks 0 D0) 6 := by
      have := smF_R (R := k) (s := ks 0 D0) (fun j h1 h2 => by
        obtain ⟨m, -, h3⟩ := hV
        exact sv_0.mpr (h3.2.1 j h1 h2)) (6 - k) (by omega)
      rw [show k + (6 - k) = 6 by omega] at this
      exact this.symm
    have l1 : ¬ lawF k A needs forbids (tautF (ks 0 D0)) < 0 := by rw [ev]; exact nI_pos (by omega)
    have l2 : lawF k A needs forbids (tautF (ks 0 D0)) < (1 : Int32) <<< (nI A &&& (31 : Int32)) := by
      rw [ev]
      refine lt_A A (by omega) v hv (fun j h1 h2 => ?_)
      rw [← ev, hb j (by omega), decide_eq_false (by omega)]; rfl
    rw [M_L_law_b139, if_pos (pu_le (by omega) (by omega) (Nat.le_refl k)), t_c7 (by omega), Option.bind_some, eS, if_pos (by rw [hsm]), if_neg l1, if_pos l2]
    exact fin
  | succ d ih =>
    intro k fu la sc h1 h2 hsc
    obtain ⟨fu, rfl⟩ : ∃ q, fu = q + 1 := ⟨fu - 1, by omega⟩
    have hk : k < R := by omega
    have hsc' : ∀ i, i < k + 1 → upd sc k (nI (sv (ks 0 D0) k)) i = nI (sv (ks 0 D0) i) := fun i hi => by
      by_cases e : i = k
      · subst e; exact pu_us
      · rw [pu_un e]; exact hsc i (by omega)
    have ek : upd sc k (nI (sv (ks 0 D0) k)) k = nI (sv (ks 0 D0) k) := pu_us
    have fin := fun la : Int32 => ih (k + 1) fu la (upd sc k (nI (sv (ks 0 D0) k))) (by omega) (by omega) hsc'
    rw [M_L_law_b139, if_neg (nI_ge hk (by omega)), t_told3 (by omega) hR hk, Option.bind_some]
    dsimp only
    rw [eS, if_pos (pu_inb (show k < 6 by omega) (by decide)), nI_clamp (by omega), ek, nI_add, bitI _ (show k < 32 by omega), off_b _ (show k < 6 by omega)]
    cases hb : (bl (ks 0 D0) (24 + k) || bl (ks 0 D0) (30 + k))
    · rw [if_neg (show ¬ (if false = true then (1 : Int32) else 0) = 1 by decide)]
      exact L_186 hB eS hk ek (.inl rfl) fin
    · rw [if_pos (show (if true = true then (1 : Int32) else 0) = 1 by decide)]
      exact L_186 hB eS hk ek (.inr (hG.2 k (by omega) hb)) fin
end
section
variable {L : Nat} {xs : Nat → Int32}
theorem L_13 (hL : L ≤ 260) (S : x_S) (h1 : zk 6 40 S.2.2.2.2.1) (h2 : zk 4 60 S.2.2.2.2.2.2.2.2.2.2.2.1) (row : Nat → Int32) : M_L_law_b13 xs L row S = some () := by
  obtain ⟨R, A, row1, e1, hLW⟩ := lay_T xs hL row
  obtain ⟨row', Y, kinds, strengths, moved, needs, forbids, s, kz, m1, m2, m3, m4, m5, m6, m7⟩ := made_T (S := S) hLW
  have hRS := rs_of hLW m2 m6 m7
  have hR := hRS.1
  have hA := hRS.2.1
  have h0 : 0 < R := hLW.1
  obtain ⟨c1, ec1⟩ := cl_T xs hL (k := 11) (by omega)
  obtain ⟨u, hu, eu⟩ := up_T c1 (n := 9) (by decide) (by decide)
  obtain ⟨c2, ec2⟩ := cl_T xs hL (k := 12) (by omega)
  obtain ⟨w, hw, ew⟩ := up_T c2 (n := 2000000) (by decide) (by decide)
  have hV : pu_V R A kinds strengths moved needs forbids s := V_of hRS (fun j h1 h2 => sv_0.mpr (m2.2.2.2.1 j h1 h2))
  have hG : GS R kinds strengths s := by
    obtain ⟨d1, d2, z1, z2, z3, z4, z5⟩ := m2
    refine ⟨fun i hi => ?_, fun j hj hb => ?_⟩
    · obtain ⟨-, ⟨v, hv1, hv, ev, q, hq, eq⟩, -⟩ := hLW.2.2.2.2.2.2.2.1 i hi
      have es : sv s i = q := sv_of (by omega) (by rw [z1 i hi, eq])
      have eh : strengths i = nI v := by rw [(d1 i hi).2.1, ev]
      obtain ⟨e, -⟩ := hd_e hRS hi
      unfold M_X2_holds at e
      rw [rs_isRope hR hi, if_neg n10, rs_kind hR hi, Option.bind_some, if_pos (pu_inb (show i < 6 by omega) (by omega)), if_pos (pu_inb (show i < 6 by omega) (by omega)), nI_clamp (by omega), eh] at e
      obtain ⟨-, hh⟩ := hd_e hRS hi
      by_cases k2 : kinds i = 2
      · rw [if_pos k2] at e
        rw [if_pos k2]
        have e2 : nI (v - 1) = nI (hd R kinds strengths i) := (pk_sub (b := 1) hv1).symm.trans (Option.some.inj e)
        have := (nI_eq (by omega) (by omega)).mp e2
        omega
      · rw [if_neg k2] at e
        rw [if_neg k2]
        have := (nI_eq (by omega) (by omega)).mp (Option.some.inj e)
        omega
    · have l := st_letGo s (k := j) (by omega)
      have p := st_parted s (k := j) (by omega)
      rw [z3, b_0, decide_eq_true hj, Bool.true_and] at l
      rw [z4, b_0, decide_eq_true hj, Bool.true_and] at p
      rw [← l, ← p] at hb
      exact absurd hb (by decide)
  obtain ⟨v, st', rch', q1, q2, q3, q4, q5⟩ := t_lots (R := R) (A := A) (Y := Y) (lf := S.1) (la := S.2.1) (up := S.2.2.1) (lo := S.2.2.2.1) (rsz := S.2.2.2.2.1) (rpl := S.2.2.2.2.2.1) (st := vp_updL S.2.2.2.2.2.2.1 0 s) (ks := S.2.2.2.2.2.2.2.2.1) (kz := kz) (fc := S.2.2.2.2.2.2.2.2.2.2.1) (rch := 0) (tr := S.2.2.2.2.2.2.2.2.2.2.2.2.2.2.2.2.2.2.2.2.2.2.2.2.2.2.2.2.2.2.2.2.2.2.2.2.2.2) hRS h0 (by rw [pk_uLs]; exact hV) (by rw [pk_uLs]; exact hG) (n := 1 + u) (w := 1 + w) (by omega) (by omega) (by omega) (by omega)
  obtain ⟨ks', k1, k2⟩ := t_keep (R := R) (A := A) (kinds := kinds) (strengths := strengths) (moved := moved) (needs := needs) (forbids := forbids) (Y := Y) (lf := S.1) (la := S.2.1) (up := S.2.2.1) (lo := S.2.2.2.1) (rsz := S.2.2.2.2.1) (rpl := S.2.2.2.2.2.1) (st := st') (D := 1 + u) (ks := S.2.2.2.2.2.2.2.2.1) (kz := kz) (fc := S.2.2.2.2.2.2.2.2.2.2.1) (rch := rch') (tr := S.2.2.2.2.2.2.2.2.2.2.2.2.2.2.2.2.2.2.2.2.2.2.2.2.2.2.2.2.2.2.2.2.2.2.2.2.2.2) (by omega) hR h0
  have eS : st' (1 + u) = ks' 0 (1 + u) := (k2 _ (Nat.le_refl _)).symm
  have e0 : ks' 0 0 = s := by rw [k2 0 (by omega), q3, pk_uLs]
  have hB : HB R A (1 + u) kinds strengths moved needs forbids row1 row' Y ks' (upd kz 0 (nI (1 + u))) := by
    refine ⟨hLW, hRS, m6, by omega, pu_us, ?_, ?_, m5, ?_, ?_, ?_, ?_⟩
    · rw [m4]; exact pu_us
    · rw [m4]; exact zk_upd h2 (by omega)
    · rw [← eS]; exact q4
    · rw [← eS]; exact q5
    · rw [e0]; exact m2.2.2.2.2.2.1
    · rw [e0]; exact m2.2.2.2.2.2.2
  have fin := L_139 (xs := xs) (L := L) (up := S.2.2.1) (lo := S.2.2.2.1) (rpl := S.2.2.2.2.2.1) (lf := S.1) (fc := S.2.2.2.2.2.2.2.2.2.2.1) (tr := S.2.2.2.2.2.2.2.2.2.2.2.2.2.2.2.2.2.2.2.2.2.2.2.2.2.2.2.2.2.2.2.2.2.2.2.2.2.2) (rch := rch') (st := st') hL hB h1 (fun d hd => (k2 d hd).symm) R 0 x_fuel S.2.1 (fun _ => 0) (by omega) (by unfold x_fuel; omega) (fun i hi => absurd hi (by omega))
  unfold M_L_law_b13
  rw [e1, Option.bind_some, m1, Option.bind_some]
  dsimp only
  rw [if_neg n10]
  show Option.bind (M_L_cell xs L (nI 11)) _ = some ()
  rw [ec1, Option.bind_some]
  show Option.bind (M_L_up c1 (nI 9)) _ = some ()
  rw [eu, Option.bind_some]
  show Option.bind (M_L_cell xs L (nI 12)) _ = some ()
  rw [ec2, Option.bind_some]
  show Option.bind (M_L_up c2 (nI 2000000)) _ = some ()
  rw [ew, Option.bind_some, show (1 : Int32) + nI u = nI (1 + u) from nI_add 1 u, show (1 : Int32) + nI w = nI (1 + w) from nI_add 1 w, q2, Option.bind_some]
  dsimp only
  rw [if_neg (nI_pos (by omega)), k1, Option.bind_some]
  dsimp only
  rw [t_c2 (by omega), Option.bind_some, (if_pos (by first | rfl | trivial)), Option.bind_some, t_c3 (by omega), Option.bind_some, t_c4 (by omega), Option.bind_some, t_c5 (by omega), Option.bind_some, t_c6 (by omega), Option.bind_some, t_lawful (by omega) h0 q4, Option.bind_some, eS, hRS.2.2.1, hRS.2.2.2.1]
  unfold M_L_law_b133
  exact fin
end
