/-! PURE PART: fault() and court() -/
def rdP (x : Option (Int32 × (Nat → Int32) × Int32 × Int32 × Int32 × Int32 × Int32 × Int32 × Int64 × Int32 × (Nat → Int32) × (Nat → Int32) × (Nat → Int32) × (Nat → Int32) × (Nat → Int32))) (y : Option (Int32 × (Nat → Int32) × Int32)) : Prop :=
  ∃ v sg sz pl fl hd ro ac stt rch ks ss mv ns fs anew' pl', x = some (v, sg, sz, pl, fl, hd, ro, ac, stt, rch, ks, ss, mv, ns, fs) ∧ y = some (v, anew', pl') ∧ (v = -9 → ∃ R A, ro = nI R ∧ ac = nI A ∧ rdR R A stt ks ss mv ns fs anew')
section
variable {z t : Nat} {signs texts tl shs : Nat → Int32} {shp : Nat → Nat → Int32}
/-- the text's end -/
theorem rd_end (h : tx z t signs texts tl) {R A p n2 : Nat} {start : Int64} {kinds strengths moved needs forbids m : Nat → Int32} (rch : Int32) (hr : rdR R A start kinds strengths moved needs forbids m) :
    rdP (M_X1_read_b47 shs shp signs (nI z) (nI p) (-9) 1 (nI R) (nI A) start rch kinds strengths moved needs forbids) (M_X7_faultOf_b34 texts tl (n2 + 1) m (nI z) (nI t) 1) := by
  have hz := h.2.1
  have hA := hr.2.1
  have e1 := hr.2.2.2.1
  rw [M_X7_faultOf_b34, if_neg n10, if_pos (pu_inb h.1 (by decide)), nI_clamp (have := h.1; by omega), h.2.2.1, if_pos (pu_le (by omega) (by omega) (Nat.le_refl z))]
  unfold M_X1_read_b47 M_X7_faultOf_b87
  rw [if_pos rfl, if_neg n10, e1]
  by_cases q : A = 0
  · subst q
    rw [if_pos (show nI 0 = 0 from rfl), if_pos (show nI 0 ≤ 0 by decide)]
    exact ⟨_, _, _, _, _, _, _, _, _, _, _, _, _, _, _, _, _, rfl, rfl, fun e => absurd e (pu_nI9 (by omega))⟩
  · rw [if_neg (eN 0 q (by omega)), if_neg (nI_nle (by omega) (by omega))]
    exact ⟨_, _, _, _, _, _, _, _, _, _, _, _, _, _, _, _, _, rfl, rfl, fun _ => ⟨R, A, rfl, rfl, hr⟩⟩
/-- a fault was found -/
theorem rd_bad {n1 n2 f : Nat} (hf : f < 100) (sg : Nat → Int32) (sz pl hd ro ac : Int32) (stt : Int64) (rch : Int32) (ks ss mv ns fs m : Nat → Int32) (cnt : Int32) :
    rdP (M_X1_read_b13 shs shp (n1 + 1) sg sz pl (nI f) hd ro ac stt rch ks ss mv ns fs cnt) (M_X7_faultOf_b34 texts tl (n2 + 1) m (nI f) (nI t) 0) := by
  have e : M_X1_read_b13 shs shp (n1 + 1) sg sz pl (nI f) hd ro ac stt rch ks ss mv ns fs cnt = some (nI f, sg, sz, pl, nI f, hd, ro, ac, stt, rch, ks, ss, mv, ns, fs) := by
    rw [M_X1_read_b13]
    unfold M_X1_read_b47
    rw [if_neg (pu_nI9 (by omega)), if_neg (pu_nI9 (by omega)), ite_self]
  rw [e, M_X7_faultOf_b34, if_pos p00]
  unfold M_X7_faultOf_b87
  rw [if_pos p00]
  exact ⟨_, _, _, _, _, _, _, _, _, _, _, _, _, _, _, _, _, rfl, rfl, fun e => absurd e (pu_nI9 (by omega))⟩
theorem rd_loop (h : tx z t signs texts tl) (rch : Int32) : ∀ (d p cnt n1 n2 R A : Nat) (start : Int64) (kinds strengths moved needs forbids m : Nat → Int32), p ≤ z → z - p ≤ d → d < n1 → d + 1 < n2 → cnt + (z - p) ≤ 60 → rdR R A start kinds strengths moved needs forbids m →
    rdP (M_X1_read_b13 shs shp n1 signs (nI z) (nI p) (-9) 1 (nI R) (nI A) start rch kinds strengths moved needs forbids (nI cnt)) ((M_X7_skip texts tl (nI p) (nI t)).bind (fun q => M_X7_faultOf_b34 texts tl n2 m q (nI t) 1)) := by
  have hz := h.2.1
  have ht := h.1
  intro d
  induction d with
  | zero =>
    intro p cnt n1 n2 R A start kinds strengths moved needs forbids m hp hd hn1 hn2 hc hr
    obtain ⟨n1, rfl⟩ : ∃ y, n1 = y + 1 := ⟨n1 - 1, by omega⟩
    obtain ⟨n2, rfl⟩ : ∃ y, n2 = y + 1 := ⟨n2 - 1, by omega⟩
    obtain rfl : p = z := by omega
    obtain ⟨p', a1, a2, a3, a4⟩ := sk_A h (Nat.le_refl p)
    obtain rfl : p' = p := by omega
    rw [a3, Option.bind_some, M_X1_read_b13]
    by_cases q : 60 ≤ cnt
    · rw [if_pos (gL 60 q (by omega))]
      exact rd_end h rch hr
    · rw [if_neg (gN 60 (by omega)), if_pos rfl, a4, if_neg (by omega), Option.bind_some, if_pos p00]
      exact rd_end h rch hr
  | succ d ih =>
    intro p cnt n1 n2 R A start kinds strengths moved needs forbids m hp hd hn1 hn2 hc hr
    obtain ⟨n1, rfl⟩ : ∃ y, n1 = y + 1 := ⟨n1 - 1, by omega⟩
    obtain ⟨n2, rfl⟩ : ∃ y, n2 = y + 1 := ⟨n2 - 1, by omega⟩
    obtain ⟨p', a1, a2, a3, a4⟩ := sk_A h hp
    rw [a3, Option.bind_some, M_X1_read_b13]
    by_cases q : 60 ≤ cnt
    · obtain rfl : p' = z := by omega
      rw [if_pos (gL 60 q (by omega))]
      exact rd_end h rch hr
    rw [if_neg (gN 60 (by omega)), if_pos rfl, a4]
    by_cases w : p' < z
    · rw [if_pos w, Option.bind_some, if_neg n10]
      obtain ⟨e1, e2⟩ := hr_C h w
      obtain ⟨n1, rfl⟩ : ∃ y, n1 = y + 1 := ⟨n1 - 1, by omega⟩
      obtain ⟨n2, rfl⟩ : ∃ y, n2 = y + 1 := ⟨n2 - 1, by omega⟩
      rw [M_X7_faultOf_b34, if_neg n10, if_pos (pu_inb h.1 (by decide)), nI_clamp (by omega), h.2.2.1, if_neg (nI_ge w (by omega)), e1, Option.bind_some]
      unfold M_X1_readItem M_X1_readItem_b31 M_X7_faultOf_b74
      rw [e2, Option.bind_some, if_neg n10, if_neg n10, kl_eq, nI_1]
      have hR := hr.1
      have hA := hr.2.1
      have hm0 := hr.2.2.1
      have hm1 := hr.2.2.2.1
      have hRA := hr.2.2.2.2.1
      by_cases c : signs p' = 97
      · rw [if_pos c, if_pos c]
        have ek : M_X7_kindBy (signs p') = -9 := by rw [c]; decide
        have eb : M_X1_readItem_b67 signs (nI z) (nI p') (-9) 1 (nI R) (nI A) start kinds strengths moved needs forbids (-9) = some (nI p', nI p', 1, nI R, nI A, start, kinds, strengths, moved, needs, forbids) := by
          unfold M_X1_readItem_b67
          rw [if_neg n10, if_pos rfl]
        rw [ek, eb]
        by_cases g1 : R = 0
        · subst g1
          have g2 : A = 0 := by omega
          subst g2
          have et : M_X7_takesAct texts tl m (nI p') (nI t) = some (0, m, nI p') := by
            unfold M_X7_takesAct
            rw [hm1, if_neg (show ¬ nI 0 = 4 by decide), hm0, if_pos (show nI 0 = 0 from rfl)]
          rw [if_pos (show nI 0 ≤ 0 by decide), Option.bind_some, et, Option.bind_some, if_pos p00]
          exact rd_bad (by omega) _ _ _ _ _ _ _ _ _ _ _ _ _ _ _
        · rw [if_neg (nI_nle (by omega) (by omega))]
          by_cases g2 : 4 ≤ A
          · obtain rfl : A = 4 := by omega
            have et : M_X7_takesAct texts tl m (nI p') (nI t) = some (0, m, nI p') := by
              unfold M_X7_takesAct
              rw [hm1, if_pos (show nI 4 = 4 from rfl)]
            rw [if_pos (gL 4 (by omega) (by omega)), Option.bind_some, et, Option.bind_some, if_pos p00]
            exact rd_bad (by omega) _ _ _ _ _ _ _ _ _ _ _ _ _ _ _
          · rw [if_neg (gN 4 (by omega))]
            rcases ra_C h hr w (by omega) (by omega) with ⟨p2, needs', forbids', m', b1, b2, b3, b4, b5⟩ | ⟨pl, f, m', b1, b3, b4⟩
            · rw [b3, Option.bind_some, Option.bind_some, b4, Option.bind_some, if_neg n10]
              exact ih p2 (cnt + 1) (n1 + 1) (n2 + 1) R (A + 1) start kinds strengths moved needs' forbids' m' b2 (by omega) (by omega) (by omega) (by omega) b5
            · rw [b3, Option.bind_some, Option.bind_some, b4, Option.bind_some, if_pos p00]
              exact rd_bad b1 _ _ _ _ _ _ _ _ _ _ _ _ _ _ _
      · rw [if_neg c, if_neg c]
        unfold M_X1_readItem_b67
        rw [if_neg n10]
        have bad : M_X7_takesRope texts tl m (nI p') (nI t) = some (0, m, nI p') → rdP (M_X1_read_b13 shs shp (n1 + 1) signs (nI z) (nI p') (nI p') 1 (nI R) (nI A) start rch kinds strengths moved needs forbids (nI (cnt + 1))) ((M_X7_takesRope texts tl m (nI p') (nI t)).bind (fun r7 => if r7.1 = 0 then M_X7_faultOf_b34 texts tl (n2 + 1) r7.2.1 r7.2.2 (nI t) r7.1 else (M_X7_skip texts tl r7.2.2 (nI t)).bind (fun r12 => M_X7_faultOf_b34 texts tl (n2 + 1) r7.2.1 r12 (nI t) r7.1))) := fun et => by
          rw [et, Option.bind_some, if_pos p00]
          exact rd_bad (by omega) _ _ _ _ _ _ _ _ _ _ _ _ _ _ _
        rcases kb_k (signs p') with hk | ⟨k, hk, ek⟩
        · rw [hk, if_pos rfl, Option.bind_some]
          refine bad ?_
          unfold M_X7_takesRope
          rw [e1, Option.bind_some, hk, if_pos rfl]
        · rw [ek, if_neg (pu_nI9 (by omega))]
          by_cases g1 : A = 0
          · subst g1
            rw [if_pos (show nI 0 = 0 from rfl)]
            by_cases g2 : R < 6
            · rw [if_neg (gN 6 g2)]
              rcases rr_C h hr w g2 rfl hk ek with ⟨p2, start', kinds', strengths', moved', m', b1, b2, b3, b4, b5⟩ | ⟨pl, f, m', b1, b3, b4⟩
              · rw [b3, Option.bind_some, Option.bind_some, b4, Option.bind_some, if_neg n10]
                exact ih p2 (cnt + 1) (n1 + 1) (n2 + 1) (R + 1) 0 start' kinds' strengths' moved' needs forbids m' b2 (by omega) (by omega) (by omega) (by omega) b5
              · rw [b3, Option.bind_some, Option.bind_some, b4, Option.bind_some, if_pos p00]
                exact rd_bad b1 _ _ _ _ _ _ _ _ _ _ _ _ _ _ _
            · obtain rfl : R = 6 := by omega
              rw [if_pos (gL 6 (by omega) (by omega)), Option.bind_some]
              refine bad ?_
              unfold M_X7_takesRope
              rw [e1, Option.bind_some, ek, if_neg (pu_nI9 (by omega)), hm0, if_pos (show nI 6 = 6 from rfl)]
          · rw [if_neg (eN 0 g1 (by omega)), Option.bind_some]
            refine bad ?_
            unfold M_X7_takesRope
            rw [e1, Option.bind_some, ek, if_neg (pu_nI9 (by omega)), hm1, if_neg (nI_nle (by omega) (by omega)), ite_self]
    · obtain rfl : p' = z := by omega
      rw [if_neg w, Option.bind_some, if_pos p00]
      exact rd_end h rch hr
theorem rdR_0 {m : Nat → Int32} (kinds strengths moved needs forbids : Nat → Int32) (h0 : m 0 = 0) (h1 : m 1 = 0) {v : Nat} (hv : v < 2) (h26 : m 26 = nI v) : rdR 0 0 (M_X5_afterFrost 0 (nI v)) kinds strengths moved needs forbids m := by
  refine ⟨by omega, by omega, h0, h1, .inl rfl, fun i hi => absurd hi (by omega), fun i _ hi => ?_, ?_, ?_, ?_, fun a ha => absurd ha (by omega)⟩
  · rw [af_strain 0 hi]; exact (by decide +kernel : ∀ i, i < 6 → M_X5_strain 0 (nI i) = 0) i hi
  · rw [af_letGo]; decide
  · rw [af_parted]; decide
  · rw [af_frost 0 hv]; exact h26
theorem rd_main (h : tx z t signs texts tl) (rch : Int32) (kinds strengths moved needs forbids anew : Nat → Int32) (pl0 : Int32) :
    rdP (M_X1_read_b13 shs shp x_fuel signs (nI z) 0 (-9) 0 0 0 0 rch kinds strengths moved needs forbids 0) (M_X7_faultOf texts tl anew pl0 (nI t)) := by
  have hz := h.2.1
  have ht := h.1
  obtain ⟨n, hn⟩ : ∃ y, x_fuel = y + 2 := ⟨999998, rfl⟩
  have hn' : n = 999998 := by unfold x_fuel at hn; omega
  obtain ⟨p', a1, a2, a3, a4⟩ := sk_A h (show 0 ≤ z by omega)
  have a3' : M_X7_skip texts tl 0 (nI t) = some (nI p') := a3
  have a4' : M_X1_isMoreAhead signs (nI z) 0 = some ((if p' < z then 1 else 0), nI p') := a4
  have e0 : upd (upd anew 0 0) 1 0 0 = 0 := by rw [pu_un (by omega), pu_us]
  have e1 : upd (upd anew 0 0) 1 0 1 = 0 := by rw [pu_us]
  unfold M_X7_faultOf M_X7_takesFirst
  generalize upd (upd anew 0 0) 1 0 = m at e0 e1 ⊢
  rw [a3', Option.bind_some, hn, M_X1_read_b13, if_neg (show ¬ (60 : Int32) ≤ 0 by decide), if_pos rfl, a4']
  by_cases w : p' < z
  · obtain ⟨g1, g2⟩ := hr_C h w
    rw [if_pos w, Option.bind_some, if_neg n10, g1, Option.bind_some]
    unfold M_X1_readItem
    rw [g2, Option.bind_some, if_pos p00]
    by_cases c : signs p' = 104
    · rw [if_pos c, if_pos c]
      unfold M_X1_readHead
      rw [nI_1]
      rcases fg_C h (lo := 0) (hi := 1) (p := p' + 1) 0 1 (by omega) (by omega) with ⟨v, v1, v2, v3, v4, v5⟩ | ⟨v4, v5⟩
      · have v6 : M_X7_takes texts tl m (nI (p' + 1)) (nI t) 26 0 1 = some (1, upd m 26 (nI v), nI (p' + 1 + 1)) := v5 m 26 (by omega)
        rw [v4, Option.bind_some, Option.bind_some, Option.bind_some, v6, Option.bind_some, if_pos (show narrow .boolean (.int (1 : Int32)) = .int (1 : Int32) from rfl), Option.bind_some, if_neg n10, show (0 : Int32) + 1 = nI 1 by decide]
        exact rd_loop h rch 60 (p' + 1 + 1) 1 (n + 1) (n + 2) 0 0 (M_X5_afterFrost 0 (nI v)) kinds strengths moved needs forbids (upd m 26 (nI v)) (by omega) (by omega) (by omega) (by omega) (by omega) (rdR_0 _ _ _ _ _ (by rw [pu_un (by omega), e0]) (by rw [pu_un (by omega), e1]) (by omega) pu_us)
      · have v6 : M_X7_takes texts tl m (nI (p' + 1)) (nI t) 26 0 1 = some (0, m, nI (p' + 1)) := v5 m 26 (by omega)
        rw [v4, Option.bind_some, Option.bind_some, Option.bind_some, v6, Option.bind_some, if_pos (show narrow .boolean (.int (0 : Int32)) = .int (0 : Int32) from rfl), Option.bind_some, if_pos p00]
        exact rd_bad (n1 := n) (n2 := n + 1) (by omega) _ _ _ _ _ _ _ _ _ _ _ _ _ _ _
    · rw [if_neg c, if_neg c]
      unfold M_X1_readItem_b31 M_X1_readItem_b67
      rw [if_pos p00, if_pos p00, Option.bind_some, Option.bind_some, if_pos p00]
      exact rd_bad (n1 := n) (n2 := n + 1) (by omega) _ _ _ _ _ _ _ _ _ _ _ _ _ _ _
  · obtain rfl : p' = z := by omega
    rw [if_neg w, Option.bind_some, if_pos p00, hr_E h (Nat.le_refl _) (by omega), Option.bind_some, if_neg (show ¬ (-9 : Int32) = 104 by decide), Option.bind_some, if_pos p00, M_X7_faultOf_b34, if_pos p00]
    unfold M_X7_faultOf_b87 M_X1_read_b47
    rw [if_pos p00, if_pos rfl, if_pos p00]
    exact ⟨_, _, _, _, _, _, _, _, _, _, _, _, _, _, _, _, _, rfl, rfl, fun e => absurd e (pu_nI9 (by omega))⟩
end
section
variable {tsz trl trw : Nat → Int32} {tpl : Nat → Nat → Int32}
theorem rd_read {r z : Nat} (hr : r < 4) (hz : z ≤ 60) (e1 : tsz r = nI z) (e2 : trl r = nI z) (e3 : ∀ i, i < z → tpl r i = trw (60 * r + i)) (sg0 : Nat → Int32) (sz0 pl0 fl0 hd0 ro ac : Int32) (stt : Int64) (rch : Int32) (ks ss mv ns fs anew : Nat → Int32) (place : Int32) :
    rdP (M_X1_read tsz tpl sg0 sz0 pl0 fl0 hd0 ro ac stt rch ks ss mv ns fs (nI r)) (M_X7_faultOf trw trl anew place (nI r)) := by
  have tk : ∃ sg, M_X1_take tsz tpl sg0 sz0 pl0 fl0 hd0 (nI r) = some (sg, nI z, 0, -9, 0) ∧ ∀ j, j < z → sg j = tpl r j := by
    unfold M_X1_take
    have emin : M_J9_min_7cf53 (nI z) 60 = nI z := by unfold M_J9_min_7cf53; rw [if_neg (rN 60 hz)]
    rw [pu_size hr (by decide), e1, Option.bind_some, emin]
    exact pu_lp (fun n k s => ∃ sg, M_X1_take_b19 tsz tpl n s (nI z) pl0 fl0 hd0 (nI r) (nI k) = some (sg, nI z, 0, -9, 0) ∧ ∀ j, j < z → sg j = tpl r j)
      (fun k s => ∀ j, j < k → s j = tpl r j) z (by omega)
      (fun n s hs => ⟨s, by rw [M_X1_take_b19, if_pos (pu_le (by omega) (by omega) (Nat.le_refl z))], hs⟩)
      (fun n k s hk hs ih => by
        rw [M_X1_take_b19, if_neg (nI_ge hk (by omega)), pu_get hr (by decide) hz (by decide) e1 hk, Option.bind_some, if_pos (pu_inb (by omega) (by decide)), nI_clamp (by omega), nI_1]
        refine ih _ (fun j hj => ?_)
        by_cases e : j = k
        · subst e; rw [pu_us]
        · rw [pu_un e]; exact hs j (by omega))
      sg0 (fun j hj => absurd hj (by omega))
  obtain ⟨sg, k1, k2⟩ := tk
  unfold M_X1_read M_X2_clear
  rw [k1, Option.bind_some]
  exact rd_main (z := z) (t := r) (signs := sg) ⟨hr, hz, e2, fun j hj => by rw [k2 j hj, e3 j hj]⟩ 0 ks ss mv ns fs anew place
theorem p_fault (ht : pu_S 4 60 tsz tpl trl trw) (lf : Int32) (fc sg0 : Nat → Int32) (sz0 pl0 fl0 hd0 ro ac : Int32) (stt : Int64) (rch : Int32) (ks ss mv ns fs anew : Nat → Int32) (place x1 : Int32) :
    ∃ v lf' fc' sg' sz' pl' fl' hd' ro' ac' stt' rch' ks' ss' mv' ns' fs' anew' place', M_X6_fault tsz tpl lf fc sg0 sz0 pl0 fl0 hd0 ro ac stt rch ks ss mv ns fs x1 = some (v, lf', fc', sg', sz', pl', fl', hd', ro', ac', stt', rch', ks', ss', mv', ns', fs') ∧ M_X7_fault trw trl fc anew lf place x1 = some (v, fc', anew', lf', place') := by
  unfold M_X6_fault M_X7_fault
  rcases pu_missT (lf := lf) (fc := fc) x1 ht with ⟨h1, h2, h3⟩ | ⟨r, hr, rfl, h1, h2, ⟨a, b, h3⟩ | ⟨z, hz, a, b, c, h3⟩⟩
  · rw [h3, h2, Option.bind_some, if_neg (show ¬ (-1 : Int32) = 0 by decide), if_pos p00]
    exact ⟨_, _, _, _, _, _, _, _, _, _, _, _, _, _, _, _, _, _, _, rfl, rfl⟩
  · rw [h3, h2, Option.bind_some, if_neg (show ¬ (-3 : Int32) = 0 by decide), if_neg n10, if_pos (pu_inb hr (by decide)), nI_clamp (by omega), b, if_neg pu_n0, show (1 : Int32) = nI 1 from rfl, pu_g (by decide), Option.bind_some]
    exact ⟨_, _, _, _, _, _, _, _, _, _, _, _, _, _, _, _, _, _, _, rfl, rfl⟩
  · rw [h3, h2, Option.bind_some, if_pos p00, if_neg n10, if_pos (pu_inb hr (by decide)), nI_clamp (by omega), b, if_pos (pu_nn z (by omega))]
    obtain ⟨v, sg, sz, pl, fl, hd, ro', ac', stt', rch', ks', ss', mv', ns', fs', anew', pl', k1, k2, -⟩ := rd_read hr hz a b c sg0 sz0 pl0 fl0 hd0 ro ac stt rch ks ss mv ns fs anew place
    rw [k1, k2, Option.bind_some, Option.bind_some]
    exact ⟨_, _, _, _, _, _, _, _, _, _, _, _, _, _, _, _, _, _, _, rfl, rfl⟩
/-- the court begun -/
theorem bg_C {R : Nat} {s : Int64} {c : Nat → Int32} (h5 : ∀ i, i < R → c (20 + i) = M_X5_strain s (nI i)) (hR : R ≤ 6) (h6 : ∀ i, R ≤ i → i < 6 → M_X5_strain s (nI i) = 0) (h7 : M_X5_letGo s = 0) (h8 : M_X5_parted s = 0) (h9 : c 26 = M_X5_frostIn s) :
    ∃ x, M_X7_begin_85 c = some x ∧ pu_CD R s x ∧ ∀ j, j < 76 → x j = c j :=
  pu_lp (fun n k x => ∃ y, M_X7_begin_85_b2 n x (nI k) = some y ∧ pu_CD R s y ∧ ∀ j, j < 76 → y j = c j)
    (fun k x => (∀ j, j < 76 → x j = c j) ∧ ∀ i, i < k → x (76 + i) = c (20 + i)) 6 (by omega)
    (fun n x h => by
      refine ⟨_, by rw [M_X7_begin_85_b2, if_pos (show (6 : Int32) ≤ nI 6 by decide)], ⟨fun i hi => ?_, h6, ?_, ?_, ?_⟩, fun j hj => ?_⟩
      · rw [pu_un (by omega), pu_un (by omega), pu_un (by omega), h.2 i (by omega), h5 i hi]
      · rw [pu_un (by omega), pu_un (by omega), pu_us, h7]
      · rw [pu_un (by omega), pu_us, h8]
      · rw [pu_us, pu_un (by omega), pu_un (by omega), h.1 _ (by omega), h9]
      · rw [pu_un (by omega), pu_un (by omega), pu_un (by omega), h.1 j hj])
    (fun n k x hk h ih => by
      rw [M_X7_begin_85_b2, if_neg (gN 6 hk), if_pos (iO 20 (by omega)), if_pos (iO 76 (by omega)), cO 20 (by omega), cO 76 (by omega), nI_1]
      refine ih _ ⟨fun j hj => by rw [pu_un (by omega), h.1 j hj], fun i hi => ?_⟩
      by_cases e : i = k
      · subst e; rw [pu_us, h.1 _ (by omega)]
      · rw [pu_un (by omega), h.2 i (by omega)])
    c ⟨fun _ _ => rfl, fun i hi => absurd hi (by omega)⟩
theorem b162_C (now isK fc anew : Nat → Int32) (lf place : Int32) : ∃ isK', M_X7_court_b162 trw trl x_fuel now isK fc anew lf place 0 = some (now 0, now, isK', fc, anew, lf, place) ∧ ∀ k, k < 3 → isK' k = 0 :=
  pu_lp (fun n k s => ∃ isK', M_X7_court_b162 trw trl n now s fc anew lf place (nI k) = some (now 0, now, isK', fc, anew, lf, place) ∧ ∀ k, k < 3 → isK' k = 0)
    (fun k s => ∀ j, j < k → s j = 0) 3 (by omega)
    (fun n s hs => ⟨s, by rw [M_X7_court_b162, if_pos (show (3 : Int32) ≤ nI 3 by decide)], hs⟩)
    (fun n k s hk hs ih => by
      rw [M_X7_court_b162, if_neg (gN 3 hk), if_pos (pu_inb hk (by decide)), nI_clamp (by omega), nI_1]
      refine ih _ (fun j hj => ?_)
      by_cases e : j = k
      · subst e; rw [pu_us]; rfl
      · rw [pu_un e]; exact hs j (by omega))
    isK (fun j hj => absurd hj (by omega))
theorem lb_C (st : Nat → Int64) (sz : Int32) (kz : Nat → Int32) (s : Int64) : ∃ kz', M_X0_begin st sz kz s = some (vp_updL st 0 s, 0, kz') ∧ ∀ k, k < 3 → kz' k = -1 :=
  pu_lp (fun n k x => ∃ kz', M_X0_begin_b14 n (vp_updL st 0 s) 0 x (nI k) = some (vp_updL st 0 s, 0, kz') ∧ ∀ k, k < 3 → kz' k = -1)
    (fun k x => ∀ j, j < k → x j = -1) 3 (by omega)
    (fun n x hx => ⟨x, by rw [M_X0_begin_b14, if_pos (show (3 : Int32) ≤ nI 3 by decide)], hx⟩)
    (fun n k x hk hx ih => by
      rw [M_X0_begin_b14, if_neg (gN 3 hk), if_pos (pu_inb hk (by decide)), nI_clamp (by omega), nI_1]
      refine ih _ (fun j hj => ?_)
      by_cases e : j = k
      · subst e; rw [pu_us]
      · rw [pu_un e]; exact hx j (by omega))
    kz (fun j hj => absurd hj (by omega))
theorem b39_C (now isK fc anew : Nat → Int32) (lf place : Int32) : ∃ now1, M_X7_court_b39 trw trl x_fuel now isK fc anew lf place 0 = M_X7_court_b65 trw trl x_fuel now1 isK fc anew lf place 0 ∧ ∀ j, j < 35 → now1 j = anew j :=
  pu_lp (fun n k s => ∃ now1, M_X7_court_b39 trw trl n s isK fc anew lf place (nI k) = M_X7_court_b65 trw trl x_fuel now1 isK fc anew lf place 0 ∧ ∀ j, j < 35 → now1 j = anew j)
    (fun k s => ∀ j, j < k → s j = anew j) 35 (by omega)
    (fun n s hs => ⟨s, by rw [M_X7_court_b39, if_pos (show (35 : Int32) ≤ nI 35 by decide)], hs⟩)
    (fun n k s hk hs ih => by
      rw [M_X7_court_b39, if_neg (gN 35 hk), if_pos (pu_inb (by omega) (by decide)), nI_clamp (by omega), nI_1]
      refine ih _ (fun j hj => ?_)
      by_cases e : j = k
      · subst e; rw [pu_us]
      · rw [pu_un e]; exact hs j (by omega))
    now (fun j hj => absurd hj (by omega))
theorem b65x_C {R A : Nat} {start : Int64} {kinds strengths moved needs forbids now1 : Nat → Int32} (hr : rdR R A start kinds strengths moved needs forbids now1) (isK fc anew : Nat → Int32) (lf place : Int32) {st : Nat → Int64} (hs : st 0 = start) :
    ∃ now' isK', M_X7_court_b65 trw trl x_fuel now1 isK fc anew lf place 0 = some (nI R, now', isK', fc, anew, lf, place) ∧ (∀ k, k < 3 → isK' k = 0) ∧ pu_C R A kinds strengths moved needs forbids st 0 now' := by
  obtain ⟨a1, a2, a3, a4, a5, a6, a7, a8, a9, a10, a11⟩ := hr
  exact pu_lp (fun n k s => ∃ now' isK', M_X7_court_b65 trw trl n s isK fc anew lf place (nI k) = some (nI R, now', isK', fc, anew, lf, place) ∧ (∀ k, k < 3 → isK' k = 0) ∧ pu_C R A kinds strengths moved needs forbids st 0 now')
    (fun k s => (∀ j, (j < 14 ∨ (20 ≤ j ∧ j < 35)) → s j = now1 j) ∧ (∀ i, k ≤ i → i < R → s (14 + i) = moved i) ∧ ∀ i, i < k → M_X2_target (nI R) moved (nI i) = some (s (14 + i)) ∧ (s (14 + i) = -9 ∨ ∃ j, j < R ∧ j ≠ i ∧ s (14 + i) = nI j)) R (by omega)
    (fun n s ⟨h1, _, h3⟩ => by
      have e0 : s 0 = nI R := by rw [h1 0 (by omega), a3]
      obtain ⟨x, k1, k2, k3⟩ := bg_C (R := R) (s := start) (c := upd s 35 0) (fun i hi => by rw [pu_un (by omega), h1 _ (by omega)]; exact (a6 i hi).2.2.2.2.2.2) a1 a7 a8 a9 (by rw [pu_un (by omega), h1 26 (by omega), a10])
      obtain ⟨isK', g1, g2⟩ := b162_C (trw := trw) (trl := trl) x isK fc anew lf place
      have old : ∀ j, j < 35 → x j = s j := fun j hj => by rw [k3 j (by omega), pu_un (by omega)]
      rw [M_X7_court_b65, e0, if_pos (pu_le (by omega) (by omega) (Nat.le_refl R)), k1, Option.bind_some, g1]
      refine ⟨x, isK', by rw [old 0 (by omega), e0], g2, ⟨a1, a2, by rw [old 0 (by omega), e0], by rw [old 1 (by omega), h1 1 (by omega), a4], fun i hi => ?_, fun a ha => ?_⟩, by rw [hs]; exact k2, by omega, by rw [k3 35 (by omega), pu_us]; rfl, ⟨fun i hi => ?_, ?_, ?_, ?_, ?_⟩, fun d hd => absurd hd (by omega)⟩
      · obtain ⟨b1, b2, b3, b4, b5, b6, b7⟩ := a6 i hi
        rw [old _ (by omega), old _ (by omega), old _ (by omega), h1 (2 + i) (by omega), h1 (8 + i) (by omega)]
        exact ⟨b1, b2, b3, b4, (h3 i hi).1, (h3 i hi).2⟩
      · rw [old _ (by omega), old _ (by omega), h1 (27 + a) (by omega), h1 (31 + a) (by omega)]
        exact a11 a ha
      · rw [hs, old _ (by omega), h1 _ (by omega)]; exact (a6 i hi).2.2.2.2.2.2
      · rw [hs]; exact a7
      · rw [hs]; exact a8
      · rw [hs]; exact a9
      · rw [hs, old _ (by omega), h1 _ (by omega)]; exact a10)
    (fun n k s hk ⟨h1, h2, h3⟩ ih => by
      have e0 : s 0 = nI R := by rw [h1 0 (by omega), a3]
      obtain ⟨w, hw, ew⟩ := (a6 k hk).2.2.2.2.2.1
      have e14 := h2 k (Nat.le_refl k) hk
      rw [ew] at e14
      have goOn : ∀ y : Int32, M_X2_target (nI R) moved (nI k) = some y → (y = -9 ∨ ∃ j, j < R ∧ j ≠ k ∧ y = nI j) → ∃ now' isK', M_X7_court_b65 trw trl n (upd s (14 + k) y) isK fc anew lf place (nI (k + 1)) = some (nI R, now', isK', fc, anew, lf, place) ∧ (∀ k, k < 3 → isK' k = 0) ∧ pu_C R A kinds strengths moved needs forbids st 0 now' := fun y hy hy2 => by
        refine ih _ ⟨fun j hj => by rw [pu_un (by omega), h1 j hj], fun i q1 q2 => by rw [pu_un (by omega), h2 i (by omega) q2], fun i hi => ?_⟩
        by_cases e : i = k
        · subst e; rw [pu_us]; exact ⟨hy, hy2⟩
        · rw [pu_un (by omega)]; exact h3 i (by omega)
      have et : M_X2_target (nI R) moved (nI k) = if nI w = nI k then some (-9) else if M_X2_isRope (nI R) (nI w) = 0 then some (-9) else some (nI w) := by
        unfold M_X2_target
        rw [rs_isRope a1 hk, if_neg n10, if_pos (pu_inb (by omega) (by decide)), nI_clamp (by omega), ew]
      rw [M_X7_court_b65, e0, if_neg (nI_ge hk (by omega)), if_pos (iO 14 (by omega)), cO 14 (by omega), e14]
      unfold M_X7_court_b110 M_X7_court_b111 M_X7_court_b138
      have hin : inb ((14 : Int32) + nI k) 85 := iO 14 (by omega)
      rw [if_pos p00, if_neg n10]
      simp only [if_pos hin]
      rw [cO 14 (by omega), nI_1, e14]
      by_cases q1 : R ≤ w
      · rw [if_pos (pu_le (by omega) (by omega) q1)]
        refine goOn (-9) ?_ (.inl rfl)
        rw [et, rs_noRope a1 (by omega) (by omega), if_pos p00, ite_self]
      · rw [if_neg (nI_ge (by omega) (by omega))]
        by_cases q2 : w = k
        · subst q2
          rw [if_pos rfl]
          refine goOn (-9) ?_ (.inl rfl)
          rw [et, if_pos rfl]
        · rw [if_neg (pu_ne (by omega) (by omega) q2)]
          refine goOn (nI w) ?_ (.inr ⟨w, by omega, q2, rfl⟩)
          rw [et, if_neg (pu_ne (by omega) (by omega) q2), rs_isRope a1 (by omega), if_neg n10])
    now1 ⟨fun _ _ => rfl, fun i _ hi => (a6 i hi).2.2.2.2.1, fun i hi => absurd hi (by omega)⟩
theorem rdR.of {R A : Nat} {start : Int64} {kinds strengths moved needs forbids m m' : Nat → Int32} (h : rdR R A start kinds strengths moved needs forbids m) (e : ∀ j, j < 35 → m' j = m j) : rdR R A start kinds strengths moved needs forbids m' := by
  obtain ⟨a1, a2, a3, a4, a5, a6, a7, a8, a9, a10, a11⟩ := h
  refine ⟨a1, a2, by rw [e _ (by omega), a3], by rw [e _ (by omega), a4], a5, fun i hi => ?_, a7, a8, a9, by rw [e _ (by omega), a10], fun a ha => ?_⟩
  · rw [e _ (by omega), e _ (by omega), e _ (by omega), e _ (by omega)]; exact a6 i hi
  · rw [e _ (by omega), e _ (by omega)]; exact a11 a ha
theorem p_court {R A D : Nat} {kinds strengths moved needs forbids now kept isK kz : Nat → Int32} {st : Nat → Int64} {ks : Nat → Nat → Int64} (h : pu_C R A kinds strengths moved needs forbids st D now) (hz : pu_K R A kinds strengths moved needs forbids ks kz kept isK) (ht : pu_S 4 60 tsz tpl trl trw)
    (lf : Int32) (fc sg0 : Nat → Int32) (sz0 pl0 fl0 hd0 ro ac : Int32) (stt : Int64) (rch : Int32) (dk ds dm dn df : Nat → Int32) (c : Nat → Nat) (stt2 : Int64) (rch2 : Int32) (b : Nat → Nat) (anew : Nat → Int32) (place x1 : Int32) :
    ∃ v lf' st' D' kz' fc' sg' sz' pl' fl' hd' ro' ac' stt' rch' dk' ds' dm' dn' df' c' R' A' stt2' rch2' k' s' m' n' f' b' now' isK' anew' place',
      M_X6_court tsz tpl lf st (nI D) kz fc sg0 sz0 pl0 fl0 hd0 ro ac stt rch dk ds dm dn df c (nI R) (nI A) stt2 rch2 kinds strengths moved needs forbids b x1 = some (v, lf', st', nI D', kz', fc', sg', sz', pl', fl', hd', ro', ac', stt', rch', dk', ds', dm', dn', df', c', nI R', nI A', stt2', rch2', k', s', m', n', f', b') ∧
      M_X7_court trw trl now isK fc anew lf place x1 = some (v, now', isK', fc', anew', lf', place') ∧ pu_C R' A' k' s' m' n' f' st' D' now' ∧ pu_K R' A' k' s' m' n' f' ks kz' kept isK' := by
  unfold M_X6_court M_X7_court
  rcases pu_missT (lf := lf) (fc := fc) x1 ht with ⟨h1, h2, h3⟩ | ⟨r, hr, rfl, h1, h2, ⟨a, b', h3⟩ | ⟨z, hz', a, b', c', h3⟩⟩
  · rw [h3, h2, Option.bind_some, if_neg (show ¬ (-1 : Int32) = 0 by decide), if_pos p00]
    exact ⟨_, _, _, D, _, _, _, _, _, _, _, _, _, _, _, _, _, _, _, _, _, R, A, _, _, _, _, _, _, _, _, _, _, _, _, rfl, rfl, h, hz⟩
  · rw [h3, h2, Option.bind_some, if_neg (show ¬ (-3 : Int32) = 0 by decide), if_neg n10, if_pos (pu_inb hr (by decide)), nI_clamp (by omega), b', if_neg pu_n0, show (1 : Int32) = nI 1 from rfl, pu_g (by decide), Option.bind_some]
    exact ⟨_, _, _, D, _, _, _, _, _, _, _, _, _, _, _, _, _, _, _, _, _, R, A, _, _, _, _, _, _, _, _, _, _, _, _, rfl, rfl, h, hz⟩
  · rw [h3, h2, Option.bind_some, if_pos p00, if_neg n10, if_pos (pu_inb hr (by decide)), nI_clamp (by omega), b', if_pos (pu_nn z (by omega))]
    obtain ⟨v, sg, sz, pl, fl, hd, ro', ac', stt', rch', ks', ss', mv', ns', fs', anew', pl', k1, k2, k3⟩ := rd_read hr hz' a b' c' sg0 sz0 pl0 fl0 hd0 ro ac stt rch dk ds dm dn df anew place
    rw [k1, k2, Option.bind_some, Option.bind_some]
    by_cases q : v = -9
    · obtain ⟨R', A', rfl, rfl, g⟩ := k3 q
      obtain ⟨kz', e1, e2⟩ := lb_C st (nI D) kz stt'
      obtain ⟨now1, e3, e4⟩ := b39_C (trw := trw) (trl := trl) now isK fc anew' lf pl'
      obtain ⟨now', isK', e5, e6, e7⟩ := b65x_C (trw := trw) (trl := trl) (g.of e4) isK fc anew' lf pl' (st := vp_updL st 0 stt') pk_uLs
      rw [if_pos q, if_pos q]
      dsimp only
      rw [e1, Option.bind_some, e3, e5]
      exact ⟨_, _, _, 0, _, _, _, _, _, _, _, _, _, _, _, _, _, _, _, _, _, R', A', _, _, _, _, _, _, _, _, _, _, _, _, rfl, rfl, e7, fun k hk => .inl ⟨e6 k hk, e2 k hk⟩⟩
    · rw [if_neg q, if_neg q]
      exact ⟨_, _, _, D, _, _, _, _, _, _, _, _, _, _, _, _, _, _, _, _, _, R, A, _, _, _, _, _, _, _, _, _, _, _, _, rfl, rfl, h, hz⟩
end
