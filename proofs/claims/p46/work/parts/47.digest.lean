/-! PURE PART: the digest is some number, the same where the state is -/
def zk (N M : Nat) (sizes : Nat → Int32) : Prop := ∀ r, r < N → sizes r = -1 ∨ ∃ z, z ≤ M ∧ sizes r = nI z
theorem zk_upd {N M : Nat} {sizes : Nat → Int32} (h : zk N M sizes) {r z : Nat} (hz : z ≤ M) : zk N M (upd sizes r (nI z)) := fun r' hr' => by
  by_cases e : r' = r
  · subst e; rw [pu_us]; exact .inr ⟨z, hz, rfl⟩
  · rw [pu_un e]; exact h r' hr'
section
variable {N M : Nat} {sizes : Nat → Int32} {places : Nat → Nat → Int32}
theorem ct_T (hN : N < 1000) : ∃ v, M_X4_countThere N M sizes = some v :=
  pu_lp (fun n k (x : Int32) => ∃ v, M_X4_countThere_b4 N M sizes n x (nI k) = some v) (fun _ _ => True) N (by omega)
    (fun n x _ => ⟨x, by rw [M_X4_countThere_b4, if_pos (show Int32.ofNat N ≤ nI N from pu_le (a := N) (by omega) (by omega) (Nat.le_refl N))]⟩)
    (fun n k x hk _ ih => by
      rw [M_X4_countThere_b4, if_neg (show ¬ Int32.ofNat N ≤ nI k from nI_ge hk (by omega))]
      unfold M_X4_isThere M_X4_countThere_b24
      rw [pu_size hk (by omega), Option.bind_some, nI_1]
      by_cases q : sizes k = -1
      · rw [if_pos q, Option.bind_some, if_pos rfl]; exact ih x trivial
      · rw [if_neg q, Option.bind_some, if_neg (by decide)]; exact ih _ trivial)
    0 trivial
theorem df_T (hN : N < 1000) (hM : M < 1000) (hz : zk N M sizes) (h0 : Int64) : ∃ v, M_X4_digestFrom N M sizes places h0 = some v :=
  pu_lp (fun n k (x : Int64) => ∃ v, M_X4_digestFrom_b5 N M sizes places n x (nI k) = some v) (fun _ _ => True) N (by omega)
    (fun n x _ => ⟨x, by rw [M_X4_digestFrom_b5, if_pos (show Int32.ofNat N ≤ nI N from pu_le (a := N) (by omega) (by omega) (Nat.le_refl N))]⟩)
    (fun n k x hk _ ih => by
      rw [M_X4_digestFrom_b5, if_neg (show ¬ Int32.ofNat N ≤ nI k from nI_ge hk (by omega)), pu_size hk (by omega), Option.bind_some]
      rcases hz k hk with e | ⟨z, hz1, e⟩
      · show ∃ v, M_X4_digestFrom_b32 N M sizes places _ (999999 + 1) _ (nI k) 0 = some v
        rw [M_X4_digestFrom_b32, pu_size hk (by omega), Option.bind_some, e, if_pos (by decide), nI_1]
        exact ih _ trivial
      · exact pu_lp (fun n' p (y : Int64) => ∃ v, M_X4_digestFrom_b32 N M sizes places (fun (x3' : Int64) (x5' : Int32) => M_X4_digestFrom_b5 N M sizes places n x3' x5') n' y (nI k) (nI p) = some v) (fun _ _ => True) z (by omega)
          (fun n' y _ => by
            rw [M_X4_digestFrom_b32, pu_size hk (by omega), Option.bind_some, e, if_pos (pu_le (by omega) (by omega) (Nat.le_refl z)), nI_1]
            exact ih _ trivial)
          (fun n' p y hp _ ih2 => by
            rw [M_X4_digestFrom_b32, pu_size hk (by omega), Option.bind_some, e, if_neg (nI_ge hp (by omega)), pu_get hk (by omega) hz1 (by omega) e hp, Option.bind_some, nI_1]
            exact ih2 _ trivial)
          _ trivial)
    h0 trivial
end
section
variable {R A D : Nat} {kinds strengths moved needs forbids : Nat → Int32} {Y : x_Y} {lf : Int32} {la : Int32} {up : Int64} {lo : Int64} {rsz : Nat → Int32} {rpl : Nat → Nat → Int32} {st : Nat → Int64} {ks : Nat → Nat → Int64} {kz : Nat → Int32} {fc : Nat → Int32} {rch : Int32} {tr : Nat → Int32}
variable {m : Nat → Int32} {tsz : Nat → Int32} {tpl : Nat → Nat → Int32} {s : Int64}
theorem co_T (hRS : pu_RS R A kinds strengths moved needs forbids m) (w : Int32) : ∃ v, M_X2_countOf (nI R) kinds w = some v := by
  have hR := hRS.1
  exact pu_lp (fun n k (x : Int32) => ∃ v, M_X2_countOf_b4 (nI R) kinds n w x (nI k) = some v) (fun _ _ => True) R (by omega)
    (fun n x _ => ⟨x, by rw [M_X2_countOf_b4, if_pos (pu_le (by omega) (by omega) (Nat.le_refl R))]⟩)
    (fun n k x hk _ ih => by
      rw [M_X2_countOf_b4, if_neg (nI_ge hk (by omega)), rs_kind hR hk, Option.bind_some]
      unfold M_X2_countOf_b27
      rw [nI_1]
      by_cases q : M_X6_isOf (kinds k) w = 0
      · rw [if_pos q]; exact ih x trivial
      · rw [if_neg q]; exact ih _ trivial)
    0 trivial
theorem ck_T : ∃ v, M_X0_countKept kz = some v :=
  pu_lp (fun n k (x : Int32) => ∃ v, M_X0_countKept_b4 kz n x (nI k) = some v) (fun _ _ => True) 3 (by omega)
    (fun n x _ => ⟨x, by rw [M_X0_countKept_b4, if_pos (by decide)]⟩)
    (fun n k x hk _ ih => by
      rw [M_X0_countKept_b4, if_neg (gN 3 hk), if_pos (pu_inb hk (by decide))]
      unfold M_X0_countKept_b22
      rw [nI_1]
      by_cases q : kz (nI k).toNatClampNeg = -1
      · rw [if_pos q]; exact ih x trivial
      · rw [if_neg q]; exact ih _ trivial)
    0 trivial
theorem cn_T (hD : D ≤ 40) (hRS : pu_RS R A kinds strengths moved needs forbids m) {k : Nat} (hk : k ≤ 12) : ∃ v, ∀ st' : Nat → Int64, st' D = s → M_X6_count rsz st' (nI D) kz tsz (nI R) (nI A) kinds (nI k) = some v := by
  obtain ⟨c1, d1⟩ := co_T hRS (1 : Int32)
  obtain ⟨c3, d3⟩ := co_T hRS (3 : Int32)
  obtain ⟨e1, f1⟩ := ct_T (N := 6) (M := 40) (sizes := rsz) (by omega)
  obtain ⟨e2, f2⟩ := ct_T (N := 4) (M := 60) (sizes := tsz) (by omega)
  obtain ⟨g1, g2⟩ := ck_T (kz := kz)
  have go : ∀ v, (∀ st' : Nat → Int64, st' D = s → M_X6_count rsz st' (nI D) kz tsz (nI R) (nI A) kinds (nI k) = some v) → ∃ v, ∀ st' : Nat → Int64, st' D = s → M_X6_count rsz st' (nI D) kz tsz (nI R) (nI A) kinds (nI k) = some v := fun v h => ⟨v, h⟩
  have st1 : ∀ st' : Nat → Int64, st' D = s → M_X6_count rsz st' (nI D) kz tsz (nI R) (nI A) kinds (nI k) = (if nI k = (0 : Int32) then some (nI R) else if nI k = (1 : Int32) then some (nI A) else if nI k = (2 : Int32) then some (nI D) else if nI k = (3 : Int32) then some (M_X5_frostIn s) else if nI k = (4 : Int32) then some (tautF s) else if nI k = (5 : Int32) then some (M_X5_letGo s) else if nI k = (6 : Int32) then some (M_X5_parted s) else if nI k = (7 : Int32) then some (nI (smF s 6)) else if nI k = (8 : Int32) then some c1 else if nI k = (9 : Int32) then some c3 else if nI k = (10 : Int32) then some e1 else if nI k = (11 : Int32) then some e2 else some g1) := fun st' hst => by
    unfold M_X6_count M_X0_deeds
    rw [if_neg (nI_pos (by omega)), if_pos (aL 12 hk), now_C hD, Option.bind_some, hst, st_tE, as_E, d1, d3, f1, f2, g2]
    rfl
  exact go ((if nI k = (0 : Int32) then some (nI R) else if nI k = (1 : Int32) then some (nI A) else if nI k = (2 : Int32) then some (nI D) else if nI k = (3 : Int32) then some (M_X5_frostIn s) else if nI k = (4 : Int32) then some (tautF s) else if nI k = (5 : Int32) then some (M_X5_letGo s) else if nI k = (6 : Int32) then some (M_X5_parted s) else if nI k = (7 : Int32) then some (nI (smF s 6)) else if nI k = (8 : Int32) then some c1 else if nI k = (9 : Int32) then some c3 else if nI k = (10 : Int32) then some e1 else if nI k = (11 : Int32) then some e2 else some g1).getD 0) (fun st' hst => by
    rw [st1 st' hst]
    repeat' split
    all_goals rfl)
theorem dt_T (hD : D ≤ 40) (hRS : pu_RS R A kinds strengths moved needs forbids m) {i k : Nat} (hi : i < R) (hk : k ≤ 5) : ∃ v, ∀ st' : Nat → Int64, st' D = s → M_X6_detail st' (nI D) (nI R) kinds strengths moved (nI i) (nI k) = some v := by
  have hR := hRS.1
  obtain ⟨-, -, -, -, a5, -⟩ := hRS.2.2.2.2.1 i hi
  have st1 : ∀ st' : Nat → Int64, st' D = s → M_X6_detail st' (nI D) (nI R) kinds strengths moved (nI i) (nI k) = (if nI k = (0 : Int32) then some (kinds i) else if nI k = (1 : Int32) then some (nI (hd R kinds strengths i)) else if nI k = (2 : Int32) then some (m (14 + i)) else if nI k = (3 : Int32) then some (M_X5_strain s (nI i)) else if nI k = (4 : Int32) then (if M_X5_isLetGo s (nI i) = 0 then some 1 else some 0) else (if M_X5_isParted s (nI i) = 0 then some 0 else some 1)) := fun st' hst => by
    unfold M_X6_detail
    rw [now_C hD, Option.bind_some, hst, rs_kind hR hi, (hd_e hRS hi).1, a5]
    rfl
  refine ⟨(if nI k = (0 : Int32) then some (kinds i) else if nI k = (1 : Int32) then some (nI (hd R kinds strengths i)) else if nI k = (2 : Int32) then some (m (14 + i)) else if nI k = (3 : Int32) then some (M_X5_strain s (nI i)) else if nI k = (4 : Int32) then (if M_X5_isLetGo s (nI i) = 0 then some 1 else some 0) else (if M_X5_isParted s (nI i) = 0 then some 0 else some 1)).getD 0, fun st' hst => ?_⟩
  rw [st1 st' hst]
  repeat' split
  all_goals rfl
theorem dg_T (hD : D ≤ 40) (hV : pu_V R A kinds strengths moved needs forbids s) (hz : zk 6 40 rsz) (ht : zk 4 60 tsz) : ∃ v, ∀ st' : Nat → Int64, st' D = s → M_X6_digest rsz rpl st' (nI D) kz tsz tpl (nI R) (nI A) kinds strengths moved needs forbids = some v := by
  have hR := (V_R hV).1
  have hA := (V_R hV).2
  have hV' := hV
  obtain ⟨m, hRS, -⟩ := hV'
  -- from the back: kept courts and rows
  have p4 : ∀ x : Int64, ∃ v, ∀ st' : Nat → Int64, st' D = s → M_X6_digest_b133 rsz rpl st' (nI D) kz tsz tpl (nI R) (nI A) kinds strengths moved needs forbids x_fuel x (nI 0) = some v := fun x =>
    pu_lp (fun n k (x : Int64) => ∃ v, ∀ st' : Nat → Int64, st' D = s → M_X6_digest_b133 rsz rpl st' (nI D) kz tsz tpl (nI R) (nI A) kinds strengths moved needs forbids n x (nI k) = some v) (fun _ _ => True) 3 (by omega)
      (fun n x _ => by
        obtain ⟨v1, e1⟩ := df_T (N := 6) (M := 40) (places := rpl) (by omega) (by omega) hz x
        obtain ⟨v2, e2⟩ := df_T (N := 4) (M := 60) (places := tpl) (by omega) (by omega) ht v1
        exact ⟨v2, fun st' _ => by rw [M_X6_digest_b133, if_pos (by decide), e1, Option.bind_some, e2]; rfl⟩)
      (fun n k x hk _ ih => by
        obtain ⟨v, hv⟩ := ih (((31 : Int64) * x) + (kz k).toInt64) trivial
        refine ⟨v, fun st' hst => ?_⟩
        rw [M_X6_digest_b133, if_neg (gN 3 hk)]
        unfold M_X0_deedsKept M_X0_isKeepingPlace
        rw [if_neg (nI_pos (by omega)), if_neg (gN 3 hk), if_neg (by decide), if_pos (pu_inb hk (by decide)), Option.bind_some, nI_clamp (by omega), nI_1]
        exact hv st' hst)
      x trivial
  have p3 : ∀ (x : Int64) (y : Int32), ∃ v, ∀ st' : Nat → Int64, st' D = s → M_X6_digest_b98 rsz rpl st' (nI D) kz tsz tpl (nI R) (nI A) kinds strengths moved needs forbids x_fuel x y (nI 0) = some v := fun x y =>
    pu_lp (fun n k (x : Int64) => ∃ v, ∀ st' : Nat → Int64, st' D = s → M_X6_digest_b98 rsz rpl st' (nI D) kz tsz tpl (nI R) (nI A) kinds strengths moved needs forbids n x y (nI k) = some v) (fun _ _ => True) A (by omega)
      (fun n x _ => by
        obtain ⟨v, hv⟩ := p4 x
        exact ⟨v, fun st' hst => by rw [M_X6_digest_b98, if_pos (pu_le (by omega) (by omega) (Nat.le_refl A))]; exact hv st' hst⟩)
      (fun n k x hk _ ih => by
        obtain ⟨v, hv⟩ := ih (((31 : Int64) * x) + ((y >>> (nI k &&& (31 : Int32))) &&& (1 : Int32)).toInt64) trivial
        exact ⟨v, fun st' hst => by rw [M_X6_digest_b98, if_neg (nI_ge hk (by omega)), nI_1]; exact hv st' hst⟩)
      x trivial
  have p2 : ∀ x : Int64, ∃ v, ∀ st' : Nat → Int64, st' D = s → M_X6_digest_b33 rsz rpl st' (nI D) kz tsz tpl (nI R) (nI A) kinds strengths moved needs forbids x_fuel x (nI 0) = some v := fun x =>
    pu_lp (fun n k (x : Int64) => ∃ v, ∀ st' : Nat → Int64, st' D = s → M_X6_digest_b33 rsz rpl st' (nI D) kz tsz tpl (nI R) (nI A) kinds strengths moved needs forbids n x (nI k) = some v) (fun _ _ => True) R (by omega)
      (fun n x _ => by
        obtain ⟨v, hv⟩ := p3 x (lawF R A needs forbids (tautF s))
        refine ⟨v, fun st' hst => ?_⟩
        rw [M_X6_digest_b33, if_pos (pu_le (by omega) (by omega) (Nat.le_refl R)), now_C hD, Option.bind_some, hst, V_law hV, Option.bind_some]
        exact hv st' hst)
      (fun n k x hk _ ih => by
        have q : ∃ v, ∀ st' : Nat → Int64, st' D = s → M_X6_digest_b47 rsz rpl st' (nI D) kz tsz tpl (nI R) (nI A) kinds strengths moved needs forbids (fun (x1' : Int64) (x3' : Int32) => M_X6_digest_b33 rsz rpl st' (nI D) kz tsz tpl (nI R) (nI A) kinds strengths moved needs forbids n x1' x3') x_fuel x (nI k) (nI 0) = some v :=
          pu_lp (fun n' p (x : Int64) => ∃ v, ∀ st' : Nat → Int64, st' D = s → M_X6_digest_b47 rsz rpl st' (nI D) kz tsz tpl (nI R) (nI A) kinds strengths moved needs forbids (fun (x1' : Int64) (x3' : Int32) => M_X6_digest_b33 rsz rpl st' (nI D) kz tsz tpl (nI R) (nI A) kinds strengths moved needs forbids n x1' x3') n' x (nI k) (nI p) = some v) (fun _ _ => True) 6 (by omega)
            (fun n' x _ => by
              obtain ⟨v, hv⟩ := ih x trivial
              exact ⟨v, fun st' hst => by rw [M_X6_digest_b47, if_pos (by decide), nI_1]; exact hv st' hst⟩)
            (fun n' p x hp _ ih2 => by
              obtain ⟨c, hc⟩ := dt_T (s := s) hD hRS hk (show p ≤ 5 by omega)
              obtain ⟨v, hv⟩ := ih2 (((31 : Int64) * x) + c.toInt64) trivial
              exact ⟨v, fun st' hst => by rw [M_X6_digest_b47, if_neg (rN 5 (by omega)), hc st' hst, Option.bind_some, nI_1]; exact hv st' hst⟩)
            x trivial
        obtain ⟨v, hv⟩ := q
        exact ⟨v, fun st' hst => by rw [M_X6_digest_b33, if_neg (nI_ge hk (by omega))]; exact hv st' hst⟩)
      x trivial
  exact pu_lp (fun n k (x : Int64) => ∃ v, ∀ st' : Nat → Int64, st' D = s → M_X6_digest_b6 rsz rpl st' (nI D) kz tsz tpl (nI R) (nI A) kinds strengths moved needs forbids n x (nI k) = some v) (fun _ _ => True) 13 (by omega)
    (fun n x _ => by
      obtain ⟨v, hv⟩ := p2 x
      exact ⟨v, fun st' hst => by rw [M_X6_digest_b6, if_pos (by decide)]; exact hv st' hst⟩)
    (fun n k x hk _ ih => by
      obtain ⟨c, hc⟩ := cn_T (s := s) (rsz := rsz) (kz := kz) (tsz := tsz) hD hRS (show k ≤ 12 by omega)
      obtain ⟨v, hv⟩ := ih (((31 : Int64) * x) + c.toInt64) trivial
      exact ⟨v, fun st' hst => by rw [M_X6_digest_b6, if_neg (rN 12 (by omega)), hc st' hst, Option.bind_some, nI_1]; exact hv st' hst⟩)
    17 trivial
theorem t_digest (hD : D ≤ 40) (hV : pu_V R A kinds strengths moved needs forbids s) (hz : zk 6 40 rsz) (ht : zk 4 60 Y.1) : ∃ v, ∀ (st' : Nat → Int64) (lf' la' : Int32) (up' lo' : Int64) (ks' : Nat → Nat → Int64) (fc' : Nat → Int32) (rch' : Int32) (tr' : Nat → Int32), st' D = s → M_LR_digest (TS Y R A kinds strengths moved needs forbids lf' la' up' lo' rsz rpl st' (nI D) ks' kz fc' rch' tr') = some v := by
  obtain ⟨v, hv⟩ := dg_T (rsz := rsz) (rpl := rpl) (kz := kz) (tsz := Y.1) (tpl := Y.2.1) hD hV hz ht
  refine ⟨v, fun st' lf' la' up' lo' ks' fc' rch' tr' hst => ?_⟩
  rw [b_digest, hv st' hst]
  rfl
end
