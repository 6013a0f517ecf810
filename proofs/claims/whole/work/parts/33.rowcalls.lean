/-! calls on rows and texts -/
theorem pu_rng {x : Int32} {M : Nat} (hM : M < 2 ^ 31) (h : x ≤ nI M) (h0 : 0 ≤ x) : ∃ z, z ≤ M ∧ x = nI z := by
  rcases pu_nng x with h1 | ⟨k, hk, rfl⟩
  · rw [Int32.lt_iff_toInt_lt] at h1
    rw [Int32.le_iff_toInt_le] at h0
    omega
  · exact ⟨k, (nI_leI hk hM).mp h, rfl⟩
theorem pu_nn (z : Nat) (hz : z < 2 ^ 31) : (0 : Int32) ≤ nI z := nI_pos' hz
theorem pu_n0 : ¬ (0 : Int32) ≤ -1 := by decide
section
variable {sz rl rw fc : Nat → Int32} {pl : Nat → Nat → Int32} {lf la : Int32}
theorem p_row (hS : pu_S 6 40 sz pl rl rw) (x1 x2 : Int32) : ∃ v lf' fc' sz' pl' rl' rw', M_X6_row lf sz pl fc x1 x2 = some (v, lf', sz', pl', fc') ∧ M_X7_row rw rl fc lf x1 x2 = some (v, rw', rl', fc', lf') ∧ pu_S 6 40 sz' pl' rl' rw' := by
  unfold M_X6_row M_X6_made_rows M_X7_row
  rcases pu_numR x1 with ⟨r, hr, rfl, h1, h2⟩ | ⟨h1, h2⟩
  · rw [h1, h2, if_neg n10, if_neg n10]
    by_cases h3 : x2 ≤ 40
    · rw [if_pos h3, if_pos h3]
      by_cases h4 : 0 ≤ x2
      · rw [if_pos h4, if_pos h4, if_pos (pu_inb hr (by decide)), nI_clamp (by omega)]
        obtain ⟨z, hz, rfl⟩ := pu_rng (M := 40) (by decide) h3 h4
        obtain ⟨q, hq1, hq2⟩ := pu_make (N := 6) (M := 40) (sizes := sz) (places := pl) hr (by decide) hz (by decide) (most := 40) (blank := 0) rfl
        obtain ⟨rw', e1, e2, e3⟩ := pu_fillR (rw := rw) (rl := upd rl r (nI z)) (found := fc) (latest := lf) hr hz
        rw [hq1, e1]
        exact ⟨_, _, _, _, _, _, _, rfl, rfl, pu_S_make hS hr hz hq2 e2 e3⟩
      · rw [if_neg h4, if_neg h4, show (5 : Int32) = nI 5 from rfl, pu_f (by decide) (by decide), pu_g (by decide)]
        exact ⟨_, _, _, _, _, _, _, rfl, rfl, hS⟩
    · rw [if_neg h3, if_neg h3]
      exact ⟨_, _, _, _, _, _, _, rfl, rfl, hS⟩
  · rw [h1, h2, if_pos rfl, if_pos rfl]
    exact ⟨_, _, _, _, _, _, _, rfl, rfl, hS⟩
theorem p_text (hS : pu_S 4 60 sz pl rl rw) (x1 x2 : Int32) : ∃ v lf' fc' sz' pl' rl' rw', M_X6_text lf fc sz pl x1 x2 = some (v, lf', fc', sz', pl') ∧ M_X7_text rw rl fc lf x1 x2 = some (v, rw', rl', fc', lf') ∧ pu_S 4 60 sz' pl' rl' rw' := by
  unfold M_X6_text M_X6_made_texts M_X7_text
  rcases pu_numT x1 with ⟨r, hr, rfl, h1, h2⟩ | ⟨h1, h2⟩
  · rw [h1, h2, if_neg n10, if_neg n10]
    by_cases h3 : x2 ≤ 60
    · rw [if_pos h3, if_pos h3]
      by_cases h4 : 0 ≤ x2
      · rw [if_pos h4, if_pos h4, if_pos (pu_inb hr (by decide)), nI_clamp (by omega)]
        obtain ⟨z, hz, rfl⟩ := pu_rng (M := 60) (by decide) h3 h4
        obtain ⟨q, hq1, hq2⟩ := pu_make (N := 4) (M := 60) (sizes := sz) (places := pl) hr (by decide) hz (by decide) (most := 60) (blank := 32) rfl
        obtain ⟨rw', e1, e2, e3⟩ := pu_fillT (rw := rw) (rl := upd rl r (nI z)) (found := fc) (latest := lf) hr hz
        rw [hq1, e1]
        exact ⟨_, _, _, _, _, _, _, rfl, rfl, pu_S_make hS hr hz hq2 e2 e3⟩
      · rw [if_neg h4, if_neg h4, show (5 : Int32) = nI 5 from rfl, pu_f (by decide) (by decide), pu_g (by decide)]
        exact ⟨_, _, _, _, _, _, _, rfl, rfl, hS⟩
    · rw [if_neg h3, if_neg h3]
      exact ⟨_, _, _, _, _, _, _, rfl, rfl, hS⟩
  · rw [h1, h2, if_pos rfl, if_pos rfl]
    exact ⟨_, _, _, _, _, _, _, rfl, rfl, hS⟩
/-- what refuses a missing row -/
theorem pu_missR (x : Int32) (hS : pu_S 6 40 sz pl rl rw) : (M_X4_isNumber 6 40 x = 0 ∧ M_X7_isRow x = 0 ∧ M_X6_refusalOfMissing_rows sz lf fc x = some (-1, lf, fc)) ∨
    ∃ r, r < 6 ∧ x = nI r ∧ M_X4_isNumber 6 40 x = 1 ∧ M_X7_isRow x = 1 ∧ ((sz r = -1 ∧ rl r = -1 ∧ M_X6_refusalOfMissing_rows sz lf fc x = some (-3, nI 1, upd fc 1 (fc 1 + 1))) ∨
      ∃ z, z ≤ 40 ∧ sz r = nI z ∧ rl r = nI z ∧ (∀ i, i < z → pl r i = rw (40 * r + i)) ∧ M_X6_refusalOfMissing_rows sz lf fc x = some (0, lf, fc)) := by
  unfold M_X6_refusalOfMissing_rows
  rcases pu_numR x with ⟨r, hr, rfl, h1, h2⟩ | ⟨h1, h2⟩
  · refine .inr ⟨r, hr, rfl, h1, h2, ?_⟩
    rw [h1, if_neg n10]
    obtain ⟨a, b | ⟨z, hz, b, c⟩⟩ := hS r hr
    · rw [pu_there0 hr (by decide) b]
      exact .inl ⟨b, by rw [a, b], by rw [Option.bind_some, if_pos rfl, show (1 : Int32) = nI 1 from rfl, pu_f (by decide) (by decide)]; rfl⟩
    · rw [pu_there1 hr (by decide) (by omega) b]
      exact .inr ⟨z, hz, b, by rw [a, b], c, by rw [Option.bind_some, if_neg n10]⟩
  · exact .inl ⟨h1, h2, by rw [h1, if_pos rfl]⟩
theorem pu_missT (x : Int32) (hS : pu_S 4 60 sz pl rl rw) : (M_X4_isNumber 4 60 x = 0 ∧ M_X7_isText x = 0 ∧ M_X6_refusalOfMissing_texts sz lf fc x = some (-1, lf, fc)) ∨
    ∃ r, r < 4 ∧ x = nI r ∧ M_X4_isNumber 4 60 x = 1 ∧ M_X7_isText x = 1 ∧ ((sz r = -1 ∧ rl r = -1 ∧ M_X6_refusalOfMissing_texts sz lf fc x = some (-3, nI 1, upd fc 1 (fc 1 + 1))) ∨
      ∃ z, z ≤ 60 ∧ sz r = nI z ∧ rl r = nI z ∧ (∀ i, i < z → pl r i = rw (60 * r + i)) ∧ M_X6_refusalOfMissing_texts sz lf fc x = some (0, lf, fc)) := by
  unfold M_X6_refusalOfMissing_texts
  rcases pu_numT x with ⟨r, hr, rfl, h1, h2⟩ | ⟨h1, h2⟩
  · refine .inr ⟨r, hr, rfl, h1, h2, ?_⟩
    rw [h1, if_neg n10]
    obtain ⟨a, b | ⟨z, hz, b, c⟩⟩ := hS r hr
    · rw [pu_there0 hr (by decide) b]
      exact .inl ⟨b, by rw [a, b], by rw [Option.bind_some, if_pos rfl, show (1 : Int32) = nI 1 from rfl, pu_f (by decide) (by decide)]; rfl⟩
    · rw [pu_there1 hr (by decide) (by omega) b]
      exact .inr ⟨z, hz, b, by rw [a, b], c, by rw [Option.bind_some, if_neg n10]⟩
  · exact .inl ⟨h1, h2, by rw [h1, if_pos rfl]⟩
/-- .. and its places -/
theorem pu_placeR (x y : Int32) (hS : pu_S 6 40 sz pl rl rw) : (∃ v lf' fc', ¬ v = 0 ∧ ¬ v = 1 ∧ M_X6_refusalOfPlace_rows sz lf fc x y = some (v, lf', fc') ∧ M_X7_at rw rl fc lf la x y = some (v, fc', lf', la)) ∨
    ∃ r i z, r < 6 ∧ x = nI r ∧ z ≤ 40 ∧ i < z ∧ y = nI i ∧ sz r = nI z ∧ pl r i = rw (40 * r + i) ∧ M_X6_refusalOfPlace_rows sz lf fc x y = some (0, lf, fc) ∧ M_X7_at rw rl fc lf la x y = some (1, fc, lf, rw (40 * r + i)) := by
  unfold M_X6_refusalOfPlace_rows M_X7_at
  rcases pu_missR (lf := lf) (fc := fc) x hS with ⟨h1, h2, h3⟩ | ⟨r, hr, rfl, h1, h2, ⟨a, b, h3⟩ | ⟨z, hz, a, b, c, h3⟩⟩
  · refine .inl ⟨-1, lf, fc, by decide, by decide, ?_, ?_⟩
    · rw [h3]; rfl
    · rw [h2]; exact if_pos rfl
  · refine .inl ⟨-3, _, _, by decide, by decide, by rw [h3]; rfl, ?_⟩
    rw [h2, if_neg n10, if_pos (pu_inb hr (by decide)), nI_clamp (by omega), b, if_neg pu_n0, show (1 : Int32) = nI 1 from rfl, pu_g (by decide)]
    rfl
  · rw [h3, h2, if_neg n10, if_pos (pu_inb hr (by decide)), nI_clamp (by omega), b, if_pos (pu_nn z (by omega)), Option.bind_some, if_pos rfl]
    rcases pu_inS (z := z) (by omega) y with ⟨i, hi, rfl, e⟩ | ⟨e0, e⟩
    · refine .inr ⟨r, i, z, hr, rfl, hz, hi, rfl, a, c i hi, ?_, ?_⟩
      · rw [pu_place1 hr (by decide) (by omega) a hi]; rfl
      · rw [e, if_neg n10, pu_e40, if_pos (pu_inb (by omega) (by decide)), nI_clamp (by omega)]
        rfl
    · refine .inl ⟨-3, nI 2, upd fc 2 (fc 2 + 1), by decide, by decide, ?_, ?_⟩
      · rw [pu_place0 hr (by decide) a e0, Option.bind_some, if_pos rfl, show (2 : Int32) = nI 2 from rfl, pu_f (by decide) (by decide)]
        rfl
      · rw [e, if_pos rfl, show (2 : Int32) = nI 2 from rfl, pu_g (by decide)]
        rfl
theorem p_at (hS : pu_S 6 40 sz pl rl rw) (x1 x2 : Int32) : ∃ v lf' la' fc', M_X6_at sz pl lf la fc x1 x2 = some (v, lf', la', fc') ∧ M_X7_at rw rl fc lf la x1 x2 = some (v, fc', lf', la') := by
  unfold M_X6_at
  rcases pu_placeR (lf := lf) (la := la) (fc := fc) x1 x2 hS with ⟨v, lf', fc', h0, _, h1, h2⟩ | ⟨r, i, z, hr, rfl, hz, hi, rfl, a, b, h1, h2⟩
  · exact ⟨v, lf', la, fc', by rw [h1]; exact if_neg h0, h2⟩
  · refine ⟨1, lf, rw (40 * r + i), fc, ?_, h2⟩
    rw [h1, Option.bind_some, if_pos rfl, pu_get hr (by decide) hz (by decide) a hi, b]
    rfl
theorem p_lay (hS : pu_S 6 40 sz pl rl rw) (x1 x2 x3 : Int32) : ∃ v lf' la' fc' pl' rw', M_X6_lay sz lf la pl fc x1 x2 x3 = some (v, lf', la', pl', fc') ∧ M_X7_lay rl rw fc lf la x1 x2 x3 = some (v, rw', fc', lf', la') ∧ pu_S 6 40 sz pl' rl rw' := by
  unfold M_X6_lay M_X7_lay
  rcases pu_placeR (lf := lf) (la := la) (fc := fc) x1 x2 hS with ⟨v, lf', fc', h0, h0', h1, h2⟩ | ⟨r, i, z, hr, rfl, hz, hi, rfl, a, b, h1, h2⟩
  · exact ⟨v, lf', la, fc', pl, rw, by rw [h1]; exact if_neg h0, by rw [h2]; exact if_neg h0', hS⟩
  · refine ⟨1, lf, rw (40 * r + i), fc, upd2 pl r (upd (pl r) i x3), upd rw (40 * r + i) x3, ?_, ?_, pu_S_set hS hr (by omega) x3⟩
    · rw [h1, Option.bind_some, if_pos rfl, pu_get hr (by decide) hz (by decide) a hi, Option.bind_some, pu_set hr (by decide) hz (by decide) a hi, b]
      rfl
    · rw [h2, Option.bind_some, if_pos rfl, pu_e40, if_pos (pu_inb (by omega) (by decide)), nI_clamp (by omega)]
theorem p_tear (hS : pu_S 6 40 sz pl rl rw) (x1 : Int32) : ∃ v lf' fc' sz' rl', M_X6_tear lf sz fc x1 = some (v, lf', sz', fc') ∧ M_X7_tear rl fc lf x1 = some (v, rl', fc', lf') ∧ pu_S 6 40 sz' pl rl' rw := by
  unfold M_X6_tear M_X7_tear
  rcases pu_missR (lf := lf) (fc := fc) x1 hS with ⟨h1, h2, h3⟩ | ⟨r, hr, rfl, h1, h2, ⟨a, b, h3⟩ | ⟨z, hz, a, b, c, h3⟩⟩
  · exact ⟨-1, lf, fc, sz, rl, by rw [h3]; rfl, by rw [h2]; exact if_pos rfl, hS⟩
  · refine ⟨-3, _, _, sz, rl, by rw [h3]; rfl, ?_, hS⟩
    rw [h2, if_neg n10, if_pos (pu_inb hr (by decide)), nI_clamp (by omega), b, if_neg pu_n0, show (1 : Int32) = nI 1 from rfl, pu_g (by decide)]
    rfl
  · refine ⟨1, lf, fc, upd sz r (-1), upd rl r (-1), ?_, ?_, pu_S_drop hS⟩
    · rw [h3, Option.bind_some, if_pos rfl]
      unfold M_X4_drop
      rw [h1, if_neg n10, if_pos (pu_inb hr (by decide)), nI_clamp (by omega)]
      rfl
    · rw [h2, if_neg n10, if_pos (pu_inb hr (by decide)), nI_clamp (by omega), b, if_pos (pu_nn z (by omega))]
theorem pu_i8 (x : Int32) : x.toInt8 = (x &&& 255).toInt8 := by
  apply Int8.toBitVec_inj.mp
  rw [Int32.toBitVec_toInt8, Int32.toBitVec_toInt8, Int32.toBitVec_and]
  apply BitVec.eq_of_getLsbD_eq
  intro i hi
  have h : ((255 : Int32).toBitVec).getLsbD i = true := by
    rw [(by decide : (255 : Int32).toBitVec = 255#32)]
    exact (by decide +kernel : ∀ i, i < 8 → (255#32).getLsbD i = true) i hi
  rw [BitVec.getLsbD_signExtend, BitVec.getLsbD_signExtend, if_pos (by omega), if_pos (by omega), BitVec.getLsbD_and, h, Bool.and_true]
theorem pu_byte (x : Int32) : ((x &&& 255) ≤ 127 → x.toInt8.toInt32 = (x &&& 255)) ∧ (¬ (x &&& 255) ≤ 127 → x.toInt8.toInt32 = (x &&& 255) - 256) := by
  rw [pu_i8]
  obtain ⟨j, hj, e⟩ := pk_andE x (m := 255) 8 (by decide)
  rw [e]
  exact (by decide +kernel : ∀ j, j < 256 → (nI j ≤ 127 → (nI j).toInt8.toInt32 = nI j) ∧ (¬ nI j ≤ 127 → (nI j).toInt8.toInt32 = nI j - 256)) j hj
theorem p_put (hS : pu_S 4 60 sz pl rl rw) (x1 x2 x3 : Int32) : ∃ v lf' fc' pl' rw', M_X6_put sz lf fc pl x1 x2 x3 = some (v, lf', fc', pl') ∧ M_X7_put rl rw fc lf x1 x2 x3 = some (v, rw', fc', lf') ∧ pu_S 4 60 sz pl' rl rw' := by
  unfold M_X6_put M_X7_put M_X6_refusalOfPlace_texts
  rcases pu_missT (lf := lf) (fc := fc) x1 hS with ⟨h1, h2, h3⟩ | ⟨r, hr, rfl, h1, h2, ⟨a, b, h3⟩ | ⟨z, hz, a, b, c, h3⟩⟩
  · refine ⟨-1, lf, fc, pl, rw, ?_, ?_, hS⟩
    · rw [h3]; rfl
    · rw [h2]; exact if_pos rfl
  · refine ⟨-3, nI 1, upd fc 1 (fc 1 + 1), pl, rw, ?_, ?_, hS⟩
    · rw [h3]; rfl
    · rw [h2, if_neg n10, if_pos (pu_inb hr (by decide)), nI_clamp (by omega), b, if_neg pu_n0, show (1 : Int32) = nI 1 from rfl, pu_g (by decide)]
      rfl
  · rw [h3, h2, if_neg n10, if_pos (pu_inb hr (by decide)), nI_clamp (by omega), b, if_pos (pu_nn z (by omega)), Option.bind_some, if_pos rfl]
    rcases pu_inS (z := z) (by omega) x2 with ⟨i, hi, rfl, e⟩ | ⟨e0, e⟩
    · refine ⟨pl r i + 1000, lf, fc, upd2 pl r (upd (pl r) i x3.toInt8.toInt32), upd rw (60 * r + i) x3.toInt8.toInt32, ?_, ?_, pu_S_set hS hr (by omega) _⟩
      · rw [pu_place1 hr (by decide) (by omega) a hi, Option.bind_some, if_neg n10, Option.bind_some, if_pos rfl, pu_get hr (by decide) hz (by decide) a hi, Option.bind_some, pu_set hr (by decide) hz (by decide) a hi]
        rfl
      · rw [e, if_neg n10, pu_e60, if_pos (pu_inb (by omega) (by decide)), nI_clamp (by omega), c i hi]
        unfold M_X7_put_b96
        rw [if_pos (pu_inb (by omega) (by decide)), if_pos (pu_inb (by omega) (by decide)), nI_clamp (by omega)]
        by_cases h4 : (x3 &&& (255 : Int32)) ≤ 127
        · rw [if_pos h4, (pu_byte x3).1 h4]
        · rw [if_neg h4, (pu_byte x3).2 h4]
    · refine ⟨-3, nI 2, upd fc 2 (fc 2 + 1), pl, rw, ?_, ?_, hS⟩
      · rw [pu_place0 hr (by decide) a e0, Option.bind_some, if_pos rfl, show (2 : Int32) = nI 2 from rfl, pu_f (by decide) (by decide), Option.bind_some, Option.bind_some]
        rfl
      · rw [e, if_pos rfl, show (2 : Int32) = nI 2 from rfl, pu_g (by decide)]
        rfl
theorem pu_l0 {z : Nat} (h0 : 0 < z) (h : z < 2 ^ 31) : ¬ (nI z).toInt64 = 0 := by
  rw [nI_l h]
  exact fun q => by have := (lN_eq (b := 0) h (by decide)).mp q; omega
theorem p_mean (hS : pu_S 6 40 sz pl rl rw) (x1 : Int32) : ∃ v lf' la' fc', M_X6_mean sz pl lf la fc x1 = some (v, lf', la', fc') ∧ M_X7_mean rw rl fc lf la x1 = some (v, fc', lf', la') := by
  unfold M_X6_mean M_X7_mean
  rcases pu_missR (lf := lf) (fc := fc) x1 hS with ⟨h1, h2, h3⟩ | ⟨r, hr, rfl, h1, h2, ⟨a, b, h3⟩ | ⟨z, hz, a, b, c, h3⟩⟩
  · exact ⟨-1, lf, la, fc, by rw [h3]; rfl, by rw [h2]; exact if_pos rfl⟩
  · refine ⟨-3, _, la, _, by rw [h3]; rfl, ?_⟩
    rw [h2, if_neg n10, if_pos (pu_inb hr (by decide)), nI_clamp (by omega), b, if_neg pu_n0, show (1 : Int32) = nI 1 from rfl, pu_g (by decide)]
    rfl
  · rw [h3, h2, if_neg n10, if_pos (pu_inb hr (by decide)), nI_clamp (by omega), b, if_pos (pu_nn z (by omega)), Option.bind_some, if_pos rfl, pu_size hr (by decide), a, Option.bind_some]
    rcases Nat.eq_zero_or_pos z with e | e
    · subst e
      rw [if_neg (show ¬ (0 : Int32) < nI 0 by decide), if_pos (show nI 0 = 0 from rfl), show (4 : Int32) = nI 4 from rfl, pu_f (by decide) (by decide), pu_g (by decide)]
      exact ⟨_, _, _, _, rfl, rfl⟩
    · rw [if_pos (rL 0 e (by omega)), if_neg (eN 0 (by omega) (by omega))]
      have hl : ∃ S, M_X4_sum_b5 6 40 sz pl x_fuel (nI r) 0 (nI 0) = some S ∧ M_X7_mean_b44 rw rl x_fuel fc lf la (nI r) 0 (nI 0) = some (1, fc, lf, (S / (nI z).toInt64).toInt32) :=
        pu_lp (fun n k (s : Int64) => ∃ S, M_X4_sum_b5 6 40 sz pl n (nI r) s (nI k) = some S ∧ M_X7_mean_b44 rw rl n fc lf la (nI r) s (nI k) = some (1, fc, lf, (S / (nI z).toInt64).toInt32))
          (fun _ _ => True) z (by omega)
          (fun n s _ => ⟨s, by rw [M_X4_sum_b5, pu_size hr (by decide), a, Option.bind_some, if_pos (pu_le (by omega) (by omega) (Nat.le_refl z))], by
            rw [M_X7_mean_b44, if_pos (pu_inb hr (by decide)), nI_clamp (by omega), b, if_pos (pu_le (by omega) (by omega) (Nat.le_refl z)), if_pos (pu_l0 e (by omega))]
            rfl⟩)
          (fun n k s hk _ ih => by
            rw [M_X4_sum_b5, pu_size hr (by decide), a, Option.bind_some, if_neg (nI_ge hk (by omega)), pu_get hr (by decide) hz (by decide) a hk, Option.bind_some, M_X7_mean_b44, if_pos (pu_inb hr (by decide)), nI_clamp (by omega), b, if_neg (nI_ge hk (by omega)), pu_e40, if_pos (pu_inb (by omega) (by decide)), nI_clamp (by omega), nI_1, c k hk]
            exact ih _ trivial)
          0 trivial
      obtain ⟨S, e1, e2⟩ := hl
      unfold M_X4_sum
      refine ⟨1, lf, (S / (nI z).toInt64).toInt32, fc, ?_, e2⟩
      have e1' : M_X4_sum_b5 6 40 sz pl x_fuel (nI r) (0 : Int64) (0 : Int32) = some S := e1
      rw [e1', Option.bind_some, if_pos (pu_l0 e (by omega))]
      rfl
theorem pu_lsub {a b : Nat} (ha : a < 2 ^ 31) (hb : b < 2 ^ 31) : (lN a - lN b).toInt = (a : Int) - b := by
  rw [Int64.toInt_sub, lN_toInt ha, lN_toInt hb]
  exact Int.bmod_eq_of_le (by omega) (by omega)
theorem pu_hp {r z m : Nat} (hr : r < 6) (hz : z ≤ 40) (hm : m < 2 ^ 31) (a : sz r = nI z) (x : Int32) :
    (∃ i, x = nI i ∧ i + m ≤ z ∧ M_X4_hasPlaces 6 40 sz (nI r) x (nI m) = some 1 ∧ M_X7_in x.toInt64 (0 : Int64) ((nI z).toInt64 - (nI m).toInt64) = 1) ∨
    (M_X4_hasPlaces 6 40 sz (nI r) x (nI m) = some 0 ∧ M_X7_in x.toInt64 (0 : Int64) ((nI z).toInt64 - (nI m).toInt64) = 0) := by
  have h0 : (0 : Int64).toInt = 0 := by decide
  unfold M_X4_hasPlaces M_X7_in
  simp only [lg_cmp_lt, lg_cmp_gt, Int64.lt_iff_toInt_lt]
  rw [h0, nI_l (show z < 2 ^ 31 by omega), nI_l hm, pu_lsub (by omega) hm, Int32.toInt_toInt64, pu_size hr (by decide), a, Option.bind_some, Option.bind_some]
  rcases pu_nng x with h | ⟨i, hi, rfl⟩
  · have h' := h
    rw [Int32.lt_iff_toInt_lt, show (0 : Int32).toInt = 0 from by decide] at h'
    exact .inr ⟨if_pos h, if_pos h'⟩
  · rw [if_neg (nI_pos hi), if_neg (nI_pos hm), nI_toInt hi, if_neg (show ¬ (i : Int) < 0 by omega)]
    by_cases h1 : i ≤ z
    · rw [if_neg (pu_nlt (by omega) (by omega) h1), pk_sub h1]
      by_cases h2 : i + m ≤ z
      · exact .inl ⟨i, rfl, h2, if_neg (pu_nlt (by omega) (by omega) (by omega)), if_neg (by omega)⟩
      · exact .inr ⟨if_pos (pu_lt (by omega) (by omega) (by omega)), if_pos (by omega)⟩
    · exact .inr ⟨if_pos (pu_lt (by omega) (by omega) (by omega)), if_pos (by omega)⟩
theorem pu_cp2 {t fd : Nat → Int32} {r j m : Nat} (hr : r < 6) (hj : j + m ≤ 40) : ∃ rw', M_X7_copy_b138 rl x_fuel rw fd t lf (nI r) (nI j) (nI m) 0 = some (1, rw', fd, t, lf) ∧ (∀ q, q < m → rw' (40 * r + j + q) = t q) ∧ ∀ q, (q < 40 * r + j ∨ 40 * r + j + m ≤ q) → rw' q = rw q :=
  pu_lp (fun n k s => ∃ rw', M_X7_copy_b138 rl n s fd t lf (nI r) (nI j) (nI m) (nI k) = some (1, rw', fd, t, lf) ∧ (∀ q, q < m → rw' (40 * r + j + q) = t q) ∧ ∀ q, (q < 40 * r + j ∨ 40 * r + j + m ≤ q) → rw' q = rw q)
    (fun k s => (∀ q, q < k → s (40 * r + j + q) = t q) ∧ ∀ q, (q < 40 * r + j ∨ 40 * r + j + m ≤ q) → s q = rw q) m (by omega)
    (fun n s h => ⟨s, by rw [M_X7_copy_b138, if_pos (pu_le (by omega) (by omega) (Nat.le_refl m))], h.1, h.2⟩)
    (fun n k s hk h ih => by
      rw [M_X7_copy_b138, if_neg (nI_ge hk (by omega)), if_pos (pu_inb (by omega) (by decide)), pu_e40, nI_add, if_pos (pu_inb (by omega) (by decide)), nI_clamp (by omega), nI_clamp (by omega), nI_1]
      refine ih _ ⟨fun q hq => ?_, fun q hq => ?_⟩
      · by_cases e : q = k
        · subst e; rw [pu_us]
        · rw [pu_un (by omega)]; exact h.1 q (by omega)
      · rw [pu_un (by omega)]; exact h.2 q hq)
    rw ⟨fun q hq => absurd hq (by omega), fun q _ => rfl⟩
theorem pu_cp1 {t fd : Nat → Int32} {r i to j m : Nat} (hr : r < 6) (hi : i + m ≤ 40) (ht : to < 6) (hj : j + m ≤ 40) : ∃ rw' t', M_X7_copy_b101 rl x_fuel rw fd t lf (nI r) (nI i) (nI to) (nI j) (nI m) 0 = some (1, rw', fd, t', lf) ∧ (∀ q, q < m → rw' (40 * to + j + q) = rw (40 * r + i + q)) ∧ ∀ q, (q < 40 * to + j ∨ 40 * to + j + m ≤ q) → rw' q = rw q :=
  pu_lp (fun n k s => ∃ rw' t', M_X7_copy_b101 rl n rw fd s lf (nI r) (nI i) (nI to) (nI j) (nI m) (nI k) = some (1, rw', fd, t', lf) ∧ (∀ q, q < m → rw' (40 * to + j + q) = rw (40 * r + i + q)) ∧ ∀ q, (q < 40 * to + j ∨ 40 * to + j + m ≤ q) → rw' q = rw q)
    (fun k s => ∀ q, q < k → s q = rw (40 * r + i + q)) m (by omega)
    (fun n s h => by
      obtain ⟨rw', e1, e2, e3⟩ := pu_cp2 (rl := rl) (rw := rw) (lf := lf) (t := s) (fd := fd) ht hj
      exact ⟨rw', s, by rw [M_X7_copy_b101, if_pos (pu_le (by omega) (by omega) (Nat.le_refl m)), e1], fun q hq => by rw [e2 q hq, h q hq], e3⟩)
    (fun n k s hk h ih => by
      rw [M_X7_copy_b101, if_neg (nI_ge hk (by omega)), pu_e40, nI_add, if_pos (pu_inb (by omega) (by decide)), if_pos (pu_inb (by omega) (by decide)), nI_clamp (by omega), nI_clamp (by omega), nI_1]
      refine ih _ (fun q hq => ?_)
      by_cases e : q = k
      · subst e; rw [pu_us]
      · rw [pu_un (by omega)]; exact h q (by omega))
    t (fun q hq => absurd hq (by omega))
theorem p_copy {t : Nat → Int32} (hS : pu_S 6 40 sz pl rl rw) (x1 x2 x3 x4 x5 : Int32) : ∃ v lf' fc' pl' rw' t', M_X6_copy sz lf pl fc x1 x2 x3 x4 x5 = some (v, lf', pl', fc') ∧ M_X7_copy rl rw fc t lf x1 x2 x3 x4 x5 = some (v, rw', fc', t', lf') ∧ pu_S 6 40 sz pl' rl rw' := by
  unfold M_X6_copy M_X7_copy M_X6_copy_b57 M_X6_copy_b92 M_X7_copy_b45 M_X7_copy_b92
  rcases pu_numR x1 with ⟨r, hr, rfl, h1, h2⟩ | ⟨h1, h2⟩
  · rw [h1, h2, if_neg n10, if_neg n10]
    rcases pu_numR x3 with ⟨to, ht, rfl, h3, h4⟩ | ⟨h3, h4⟩
    · rw [h3, h4, if_neg n10, if_neg n10]
      by_cases h5 : 0 ≤ x5
      · rw [if_pos h5, if_pos h5, if_pos (pu_inb hr (by decide)), nI_clamp (show r < 2 ^ 31 by omega)]
        obtain ⟨m, hm, rfl⟩ : ∃ m, m < 2 ^ 31 ∧ x5 = nI m := (pu_nng x5).resolve_left (fun q => by rw [Int32.lt_iff_toInt_lt] at q; rw [Int32.le_iff_toInt_le] at h5; omega)
        obtain ⟨a, b | ⟨z, hz, b, c⟩⟩ := hS r hr
        · rw [pu_there0 hr (by decide) b, a, b, if_pos (by decide), Option.bind_some, if_pos rfl, show (1 : Int32) = nI 1 from rfl, pu_f (by decide) (by decide), pu_g (by decide)]
          exact ⟨_, _, _, _, _, _, rfl, rfl, hS⟩
        · rw [pu_there1 hr (by decide) (by omega) b, a, b, if_neg (nI_pos (by omega)), Option.bind_some, if_neg n10, if_pos (pu_inb ht (by decide)), nI_clamp (show to < 2 ^ 31 by omega)]
          obtain ⟨a', b' | ⟨z', hz', b', c'⟩⟩ := hS to ht
          · rw [pu_there0 ht (by decide) b', a', b', if_neg pu_n0, Option.bind_some, if_pos rfl, show (1 : Int32) = nI 1 from rfl, pu_f (by decide) (by decide), pu_g (by decide)]
            exact ⟨_, _, _, _, _, _, rfl, rfl, hS⟩
          · rw [pu_there1 ht (by decide) (by omega) b', a', b', if_pos (pu_nn z' (by omega)), Option.bind_some, if_neg n10]
            rcases pu_hp hr hz hm b x2 with ⟨i, rfl, hi, e1, e2⟩ | ⟨e1, e2⟩
            · rcases pu_hp ht hz' hm b' x4 with ⟨j, rfl, hj, e3, e4⟩ | ⟨e3, e4⟩
              · rw [e1, e2, Option.bind_some, if_neg n10, e3, e4, Option.bind_some, if_neg n10, if_neg n10, if_neg n10]
                obtain ⟨rw', t', g1, g2, g3⟩ := pu_cp1 (rl := rl) (rw := rw) (lf := lf) (t := t) (fd := fc) hr (show i + m ≤ 40 by omega) ht (show j + m ≤ 40 by omega)
                refine ⟨1, lf, fc, upd2 pl to (va_cpy (pl r) (pl to) i j m), rw', t', ?_, g1, ?_⟩
                · unfold M_X4_carry
                  rw [e1, Option.bind_some, if_neg n10, e3, Option.bind_some, if_neg n10, if_pos (pu_inb hr (by decide)), if_pos (pu_inb ht (by decide)), if_pos ⟨nI_pos (by omega), nI_pos (by omega), nI_pos (by omega), by rw [nI_clamp (by omega), nI_clamp (by omega)]; omega, by rw [nI_clamp (by omega), nI_clamp (by omega)]; omega⟩, nI_clamp (show to < 2 ^ 31 by omega), nI_clamp (show r < 2 ^ 31 by omega), nI_clamp (show i < 2 ^ 31 by omega), nI_clamp (show j < 2 ^ 31 by omega), nI_clamp (show m < 2 ^ 31 by omega)]
                  rfl
                · intro r' hr'
                  refine ⟨(hS r' hr').1, ?_⟩
                  by_cases e : r' = to
                  · subst e
                    refine .inr ⟨z', hz', b', fun q hq => ?_⟩
                    rw [pu_2s]
                    by_cases e5 : j ≤ q ∧ q < j + m
                    · rw [pk_cpy_in e5.1 e5.2, c _ (by omega), show 40 * r' + q = 40 * r' + j + (q - j) by omega, g2 _ (by omega)]
                      congr 1
                      omega
                    · rw [pk_cpy_out (by omega), c' q hq, g3 _ (by omega)]
                  · refine (hS r' hr').2.imp id (fun ⟨z2, p1, p2, p3⟩ => ⟨z2, p1, p2, fun q hq => ?_⟩)
                    rw [pu_2n e, p3 q hq, g3 _ (by omega)]
              · rw [e1, e2, Option.bind_some, if_neg n10, e3, e4, Option.bind_some, if_pos rfl, if_neg n10, if_pos rfl, show (2 : Int32) = nI 2 from rfl, pu_f (by decide) (by decide), pu_g (by decide)]
                exact ⟨_, _, _, _, _, _, rfl, rfl, hS⟩
            · rw [e1, e2, Option.bind_some, if_pos rfl, if_pos rfl, show (2 : Int32) = nI 2 from rfl, pu_f (by decide) (by decide), pu_g (by decide)]
              exact ⟨_, _, _, _, _, _, rfl, rfl, hS⟩
      · rw [if_neg h5, if_neg h5, show (5 : Int32) = nI 5 from rfl, pu_f (by decide) (by decide), pu_g (by decide)]
        exact ⟨_, _, _, _, _, _, rfl, rfl, hS⟩
    · rw [h3, h4, if_pos rfl, if_pos rfl]
      exact ⟨_, _, _, _, _, _, rfl, rfl, hS⟩
  · rw [h1, h2, if_pos rfl, if_pos rfl]
    exact ⟨_, _, _, _, _, _, rfl, rfl, hS⟩
end
