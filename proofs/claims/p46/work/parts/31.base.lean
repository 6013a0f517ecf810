/-! helpers: functions on a row of ints, laid as the law lays its row (printed for whole) -/
def M_X7_in (x0 : Int64) (x2 : Int64) (x4 : Int64) : Int32 :=
  if (lg_cmp x0 x2) < 0 then
  ((0 : Int32))
  else
  (if 0 < (lg_cmp x0 x4) then
  ((0 : Int32))
  else
  ((1 : Int32)))
def M_X7_finds (found : (Nat → Int32)) (latest : Int32) (x1 : Int32) : Option (Int32 × (Nat → Int32) × Int32) :=
  if inb x1 6 then
  some ((-3 : Int32), (upd found x1.toNatClampNeg ((found x1.toNatClampNeg) + (1 : Int32))), x1)
  else none
def M_X7_isRope (now : (Nat → Int32)) (x1 : Int32) : Int32 :=
  (M_X7_in x1.toInt64 (0 : Int64) (((now 0) - (1 : Int32)).toInt64))
def M_X7_holdsOf_85 (c : (Nat → Int32)) (x1 : Int32) : Option (Int32) :=
  if inb ((2 : Int32) + x1) 85 then
  if (c ((2 : Int32) + x1).toNatClampNeg) = (2 : Int32) then
  (if inb ((8 : Int32) + x1) 85 then
  some ((c ((8 : Int32) + x1).toNatClampNeg) - (1 : Int32))
  else none)
  else
  (if inb ((8 : Int32) + x1) 85 then
  some (c ((8 : Int32) + x1).toNatClampNeg)
  else none)
  else none
def M_X7_has (x0 : Int32) (x1 : Int32) : Int32 :=
  if ((x0 >>> (x1 &&& (31 : Int32))) &&& (1 : Int32)) = (1 : Int32) then
  ((1 : Int32))
  else
  ((0 : Int32))
def M_X7_passesAs_b11 (x0 : Int32) (x1 : Int32) (s0 : Int32) : Int32 :=
  if x0 = (1 : Int32) then
  ((0 : Int32))
  else
  (if x0 = (2 : Int32) then
  (x1)
  else
  (if x0 = (3 : Int32) then
  (s0)
  else
  (if x0 = (4 : Int32) then
  ((0 : Int32))
  else
  (if x0 = (5 : Int32) then
  ((s0 / (2 : Int32)))
  else
  ((x1 / (2 : Int32)))))))
def M_X7_passesAs (x0 : Int32) (x1 : Int32) : Int32 :=
  if x1 ≤ 0 then
  (M_X7_passesAs_b11 x0 x1 (0 : Int32))
  else
  (M_X7_passesAs_b11 x0 x1 (x1 - (1 : Int32)))
def M_X7_taut_85_b28 (c : (Nat → Int32)) (k4 : Int32 → Int32 → Option (Int32)) (x2 : Int32) (s0 : Int32) (s1 : Int32) : Option (Int32) :=
  k4 (s0 ||| s1) (x2 + (1 : Int32))
def M_X7_taut_85_b4 (c : (Nat → Int32)) : Nat → Int32 → Int32 → Option (Int32)
  | 0, _, _ => none
  | n + 1, x1, x2 =>
    if (c 0) ≤ x2 then
    (some (x1))
    else
    (if inb ((76 : Int32) + x2) 85 then
    if (c ((76 : Int32) + x2).toNatClampNeg) ≤ 0 then
    (M_X7_taut_85_b28 c (fun (x1' : Int32) (x2' : Int32) => M_X7_taut_85_b4 c n x1' x2') x2 x1 (0 : Int32))
    else
    (M_X7_taut_85_b28 c (fun (x1' : Int32) (x2' : Int32) => M_X7_taut_85_b4 c n x1' x2') x2 x1 ((1 : Int32) <<< (x2 &&& (31 : Int32))))
    else none)
def M_X7_taut_85 (c : (Nat → Int32)) : Option (Int32) :=
  M_X7_taut_85_b4 c x_fuel (0 : Int32) (0 : Int32)
def M_X7_bits_b4 : Nat → Int32 → Int32 → Option (Int32)
  | 0, _, _ => none
  | n + 1, x1, x2 =>
    if x2 ≤ 0 then
    (some (x1))
    else
    (M_X7_bits_b4 n (x1 + (x2 &&& (1 : Int32))) (x2 >>> ((1 : Int32) &&& (31 : Int32))))
def M_X7_bits (x0 : Int32) : Option (Int32) :=
  M_X7_bits_b4 x_fuel (0 : Int32) x0
def M_X7_isFast_85 (c : (Nat → Int32)) (x1 : Int32) : Int32 :=
  if (M_X7_has (c 82) x1) = 0 then
  (if (M_X7_has (c 83) x1) = 0 then
  ((1 : Int32))
  else
  ((0 : Int32)))
  else
  ((0 : Int32))
def M_X7_goHaul_hand_b172 (k39 : (Nat → Int32) → Int32 → Int32 → Int32 → Int32 → Option (Int32 × (Nat → Int32) × Int32)) (hand : (Nat → Int32)) (partedBy : Int32) (x5 : Int32) (x6 : Int32) (s0 : Int32) : Option (Int32 × (Nat → Int32) × Int32) :=
  k39 hand partedBy s0 x5 x6
def M_X7_goHaul_hand_b170 (k39 : (Nat → Int32) → Int32 → Int32 → Int32 → Int32 → Option (Int32 × (Nat → Int32) × Int32)) (hand : (Nat → Int32)) (partedBy : Int32) (x5 : Int32) (x6 : Int32) : Option (Int32 × (Nat → Int32) × Int32) :=
  M_X7_goHaul_hand_b172 k39 hand partedBy x5 x6 (-9 : Int32)
def M_X7_goHaul_hand_b121 (k39 : (Nat → Int32) → Int32 → Int32 → Int32 → Int32 → Option (Int32 × (Nat → Int32) × Int32)) (hand : (Nat → Int32)) (partedBy : Int32) (x4 : Int32) (x5 : Int32) (x6 : Int32) (x7 : Int32) : Option (Int32 × (Nat → Int32) × Int32) :=
  if inb ((2 : Int32) + x4) 85 then
  if x7 = (-9 : Int32) then
  (M_X7_goHaul_hand_b170 k39 hand partedBy (M_X7_passesAs (hand ((2 : Int32) + x4).toNatClampNeg) x5) x6)
  else
  (if (M_X7_passesAs (hand ((2 : Int32) + x4).toNatClampNeg) x5) ≤ 0 then
  (M_X7_goHaul_hand_b170 k39 hand partedBy (M_X7_passesAs (hand ((2 : Int32) + x4).toNatClampNeg) x5) x6)
  else
  (if (M_X7_isFast_85 hand x7) = 0 then
  (M_X7_goHaul_hand_b170 k39 hand partedBy (M_X7_passesAs (hand ((2 : Int32) + x4).toNatClampNeg) x5) x6)
  else
  (if (M_X7_has x6 x7) = 0 then
  (M_X7_goHaul_hand_b172 k39 hand partedBy (M_X7_passesAs (hand ((2 : Int32) + x4).toNatClampNeg) x5) x6 x7)
  else
  (M_X7_goHaul_hand_b170 k39 hand partedBy (M_X7_passesAs (hand ((2 : Int32) + x4).toNatClampNeg) x5) x6))))
  else none
def M_X7_goHaul_hand_b76 (k39 : (Nat → Int32) → Int32 → Int32 → Int32 → Int32 → Option (Int32 × (Nat → Int32) × Int32)) (hand : (Nat → Int32)) (partedBy : Int32) (x4 : Int32) (x5 : Int32) (x6 : Int32) (x7 : Int32) : Option (Int32 × (Nat → Int32) × Int32) :=
  if inb ((76 : Int32) + x4) 85 then
  (M_X7_holdsOf_85 hand x4).bind fun r5 =>
  if (hand ((76 : Int32) + x4).toNatClampNeg) ≤ r5 then
  (M_X7_goHaul_hand_b121 k39 hand partedBy x4 x5 x6 x7)
  else
  (M_X7_goHaul_hand_b121 k39 (upd (upd hand ((76 : Int32) + x4).toNatClampNeg (0 : Int32)) 83 (((upd hand ((76 : Int32) + x4).toNatClampNeg (0 : Int32)) 83) ||| ((1 : Int32) <<< (x4 &&& (31 : Int32))))) x4 x4 x5 x6 (-9 : Int32))
  else none
def M_X7_goHaul_hand_b39 : Nat → (Nat → Int32) → Int32 → Int32 → Int32 → Int32 → Option (Int32 × (Nat → Int32) × Int32)
  | 0, _, _, _, _, _ => none
  | n + 1, hand, partedBy, x4, x5, x6 =>
    if x4 = (-9 : Int32) then
    (some (x6, hand, partedBy))
    else
    (if inb ((76 : Int32) + x4) 85 then
    if inb ((14 : Int32) + x4) 85 then
    M_X7_goHaul_hand_b76 (fun (hand' : (Nat → Int32)) (partedBy' : Int32) (x4' : Int32) (x5' : Int32) (x6' : Int32) => M_X7_goHaul_hand_b39 n hand' partedBy' x4' x5' x6') (upd hand ((76 : Int32) + x4).toNatClampNeg ((hand ((76 : Int32) + x4).toNatClampNeg) + x5)) partedBy x4 x5 (x6 ||| ((1 : Int32) <<< (x4 &&& (31 : Int32)))) ((upd hand ((76 : Int32) + x4).toNatClampNeg ((hand ((76 : Int32) + x4).toNatClampNeg) + x5)) ((14 : Int32) + x4).toNatClampNeg)
    else none
    else none)
def M_X7_goHaul_hand_b27 (hand : (Nat → Int32)) (partedBy : Int32) (x4 : Int32) (s0 : Int32) (s1 : Int32) : Option (Int32 × (Nat → Int32) × Int32) :=
  M_X7_goHaul_hand_b39 x_fuel hand (-9 : Int32) x4 (s0 + s1) (0 : Int32)
def M_X7_goHaul_hand_b26 (hand : (Nat → Int32)) (partedBy : Int32) (x4 : Int32) (s0 : Int32) : Option (Int32 × (Nat → Int32) × Int32) :=
  M_X7_goHaul_hand_b27 hand partedBy x4 s0 (0 : Int32)
def M_X7_goHaul_hand (hand : (Nat → Int32)) (partedBy : Int32) (x2 : Int32) (x3 : Int32) : Option (Int32 × (Nat → Int32) × Int32) :=
  if (hand 84) = (1 : Int32) then
  (if inb ((2 : Int32) + x2) 85 then
  if (hand ((2 : Int32) + x2).toNatClampNeg) = (4 : Int32) then
  (M_X7_goHaul_hand_b26 hand partedBy x2 x3)
  else
  (M_X7_goHaul_hand_b27 hand partedBy x2 x3 (1 : Int32))
  else none)
  else
  (M_X7_goHaul_hand_b26 hand partedBy x2 x3)
def M_X7_isLawful_85_b18 (c : (Nat → Int32)) (x1 : Int32) (x2 : Int32) (x4 : Int32) : Option (Int32) :=
  if (x4 &&& (x2 ^^^ (-1 : Int32))) = 0 then
  (if inb ((31 : Int32) + x1) 85 then
  if ((c ((31 : Int32) + x1).toNatClampNeg) &&& x2) = 0 then
  (some (1 : Int32))
  else
  (some (0 : Int32))
  else none)
  else
  (some (0 : Int32))
def M_X7_isLawful_85 (c : (Nat → Int32)) (x1 : Int32) (x2 : Int32) : Option (Int32) :=
  if inb ((27 : Int32) + x1) 85 then
  M_X7_isLawful_85_b18 c x1 x2 ((c ((27 : Int32) + x1).toNatClampNeg) &&& (((1 : Int32) <<< ((c 0) &&& (31 : Int32))) - (1 : Int32)))
  else none
def M_X7_lawfulBy_85_b28 (c : (Nat → Int32)) (k4 : Int32 → Int32 → Int32 → Option (Int32)) (x1 : Int32) (x3 : Int32) (s0 : Int32) (s1 : Int32) : Option (Int32) :=
  k4 x1 (s0 ||| s1) (x3 + (1 : Int32))
def M_X7_lawfulBy_85_b4 (c : (Nat → Int32)) : Nat → Int32 → Int32 → Int32 → Option (Int32)
  | 0, _, _, _ => none
  | n + 1, x1, x2, x3 =>
    if (c 1) ≤ x3 then
    (some (x2))
    else
    ((M_X7_isLawful_85 c x3 x1).bind fun r2 =>
    if r2 = 0 then
    (M_X7_lawfulBy_85_b28 c (fun (x1' : Int32) (x2' : Int32) (x3' : Int32) => M_X7_lawfulBy_85_b4 c n x1' x2' x3') x1 x3 x2 (0 : Int32))
    else
    (M_X7_lawfulBy_85_b28 c (fun (x1' : Int32) (x2' : Int32) (x3' : Int32) => M_X7_lawfulBy_85_b4 c n x1' x2' x3') x1 x3 x2 ((1 : Int32) <<< (x3 &&& (31 : Int32)))))
def M_X7_lawfulBy_85 (c : (Nat → Int32)) (x1 : Int32) : Option (Int32) :=
  M_X7_lawfulBy_85_b4 c x_fuel x1 (0 : Int32) (0 : Int32)
/-! PURE PART: numbers, bits, loops -/
def bt (x : Int32) (i : Nat) : Bool := x.toBitVec.getLsbD i
theorem b_ext {x y : Int32} (h : ∀ i, i < 32 → bt x i = bt y i) : x = y := Int32.toBitVec_inj.mp (BitVec.eq_of_getLsbD_eq (fun i hi => h i hi))
theorem b_or (x y : Int32) (i : Nat) : bt (x ||| y) i = (bt x i || bt y i) := by unfold bt; rw [Int32.toBitVec_or, BitVec.getLsbD_or]
theorem b_and (x y : Int32) (i : Nat) : bt (x &&& y) i = (bt x i && bt y i) := by unfold bt; rw [Int32.toBitVec_and, BitVec.getLsbD_and]
theorem b_xor (x y : Int32) (i : Nat) : bt (x ^^^ y) i = (bt x i ^^ bt y i) := by unfold bt; rw [Int32.toBitVec_xor, BitVec.getLsbD_xor]
theorem b_m1 : ∀ i, i < 32 → bt (-1) i = true := by decide +kernel
theorem b_0 (i : Nat) : bt 0 i = false := BitVec.getLsbD_zero
theorem n10 : ¬ (1 : Int32) = 0 := by decide
theorem p00 : (0 : Int32) = 0 := rfl
theorem nx_and (a b : Nat) : nI a &&& nI b = nI (a &&& b) := by
  apply Int32.toBitVec_inj.1
  show BitVec.ofNat 32 a &&& BitVec.ofNat 32 b = BitVec.ofNat 32 (a &&& b)
  apply BitVec.eq_of_getLsbD_eq
  intro i hi
  simp [hi]
theorem nx_or (a b : Nat) : nI a ||| nI b = nI (a ||| b) := by
  apply Int32.toBitVec_inj.1
  show BitVec.ofNat 32 a ||| BitVec.ofNat 32 b = BitVec.ofNat 32 (a ||| b)
  apply BitVec.eq_of_getLsbD_eq
  intro i hi
  simp [hi]
theorem wb_tb (n : Nat) : (lN n).toBitVec = BitVec.ofNat 64 n := rfl
theorem wb_c : ∀ k, k < 64 → ((nI k).toInt64 &&& 63) = lN k := by decide +kernel
theorem wb_sm : ∀ k, k < 64 → (BitVec.ofNat 64 k).smod 64 = BitVec.ofNat 64 k := by decide +kernel
theorem pu_loop {σ : Type} (P : Nat → Nat → σ → Prop) (I : Nat → σ → Prop) (e : Nat)
    (hx : ∀ n s, I e s → P (n + 1) e s)
    (hs : ∀ n k s, k < e → I k s → (∀ s', I (k + 1) s' → P n (k + 1) s') → P (n + 1) k s) :
    ∀ (d n k : Nat) (s : σ), k + d = e → d < n → I k s → P n k s := by
  intro d
  induction d with
  | zero =>
    intro n k s h1 h2 h
    obtain ⟨n, rfl⟩ : ∃ m, n = m + 1 := ⟨n - 1, by omega⟩
    obtain rfl : k = e := by omega
    exact hx n s h
  | succ d ih =>
    intro n k s h1 h2 h
    obtain ⟨n, rfl⟩ : ∃ m, n = m + 1 := ⟨n - 1, by omega⟩
    exact hs n k s (by omega) h (fun s' h' => ih n (k + 1) s' (by omega) (by omega) h')
/-- a loop from 0 to e with the whole fuel -/
theorem pu_lp {σ : Type} (P : Nat → Nat → σ → Prop) (I : Nat → σ → Prop) (e : Nat) (he : e < 100000)
    (hx : ∀ n s, I e s → P (n + 1) e s)
    (hs : ∀ n k s, k < e → I k s → (∀ s', I (k + 1) s' → P n (k + 1) s') → P (n + 1) k s)
    (s : σ) (h : I 0 s) : P x_fuel 0 s := pu_loop P I e hx hs e x_fuel 0 s (by omega) (by unfold x_fuel; omega) h
theorem pu_us {f : Nat → Int32} {k : Nat} {x : Int32} : upd f k x k = x := if_pos rfl
theorem pu_un {f : Nat → Int32} {k j : Nat} {x : Int32} (h : j ≠ k) : upd f k x j = f j := if_neg h
theorem pu_2s {α : Type} {f : Nat → Nat → α} {k : Nat} {g : Nat → α} : upd2 f k g k = g := if_pos rfl
theorem pu_2n {α : Type} {f : Nat → Nat → α} {k j : Nat} {g : Nat → α} (h : j ≠ k) : upd2 f k g j = f j := if_neg h
theorem pu_22 {α : Type} {f : Nat → Nat → α} {k : Nat} {g g' : Nat → α} : upd2 (upd2 f k g) k g' = upd2 f k g' := by
  funext j
  by_cases h : j = k
  · subst h; rw [pu_2s, pu_2s]
  · rw [pu_2n h, pu_2n h, pu_2n h]
theorem pu_2f {α : Type} {f : Nat → Nat → α} {k : Nat} : upd2 f k (f k) = f := by
  funext j
  by_cases h : j = k
  · subst h; rw [pu_2s]
  · rw [pu_2n h]
theorem pu_inb {k N : Nat} (h : k < N) (hN : N < 2 ^ 31) : inb (nI k) N := nI_in h hN
theorem pu_ix {N : Nat} (x : Int32) (hN : N < 2 ^ 31) : (∃ k, k < N ∧ x = nI k) ∨ x < 0 ∨ nI N ≤ x := by
  rcases pk_ix x hN with h | h | h
  · exact .inr (.inl h)
  · exact .inr (.inr h)
  · exact .inl h
theorem pu_toL {a b : Int32} : a.toInt64 < b.toInt64 ↔ a < b := by
  rw [Int64.lt_iff_toInt_lt, Int32.lt_iff_toInt_lt, Int32.toInt_toInt64, Int32.toInt_toInt64]
theorem pu_in (x a b : Int32) : M_X7_in x.toInt64 a.toInt64 b.toInt64 = if x < a then 0 else if b < x then 0 else 1 := by
  unfold M_X7_in
  simp only [lg_cmp_lt, lg_cmp_gt, pu_toL]
theorem pu_in0 (x a b : Int32) : M_X7_in x.toInt64 a.toInt64 b.toInt64 = 0 ↔ (x < a ∨ b < x) := by
  rw [pu_in]
  by_cases h1 : x < a
  · simp [h1]
  · by_cases h2 : b < x
    · simp [h2]
    · rw [if_neg h1, if_neg h2]
      simp [h1, h2]
theorem pu_in1 (x a b : Int32) : M_X7_in x.toInt64 a.toInt64 b.toInt64 = if (x < a ∨ b < x) then 0 else 1 := by
  rw [pu_in]
  by_cases h1 : x < a
  · simp [h1]
  · by_cases h2 : b < x <;> simp [h1, h2]
theorem pu_lt_le {x : Int32} {k : Nat} (hk : k < 2 ^ 31) (h : nI (k + 1) ≤ x) (hk1 : k + 1 < 2 ^ 31) : nI k < x := by
  rw [Int32.le_iff_toInt_le, nI_toInt hk1] at h
  rw [Int32.lt_iff_toInt_lt, nI_toInt hk]
  omega
theorem pu_le {a b : Nat} (ha : a < 2 ^ 31) (hb : b < 2 ^ 31) (h : a ≤ b) : nI a ≤ nI b := (nI_leI ha hb).mpr h
theorem pu_nle {a b : Nat} (ha : a < 2 ^ 31) (hb : b < 2 ^ 31) (h : b < a) : ¬ nI a ≤ nI b := fun q => by have := (nI_leI ha hb).mp q; omega
theorem pu_lt {a b : Nat} (ha : a < 2 ^ 31) (hb : b < 2 ^ 31) (h : a < b) : nI a < nI b := (nI_ltI ha hb).mpr h
theorem pu_nlt {a b : Nat} (ha : a < 2 ^ 31) (hb : b < 2 ^ 31) (h : b ≤ a) : ¬ nI a < nI b := fun q => by have := (nI_ltI ha hb).mp q; omega
theorem pu_ne {a b : Nat} (ha : a < 2 ^ 31) (hb : b < 2 ^ 31) (h : a ≠ b) : ¬ nI a = nI b := fun q => h ((nI_eq ha hb).mp q)
theorem pu_nng (x : Int32) : x < 0 ∨ ∃ k, k < 2 ^ 31 ∧ x = nI k := by
  by_cases h : x < 0
  · exact .inl h
  · exact .inr (nI_of h)
theorem pu_nI9 {k : Nat} (hk : k < 2 ^ 31) : ¬ nI k = -9 := fun h => by
  have := congrArg Int32.toInt h
  rw [nI_toInt hk] at this
  have e : ((-9 : Int32)).toInt = -9 := by decide
  omega
theorem pu_nI1 {k : Nat} (hk : k < 2 ^ 31) : ¬ nI k = -1 := fun h => by
  have := congrArg Int32.toInt h
  rw [nI_toInt hk] at this
  have e : ((-1 : Int32)).toInt = -1 := by decide
  omega
theorem gN (N : Nat) {a : Nat} (h : a < N) (hN : N < 2 ^ 31 := by decide) : ¬ (OfNat.ofNat N : Int32) ≤ nI a := nI_ge h hN
theorem gL (N : Nat) {a : Nat} (h : N ≤ a) (ha : a < 2 ^ 31) : (OfNat.ofNat N : Int32) ≤ nI a := pu_le (a := N) (by omega) ha h
theorem tL (N : Nat) {a : Nat} (h : a < N) (hN : N < 2 ^ 31 := by decide) : nI a < (OfNat.ofNat N : Int32) := pu_lt (b := N) (by omega) hN h
theorem tN (N : Nat) {a : Nat} (h : N ≤ a) (ha : a < 2 ^ 31) : ¬ nI a < (OfNat.ofNat N : Int32) := pu_nlt (b := N) ha (by omega) h
theorem aL (N : Nat) {a : Nat} (h : a ≤ N) (hN : N < 2 ^ 31 := by decide) : nI a ≤ (OfNat.ofNat N : Int32) := pu_le (b := N) (by omega) hN h
theorem aN (N : Nat) {a : Nat} (h : N < a) (ha : a < 2 ^ 31) : ¬ nI a ≤ (OfNat.ofNat N : Int32) := pu_nle (b := N) ha (by omega) h
theorem rL (N : Nat) {a : Nat} (h : N < a) (ha : a < 2 ^ 31) : (OfNat.ofNat N : Int32) < nI a := pu_lt (a := N) (by omega) ha h
theorem rN (N : Nat) {a : Nat} (h : a ≤ N) (hN : N < 2 ^ 31 := by decide) : ¬ (OfNat.ofNat N : Int32) < nI a := pu_nlt (a := N) hN (by omega) h
theorem eN (N : Nat) {a : Nat} (h : a ≠ N) (ha : a < 2 ^ 31) (hN : N < 2 ^ 31 := by decide) : ¬ nI a = (OfNat.ofNat N : Int32) := pu_ne (b := N) ha hN h
theorem iO (b : Nat) {i : Nat} (h : b + i < 85) : inb ((OfNat.ofNat b : Int32) + nI i) 85 := by
  show inb (nI b + nI i) 85
  rw [nI_add]; exact pu_inb h (by omega)
theorem cO (b : Nat) {i : Nat} (h : b + i < 85) : ((OfNat.ofNat b : Int32) + nI i).toNatClampNeg = b + i := by
  show (nI b + nI i).toNatClampNeg = b + i
  rw [nI_add]; exact nI_clamp (by omega)
/-! findings -/
theorem pu_f {lf : Int32} {fc : Nat → Int32} {k : Nat} (h : 1 ≤ k) (h5 : k ≤ 5) : M_X6_found lf fc (nI k) = some (-3, nI k, upd fc k (fc k + 1)) := by
  unfold M_X6_found
  rw [if_neg (tN 1 h (by omega)), if_neg (rN 5 h5), if_pos (pu_inb (by omega) (by omega)), nI_clamp (by omega)]
theorem pu_g {la : Int32} {fc : Nat → Int32} {k : Nat} (h5 : k ≤ 5) : M_X7_finds fc la (nI k) = some (-3, upd fc k (fc k + 1), nI k) := by
  unfold M_X7_finds
  rw [if_pos (pu_inb (by omega) (by omega)), nI_clamp (by omega)]
