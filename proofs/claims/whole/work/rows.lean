section
/-! rows pasted from kit/rows (PURE-ROWS, BITS) -/
theorem pk_us {f : Nat → Int32} {k : Nat} {x : Int32} : upd f k x k = x := if_pos rfl
theorem pk_un {f : Nat → Int32} {k j : Nat} {x : Int32} (h : j ≠ k) : upd f k x j = f j := if_neg h
theorem pk_sub {a b : Nat} (h : b ≤ a) : nI a - nI b = nI (a - b) := by
  obtain ⟨c, rfl⟩ : ∃ c, a = c + b := ⟨a - b, by omega⟩
  rw [← nI_add, Int32.add_sub_cancel, Nat.add_sub_cancel]
theorem pk_m1 (n : Nat) : nI (n + 1) + (-1) = nI n := by
  rw [← nI_1, Int32.add_assoc, show (1 : Int32) + (-1) = 0 from rfl, Int32.add_zero]
theorem pk_mul (a b : Nat) : nI a * nI b = nI (a * b) := (Int32.ofNat_mul a b).symm
theorem pk_div {a d : Nat} (ha : a < 2 ^ 31) (h0 : 0 < d) (hd : d < 2 ^ 31) : nI a / nI d = nI (a / d) := by
  apply Int32.toInt_inj.mp
  rw [lg_idiv_nonneg (by rw [nI_toInt ha]; omega) (by rw [nI_toInt hd]; omega), nI_toInt ha, nI_toInt hd, nI_toInt (Nat.lt_of_le_of_lt (Nat.div_le_self a d) ha)]
  first | rfl | exact (Int.natCast_ediv _ _).symm
theorem pk_rem {a d : Nat} (ha : a < 2 ^ 31) (h0 : 0 < d) (hd : d < 2 ^ 31) : nI a - nI a / nI d * nI d = nI (a % d) := by
  rw [pk_div ha h0 hd, pk_mul, pk_sub (Nat.div_mul_le_self a d)]
  exact congrArg nI (by have := Nat.div_add_mod' a d; omega)
theorem pk_sub_toInt {a b : Nat} (ha : a < 2 ^ 30) (hb : b < 2 ^ 30) : (nI a - nI b).toInt = (a : Int) - b := by
  rw [Int32.toInt_sub, nI_toInt (by omega), nI_toInt (by omega)]
  exact Int.bmod_eq_of_le (by omega) (by omega)
theorem pk_sneg {a b : Nat} (hb : b < 2 ^ 30) (h : a < b) : nI a - nI b < 0 := by
  rw [Int32.lt_iff_toInt_lt, pk_sub_toInt (by omega) hb, show (0 : Int32).toInt = 0 from by decide]
  omega
theorem pk_ix (x : Int32) {n : Nat} (hn : n < 2 ^ 31) : x < 0 ∨ nI n ≤ x ∨ ∃ j : Nat, j < n ∧ x = nI j := by
  by_cases h : x < 0
  · exact Or.inl h
  · obtain ⟨j, hj, rfl⟩ := nI_of h
    by_cases h2 : j < n
    · exact Or.inr (Or.inr ⟨j, h2, rfl⟩)
    · exact Or.inr (Or.inl (nI_le (by omega) hj))
theorem pk_le {x y : Int32} {A B : Prop} (a b : Nat) (f : a ≤ b → A) (g : b < a → B) (hx : x = nI a := by rfl) (hy : y = nI b := by rfl) (ha : a < 2 ^ 31 := by omega) (hb : b < 2 ^ 31 := by omega) : (x ≤ y → A) ∧ (¬ x ≤ y → B) := by
  subst hx hy
  rw [nI_leI ha hb]
  exact ⟨f, fun z => g (by omega)⟩
theorem pk_lt {x y : Int32} {A B : Prop} (a b : Nat) (f : a < b → A) (g : b ≤ a → B) (hx : x = nI a := by rfl) (hy : y = nI b := by rfl) (ha : a < 2 ^ 31 := by omega) (hb : b < 2 ^ 31 := by omega) : (x < y → A) ∧ (¬ x < y → B) := by
  subst hx hy
  rw [nI_ltI ha hb]
  exact ⟨f, fun z => g (by omega)⟩
theorem pk_eq {x y : Int32} {A B : Prop} (a b : Nat) (f : a = b → A) (g : a ≠ b → B) (hx : x = nI a := by rfl) (hy : y = nI b := by rfl) (ha : a < 2 ^ 31 := by omega) (hb : b < 2 ^ 31 := by omega) : (x = y → A) ∧ (¬ x = y → B) := by
  subst hx hy
  rw [nI_eq ha hb]
  exact ⟨f, g⟩
theorem pk_in {x : Int32} (n N : Nat) (h : n < N) (hx : x = nI n := by rfl) (hN : N < 2 ^ 31 := by omega) : vp_in x N := by
  subst hx
  exact vp_in_nI h hN
theorem pk_cl {x : Int32} (n : Nat) (hx : x = nI n := by rfl) (h : n < 2 ^ 31 := by omega) : x.toNatClampNeg = n := by
  subst hx
  exact nI_clamp h
theorem pk_tn {n : Nat} (h : n < 2 ^ 32) : (nI n).toBitVec.toNat = n := Nat.mod_eq_of_lt h
theorem pk_and (x : Int32) {m : Int32} (k : Nat) (hm : m.toBitVec.toNat = 2 ^ k - 1) : x &&& m = nI (x.toBitVec.toNat % 2 ^ k) := by
  apply Int32.toBitVec_inj.mp
  apply BitVec.eq_of_toNat_eq
  rw [Int32.toBitVec_and, BitVec.toNat_and, hm, Nat.and_two_pow_sub_one_eq_mod]
  show _ = (BitVec.ofNat 32 _).toNat
  rw [BitVec.toNat_ofNat]
  exact (Nat.mod_eq_of_lt (Nat.lt_of_le_of_lt (Nat.mod_le _ _) x.toBitVec.isLt)).symm
theorem pk_andN {n : Nat} (h : n < 2 ^ 32) {m : Int32} (k : Nat) (hm : m.toBitVec.toNat = 2 ^ k - 1) : nI n &&& m = nI (n % 2 ^ k) := by
  rw [pk_and _ k hm, pk_tn h]
theorem pk_andE (x : Int32) {m : Int32} (k : Nat) (hm : m.toBitVec.toNat = 2 ^ k - 1) : ∃ j : Nat, j < 2 ^ k ∧ x &&& m = nI j := ⟨_, Nat.mod_lt _ (Nat.two_pow_pos k), pk_and x k hm⟩
theorem pk_andIn (x : Int32) {m : Int32} (k : Nat) (hm : m.toBitVec.toNat = 2 ^ k - 1) (hk : k ≤ 30) : vp_in (x &&& m) (2 ^ k) := by
  obtain ⟨j, hj, e⟩ := pk_andE x k hm
  rw [e]
  exact vp_in_nI hj (Nat.lt_of_le_of_lt (Nat.pow_le_pow_right (by decide) hk) (by decide))
theorem pk_shl (a s : Int32) (k : Nat) (hs : (s.toBitVec.smod 32).toNat = k) : (a <<< s).toBitVec.toNat = a.toBitVec.toNat * 2 ^ k % 2 ^ 32 := by
  show (a.toBitVec <<< (s.toBitVec.smod 32).toNat).toNat = _
  rw [hs, BitVec.toNat_shiftLeft, Nat.shiftLeft_eq]
theorem pk_shlN {n : Nat} (s : Int32) (k : Nat) (hs : (s.toBitVec.smod 32).toNat = k) (h : n * 2 ^ k < 2 ^ 32) : nI n <<< s = nI (n * 2 ^ k) := by
  apply Int32.toBitVec_inj.mp
  apply BitVec.eq_of_toNat_eq
  have hn : n < 2 ^ 32 := Nat.lt_of_le_of_lt (Nat.le_mul_of_pos_right n (Nat.two_pow_pos k)) h
  rw [pk_shl _ _ k hs, pk_tn hn, pk_tn h, Nat.mod_eq_of_lt h]
theorem pk_shr (a s : Int32) (k : Nat) (hs : (s.toBitVec.smod 32).toNat = k) : (a >>> s).toInt = a.toInt >>> k := by
  show (a.toBitVec.sshiftRight (s.toBitVec.smod 32).toNat).toInt = _
  rw [hs, BitVec.toInt_sshiftRight]
  rfl
theorem pk_shrN {n : Nat} (h : n < 2 ^ 31) (s : Int32) (k : Nat) (hs : (s.toBitVec.smod 32).toNat = k) : nI n >>> s = nI (n / 2 ^ k) := by
  apply Int32.toInt_inj.mp
  have h2 : n / 2 ^ k ≤ n := Nat.div_le_self _ _
  rw [pk_shr _ _ k hs, nI_toInt h, nI_toInt (by omega), Int.shiftRight_eq_div_pow]
  rfl
/-! ===== Int32 by its bits: bt x i ===== -/
def bt (x : Int32) (i : Nat) : Bool := x.toBitVec.getLsbD i
theorem b_ext {x y : Int32} (h : ∀ i, i < 32 → bt x i = bt y i) : x = y := Int32.toBitVec_inj.mp (BitVec.eq_of_getLsbD_eq (fun i hi => h i hi))
theorem b_or (x y : Int32) (i : Nat) : bt (x ||| y) i = (bt x i || bt y i) := by unfold bt; rw [Int32.toBitVec_or, BitVec.getLsbD_or]
theorem b_and (x y : Int32) (i : Nat) : bt (x &&& y) i = (bt x i && bt y i) := by unfold bt; rw [Int32.toBitVec_and, BitVec.getLsbD_and]
theorem b_xor (x y : Int32) (i : Nat) : bt (x ^^^ y) i = (bt x i ^^ bt y i) := by unfold bt; rw [Int32.toBitVec_xor, BitVec.getLsbD_xor]
theorem b_big {x : Int32} {i : Nat} (h : 32 ≤ i) : bt x i = false := BitVec.getLsbD_of_ge _ _ h
theorem b_255 (i : Nat) : bt 255 i = decide (i < 8) := by
  rcases Nat.lt_or_ge i 32 with h | h
  · exact (by decide +kernel : ∀ i, i < 32 → bt 255 i = decide (i < 8)) i h
  · rw [b_big h, decide_eq_false (by omega)]
theorem b_65535 (i : Nat) : bt 65535 i = decide (i < 16) := by
  rcases Nat.lt_or_ge i 32 with h | h
  · exact (by decide +kernel : ∀ i, i < 32 → bt 65535 i = decide (i < 16)) i h
  · rw [b_big h, decide_eq_false (by omega)]
theorem b_m1 : ∀ i, i < 32 → bt (-1) i = true := by decide +kernel
theorem b_0 (i : Nat) : bt 0 i = false := BitVec.getLsbD_zero
theorem s_l : ∀ n, n < 32 → ((nI n &&& 31).toBitVec.smod 32).toNat = n := by decide +kernel
theorem s_u : ∀ n, n < 32 → (((nI n).toUInt32 &&& Int32.toUInt32 31).toBitVec % 32).toNat = n := by decide +kernel
theorem b_shl (n : Nat) (hn : n < 32) (x : Int32) {i : Nat} (hi : i < 32) : bt (x <<< (nI n &&& 31)) i = (decide (n ≤ i) && bt x (i - n)) := by
  unfold bt
  rw [Int32.toBitVec_shiftLeft]
  show (x.toBitVec <<< ((nI n &&& 31).toBitVec.smod 32).toNat).getLsbD i = _
  rw [s_l n hn, BitVec.getLsbD_shiftLeft]
  rcases Nat.lt_or_ge i n with h | h
  · simp [h, Nat.not_le.mpr h]
  · simp [hi, h, Nat.not_lt.mpr h]
theorem b_ushr (n : Nat) (hn : n < 32) (x : Int32) (i : Nat) : bt ((x.toUInt32 >>> ((nI n).toUInt32 &&& Int32.toUInt32 31)).toInt32) i = bt x (n + i) := by
  show (x.toUInt32 >>> ((nI n).toUInt32 &&& Int32.toUInt32 31)).toBitVec.getLsbD i = x.toUInt32.toBitVec.getLsbD (n + i)
  rw [UInt32.toBitVec_shiftRight]
  show (x.toUInt32.toBitVec >>> (((nI n).toUInt32 &&& Int32.toUInt32 31).toBitVec % 32).toNat).getLsbD i = _
  rw [s_u n hn, BitVec.getLsbD_ushiftRight]
theorem b_sshr (n : Nat) (hn : n < 32) (x : Int32) {i : Nat} (hi : i < 32) : bt (x >>> (nI n &&& 31)) i = if n + i < 32 then bt x (n + i) else bt x 31 := by
  unfold bt
  rw [Int32.toBitVec_shiftRight]
  show (x.toBitVec.sshiftRight ((nI n &&& 31).toBitVec.smod 32).toNat).getLsbD i = _
  rw [s_l n hn, BitVec.getLsbD_sshiftRight, BitVec.msb_eq_getLsbD_last]
  simp [hi]
theorem b_shl8 (x : Int32) {i : Nat} (hi : i < 32) : bt (x <<< ((8 : Int32) &&& 31)) i = (decide (8 ≤ i) && bt x (i - 8)) := b_shl 8 (by omega) x hi
theorem b_shl16 (x : Int32) {i : Nat} (hi : i < 32) : bt (x <<< ((16 : Int32) &&& 31)) i = (decide (16 ≤ i) && bt x (i - 16)) := b_shl 16 (by omega) x hi
theorem b_shl24 (x : Int32) {i : Nat} (hi : i < 32) : bt (x <<< ((24 : Int32) &&& 31)) i = (decide (24 ≤ i) && bt x (i - 24)) := b_shl 24 (by omega) x hi
theorem b_sshr8 (x : Int32) {i : Nat} (hi : i < 32) : bt (x >>> ((8 : Int32) &&& 31)) i = if 8 + i < 32 then bt x (8 + i) else bt x 31 := b_sshr 8 (by omega) x hi
/-! the arrays by naturals; a truth as a number; bits; sums -/
def ag_f (g : Nat → Nat) : Nat → Int32 := fun j => nI (g j)
def ag_u (g : Nat → Nat) (i x : Nat) : Nat → Nat := fun j => if j = i then x else g j
def ag_kc (kd : Nat → Nat) : Nat → Nat := fun j => kd j % 8
def ag_kn (kd : Nat → Nat) : Nat → Nat := fun j => kd j / 8 % 4
def ag_ko (kd : Nat → Nat) : Nat → Nat := fun j => kd j / 32
theorem ag_us {g : Nat → Nat} {i x : Nat} : ag_u g i x i = x := if_pos rfl
theorem ag_un {g : Nat → Nat} {i x j : Nat} (h : j ≠ i) : ag_u g i x j = g j := if_neg h
theorem ag_fu (g : Nat → Nat) (i x : Nat) : upd (ag_f g) i (nI x) = ag_f (ag_u g i x) := by
  funext j
  unfold upd ag_f ag_u
  by_cases h : j = i
  · rw [if_pos h, if_pos h]
  · rw [if_neg h, if_neg h]
theorem ag_f0 : ag_f (fun _ => 0) = fun _ => 0 := funext fun _ => nI_0
theorem ag_at (g : Nat → Nat) {j : Nat} (h : j < 2 ^ 31) : ag_f g (nI j).toNatClampNeg = nI (g j) := by
  rw [nI_clamp h]
  rfl
theorem ag_kcu (kd : Nat → Nat) (i x : Nat) : ag_u (ag_kc kd) i (x % 8) = ag_kc (ag_u kd i x) := by
  funext j
  unfold ag_kc ag_u
  by_cases h : j = i
  · rw [if_pos h, if_pos h]
  · rw [if_neg h, if_neg h]
theorem ag_knu (kd : Nat → Nat) (i x : Nat) : ag_u (ag_kn kd) i (x / 8 % 4) = ag_kn (ag_u kd i x) := by
  funext j
  unfold ag_kn ag_u
  by_cases h : j = i
  · rw [if_pos h, if_pos h]
  · rw [if_neg h, if_neg h]
theorem ag_kou (kd : Nat → Nat) (i x : Nat) : ag_u (ag_ko kd) i (x / 32) = ag_ko (ag_u kd i x) := by
  funext j
  unfold ag_ko ag_u
  by_cases h : j = i
  · rw [if_pos h, if_pos h]
  · rw [if_neg h, if_neg h]
noncomputable def ag_v (p : Prop) : Int32 := @ite Int32 p (Classical.propDecidable p) 1 0
theorem ag_vt {p : Prop} (h : p) : ag_v p = 1 := by unfold ag_v; exact if_pos h
theorem ag_vf {p : Prop} (h : ¬ p) : ag_v p = 0 := by unfold ag_v; exact if_neg h
theorem ag_v0 {p : Prop} : ag_v p = 0 ↔ ¬ p := by
  by_cases h : p
  · rw [ag_vt h]
    exact ⟨fun z => absurd z (by decide), fun z => absurd h z⟩
  · exact ⟨fun _ => h, fun _ => ag_vf h⟩
theorem ag_pt (post : Int32 → Prop) {p : Prop} (h : post (ag_v p)) (hp : p) : post 1 := by
  rw [ag_vt hp] at h
  exact h
theorem ag_pf (post : Int32 → Prop) {p : Prop} (h : post (ag_v p)) (hp : ¬ p) : post 0 := by
  rw [ag_vf hp] at h
  exact h
theorem ag_vi {p q : Prop} (h : p ↔ q) : ag_v p = ag_v q := by rw [propext h]
theorem ag_br {p A B : Prop} (a : p → B) (b : ¬ p → A) : (ag_v p = 0 → A) ∧ (¬ ag_v p = 0 → B) :=
  ⟨fun z => b (ag_v0.mp z), fun z => Classical.byContradiction fun nb => z (ag_v0.mpr fun hp => nb (a hp))⟩
theorem ag_bit (x : Int32) {u : Nat} (hu : u < 31) : (x >>> (nI u &&& 31)) &&& 1 = ag_v (bt x u = true) := by
  have h1 : ∀ i, i < 32 → bt 1 i = decide (i = 0) := by decide +kernel
  apply b_ext
  intro i hi
  rw [b_and, b_sshr u (by omega) x hi, h1 i hi]
  by_cases h0 : i = 0
  · subst h0
    rw [if_pos (by omega), Nat.add_zero]
    cases hb : bt x u with
    | true => rw [ag_vt rfl, h1 0 hi]; rfl
    | false => rw [ag_vf (by decide), b_0]; rfl
  · rw [decide_eq_false h0, Bool.and_false]
    cases hb : bt x u with
    | true => rw [ag_vt rfl, h1 i hi, decide_eq_false h0]
    | false => rw [ag_vf (by decide), b_0]
theorem ag_hold (x : Int32) {u : Nat} (hu : u < 31) : (x >>> (nI u &&& 31)) &&& 1 = 1 ↔ bt x u = true := by
  rw [ag_bit x hu]
  by_cases h : bt x u = true
  · rw [ag_vt h]
    exact ⟨fun _ => h, fun _ => rfl⟩
  · rw [ag_vf h]
    exact ⟨fun z => absurd z (by decide), fun z => absurd z h⟩
theorem ag_btN (s : Nat) {u : Nat} (hu : u < 32) : bt (nI s) u = s.testBit u := by
  show (BitVec.ofNat 32 s).getLsbD u = _
  rw [BitVec.getLsbD_ofNat, decide_eq_true hu, Bool.true_and]
theorem ag_btF {s N u : Nat} (hs : s < 2 ^ N) (hu : N ≤ u) (h : u < 32) : bt (nI s) u = false := by
  rw [ag_btN s h]
  exact Nat.testBit_lt_two_pow (Nat.lt_of_lt_of_le hs (Nat.pow_le_pow_right (by decide) hu))
theorem ag_shl {N : Nat} (h : N ≤ 10) : (1 : Int32) <<< (nI N &&& 31) = nI (2 ^ N) := (by decide +kernel : ∀ N, N < 11 → (1 : Int32) <<< (nI N &&& 31) = nI (2 ^ N)) N (by omega)
theorem ag_pw {N : Nat} (h : N ≤ 10) : 2 ^ N ≤ 1024 := Nat.pow_le_pow_right (n := 2) (by decide) h
theorem ag_one {b i : Nat} (hb : b < 10) (hi : i < 32) : bt ((1 : Int32) <<< (nI b &&& 31)) i = decide (b = i) := (by decide +kernel : ∀ b, b < 10 → ∀ i, i < 32 → bt ((1 : Int32) <<< (nI b &&& 31)) i = decide (b = i)) b hb i hi
theorem ag_z (x : Int32) : x = 0 ↔ ∀ i, i < 32 → bt x i = false :=
  ⟨fun h i _ => by rw [h, b_0], fun h => b_ext fun i hi => by rw [h i hi, b_0]⟩
theorem ag_andz (x y : Int32) : x &&& y = 0 ↔ ∀ i, i < 32 → ¬ (bt x i = true ∧ bt y i = true) := by
  rw [ag_z]
  constructor
  · intro h i hi hh
    have := h i hi
    rw [b_and, hh.1, hh.2] at this
    exact absurd this (by decide)
  · intro h i hi
    rw [b_and]
    have := h i hi
    cases hx : bt x i <;> cases hy : bt y i
    · rfl
    · rfl
    · rfl
    · exact absurd ⟨hx, hy⟩ this
theorem ag_diff (x y : Int32) {i : Nat} (hi : i < 32) : bt (x &&& (y ^^^ (-1))) i = true ↔ (bt x i = true ∧ ¬ bt y i = true) := by
  rw [b_and, b_xor, b_m1 i hi]
  cases bt x i <;> cases bt y i <;> decide
def ag_S (f : Nat → Int32) : Nat → Int32
  | 0 => 0
  | n + 1 => ag_S f n + f n
theorem ag_Sc {f g : Nat → Int32} : ∀ n, (∀ i, i < n → f i = g i) → ag_S f n = ag_S g n := by
  intro n
  induction n with
  | zero => intro _; rfl
  | succ n ih =>
    intro h
    show ag_S f n + f n = ag_S g n + g n
    rw [ih (fun i hi => h i (by omega)), h n (by omega)]
theorem ag_Sadd (f g : Nat → Int32) : ∀ n, ag_S (fun i => f i + g i) n = ag_S f n + ag_S g n := by
  intro n
  induction n with
  | zero => rfl
  | succ n ih =>
    show ag_S (fun i => f i + g i) n + (f n + g n) = (ag_S f n + f n) + (ag_S g n + g n)
    rw [ih]
    grind
theorem ag_Smul (c : Int32) (f : Nat → Int32) : ∀ n, ag_S (fun i => c * f i) n = c * ag_S f n := by
  intro n
  induction n with
  | zero => show (0 : Int32) = c * 0; rw [Int32.mul_zero]
  | succ n ih =>
    show ag_S (fun i => c * f i) n + c * f n = c * (ag_S f n + f n)
    rw [ih]
    grind
theorem ag_Scut {f : Nat → Int32} {m : Nat} : ∀ n, m ≤ n → (∀ i, m ≤ i → i < n → f i = 0) → ag_S f n = ag_S f m := by
  intro n
  induction n with
  | zero => intro h _; rw [Nat.le_zero.mp h]
  | succ n ih =>
    intro h hz
    by_cases e : m = n + 1
    · rw [e]
    · show ag_S f n + f n = _
      rw [ih (by omega) (fun i h1 h2 => hz i h1 (by omega)), hz n (by omega) (by omega), Int32.add_zero]
theorem ag_S3 (g : Nat → Int32) : ∀ n, ag_S g (3 * n) = ag_S (fun u => g (3 * u) + g (3 * u + 1) + g (3 * u + 2)) n := by
  intro n
  induction n with
  | zero => rfl
  | succ n ih =>
    show ag_S g (3 * n) + g (3 * n) + g (3 * n + 1) + g (3 * n + 2) = ag_S (fun u => g (3 * u) + g (3 * u + 1) + g (3 * u + 2)) n + (g (3 * n) + g (3 * n + 1) + g (3 * n + 2))
    rw [ih]
    grind
end
section
/-! truth values counted; the component's small methods and inner loops -/
noncomputable def ag_n (p : Prop) : Nat := @ite Nat p (Classical.propDecidable p) 1 0
theorem ag_nt {p : Prop} (h : p) : ag_n p = 1 := by unfold ag_n; exact if_pos h
theorem ag_nf {p : Prop} (h : ¬ p) : ag_n p = 0 := by unfold ag_n; exact if_neg h
theorem ag_ni {p q : Prop} (h : p ↔ q) : ag_n p = ag_n q := by rw [propext h]
theorem ag_n1 (p : Prop) : ag_n p ≤ 1 := by
  by_cases h : p
  · rw [ag_nt h]; omega
  · rw [ag_nf h]; omega
theorem ag_vn (p : Prop) : ag_v p = nI (ag_n p) := by
  by_cases h : p
  · rw [ag_vt h, ag_nt h]; rfl
  · rw [ag_vf h, ag_nf h]; rfl
noncomputable def ag_C (q : Nat → Prop) : Nat → Nat
  | 0 => 0
  | n + 1 => ag_C q n + ag_n (q n)
theorem ag_Cle (q : Nat → Prop) : ∀ n, ag_C q n ≤ n := by
  intro n
  induction n with
  | zero => exact Nat.le_refl 0
  | succ n ih =>
    have := ag_n1 (q n)
    show ag_C q n + ag_n (q n) ≤ n + 1
    omega
theorem ag_C0 (q : Nat → Prop) : ∀ n, ag_C q n = 0 ↔ ∀ k, k < n → ¬ q k := by
  intro n
  induction n with
  | zero => exact ⟨fun _ k hk => absurd hk (by omega), fun _ => rfl⟩
  | succ n ih =>
    show ag_C q n + ag_n (q n) = 0 ↔ _
    constructor
    · intro h k hk hq
      by_cases e : k = n
      · rw [e] at hq
        rw [ag_nt hq] at h
        omega
      · exact ih.mp (by omega) k (by omega) hq
    · intro h
      rw [ih.mpr (fun k hk => h k (by omega)), ag_nf (h n (by omega))]
theorem ag_SC (q : Nat → Prop) : ∀ n, ag_S (fun u => ag_v (q u)) n = nI (ag_C q n) := by
  intro n
  induction n with
  | zero => rfl
  | succ n ih =>
    show ag_S (fun u => ag_v (q u)) n + ag_v (q n) = nI (ag_C q n + ag_n (q n))
    rw [ih, ag_vn, nI_add]
section
variable {N P K : Nat} {eb : Int32} {nm vr nv oc nc kd lo ah nt fd fv hs : Nat → Nat} {sg tc og ae : Nat → Int32}
theorem ag_Xholds {post : Int32 → Prop} (x : Int32) {u : Nat} (hu : u < 31) (h : post (ag_v (bt x u = true))) : wpX_holds post x (nI u) := by
  by_cases hb : bt x u = true
  · rw [ag_vt hb] at h
    exact br_t ((ag_hold x hu).mpr hb) h
  · rw [ag_vf hb] at h
    exact br_f (fun z => hb ((ag_hold x hu).mp z)) h
theorem ag_Yin {post : Int32 → Prop} (v : SY) (x : Int32) {u : Nat} (hu : u < 31) (h : post (ag_v (bt x u = true))) : wpY_in post v x (nI u) := by
  obtain ⟨a1, a2, a3, a4, a5, a6, a7, a8, a9, a10, a11, a12, a13, a14, a15, a16, a17⟩ := v
  by_cases hb : bt x u = true
  · rw [ag_vt hb] at h
    exact br_t ((ag_hold x hu).mpr hb) h
  · rw [ag_vf hb] at h
    exact br_f (fun z => hb ((ag_hold x hu).mp z)) h
noncomputable def ag_sz (x : Int32) : Nat := ag_C (fun u => bt x u = true) 10
theorem ag_Xsize_go {post : Int32 → Prop} (x : Int32) (h : post (nI (ag_sz x))) : ∀ d i : Nat, i + d = 10 → wX_sizeOf_4 post x (d + 1) (nI (ag_C (fun u => bt x u = true) i)) (nI i) := by
  intro d
  induction d with
  | zero =>
    intro i hi
    obtain rfl : i = 10 := by omega
    exact br_t (nI_le (a := 10) (b := 10) (by omega) (by omega)) h
  | succ d ih =>
    intro i hi
    exact br_f (nI_ge (b := 10) (by omega) (by decide)) (nm_r (by rw [ag_bit x (by omega), ag_vn, nI_add]; rfl) (nm_r (nI_1 i) (ih (i + 1) (by omega))))
theorem ag_Xsize {post : Int32 → Prop} (x : Int32) (h : post (nI (ag_sz x))) : wpX_sizeOf post x := ⟨11, ag_Xsize_go x h 10 0 rfl⟩
theorem ag_Ysize_go {post : Int32 → Prop} (x : Int32) (h : post (nI (ag_sz x))) : ∀ d i : Nat, i + d = 10 → wY_size_4 post x (nI N) eb (nI P) (nI K) (ag_f nm) (ag_f vr) sg (ag_f oc) (ag_f fd) (ag_f fv) (ag_f nc) (ag_f kd) (ag_f lo) (ag_f ah) ae (ag_f hs) tc (d + 1) (nI (ag_C (fun u => bt x u = true) i)) (nI i) := by
  intro d
  induction d with
  | zero =>
    intro i hi
    obtain rfl : i = 10 := by omega
    exact br_t (nI_le (a := 10) (b := 10) (by omega) (by omega)) h
  | succ d ih =>
    intro i hi
    exact br_f (nI_ge (b := 10) (by omega) (by decide)) (nm_r (by rw [ag_bit x (by omega), ag_vn, nI_add]; rfl) (nm_r (nI_1 i) (ih (i + 1) (by omega))))
theorem ag_Ysize {post : Int32 → Prop} (x : Int32) (h : post (nI (ag_sz x))) : wpY_size post ((nI N), eb, (nI P), (nI K), (ag_f nm), (ag_f vr), sg, (ag_f oc), (ag_f fd), (ag_f fv), (ag_f nc), (ag_f kd), (ag_f lo), (ag_f ah), ae, (ag_f hs), tc) x := ⟨11, ag_Ysize_go x h 10 0 rfl⟩
def ag_RV (N : Nat) (nm : Nat → Nat) (sg : Nat → Int32) (s : Int32) (u : Nat) : Prop := ∃ w, u < w ∧ w < N ∧ bt s w = true ∧ nm w = nm u ∧ ¬ (sg w = 0 ∧ sg u = 0)
theorem ag_Xrival_go {post : Int32 → Prop} (s : Int32) {u : Nat} (hu : u < N) (hN : N ≤ 10) (hnm : ∀ j, nm j < 5) (h : post (ag_v (ag_RV N nm sg s u))) : ∀ d i : Nat, i + d = N → u < i → (∀ w, u < w → w < i → ¬ (bt s w = true ∧ nm w = nm u ∧ ¬ (sg w = 0 ∧ sg u = 0))) → wX_hasRival_4 post s (nI u) (nI N) eb (nI P) (nI K) (ag_f nm) (ag_f vr) sg tc (ag_f nv) (ag_f oc) og (ag_f nc) (ag_f (ag_kc kd)) (ag_f lo) (ag_f ah) (ag_f (ag_kn kd)) (ag_f (ag_ko kd)) (ag_f nt) (d + 1) (nI i) := by
  intro d
  induction d with
  | zero =>
    intro i hi hui hl
    refine br_t (nI_le (by omega) (by omega)) ?_
    exact ag_pf post h (fun ⟨w, h1, h2, h3, h4, h5⟩ => hl w h1 (by omega) ⟨h3, h4, h5⟩)
  | succ d ih =>
    intro i hi hui hl
    have n1 := hnm i
    have n2 := hnm u
    have step : ¬ (bt s i = true ∧ nm i = nm u ∧ ¬ (sg i = 0 ∧ sg u = 0)) → wX_hasRival_4 post s (nI u) (nI N) eb (nI P) (nI K) (ag_f nm) (ag_f vr) sg tc (ag_f nv) (ag_f oc) og (ag_f nc) (ag_f (ag_kc kd)) (ag_f lo) (ag_f ah) (ag_f (ag_kn kd)) (ag_f (ag_ko kd)) (ag_f nt) (d + 1) (nI (i + 1)) := fun hn => ih (i + 1) (by omega) (by omega) (fun w h1 h2 => by
      by_cases e : w = i
      · rw [e]; exact hn
      · exact hl w h1 (by omega))
    have found : bt s i = true → nm i = nm u → ¬ (sg i = 0 ∧ sg u = 0) → post 1 := fun a b c => by
      exact ag_pt post h ⟨i, hui, by omega, a, b, c⟩
    have hi10 : vp_in (nI i) 10 := pk_in i 10 (by omega)
    have hu10 : vp_in (nI u) 10 := pk_in u 10 (by omega)
    refine br_f (nI_ge (by omega) (by omega)) (ag_Xholds s (by omega) (ag_br (fun hb => ⟨hi10, hu10, ?_⟩) (fun hb => nm_r (nI_1 i) (step fun z => hb z.1))))
    refine pk_eq (nm i) (nm u) (fun e => ⟨hi10, ?_⟩) (fun e => nm_r (nI_1 i) (step fun z => e z.2.1)) (ag_at nm (by omega)) (ag_at nm (by omega))
    rw [nI_clamp (n := i) (by omega), nI_clamp (n := u) (by omega)]
    exact br_c (fun z1 => ⟨hu10, br_c (fun z2 => nm_r (nI_1 i) (step fun z => z.2.2 ⟨z1, z2⟩)) (fun z2 => found hb e (fun z => z2 z.2))⟩) (fun z1 => found hb e (fun z => z1 z.1))
theorem ag_Xrival {post : Int32 → Prop} (s : Int32) {u : Nat} (hu : u < N) (hN : N ≤ 10) (hnm : ∀ j, nm j < 5) (h : post (ag_v (ag_RV N nm sg s u))) : wpX_hasRival post ((nI N), eb, (nI P), (nI K), (ag_f nm), (ag_f vr), sg, tc, (ag_f nv), (ag_f oc), og, (ag_f nc), (ag_f (ag_kc kd)), (ag_f lo), (ag_f ah), (ag_f (ag_kn kd)), (ag_f (ag_ko kd)), (ag_f nt)) s (nI u) := by
  unfold wpX_hasRival
  exact nm_r (nI_1 u) ⟨_, ag_Xrival_go s hu hN hnm h (N - (u + 1)) (u + 1) (by omega) (by omega) (fun w h1 h2 => absurd h1 (by omega))⟩
theorem ag_ap {post : Int32 → Prop} {c : Nat} (hc : c < 4) (h : post (ag_v (c = 0 ∨ bt eb (c - 1) = true))) : (nI c = 0 → post 1) ∧ (¬ nI c = 0 → ((((eb >>> ((nI c - 1) &&& 31)) &&& 1) = 1 → post 1) ∧ (¬ ((eb >>> ((nI c - 1) &&& 31)) &&& 1) = 1 → post 0))) := by
  cases c with
  | zero =>
    exact br_t nI_0 (ag_pt post h (Or.inl rfl))
  | succ c =>
    refine br_f (nI_ne0 (by omega) (by omega)) ?_
    rw [nI_pred]
    by_cases hb : bt eb c = true
    · exact br_t ((ag_hold eb (by omega)).mpr hb) (ag_pt post h (Or.inr hb))
    · exact br_f (fun z => hb ((ag_hold eb (by omega)).mp z)) (ag_pf post h (fun z => z.elim (fun z => absurd z (by omega)) hb))
def ag_AP (eb : Int32) (kd : Nat → Nat) (i : Nat) : Prop := ag_kn kd i = 0 ∨ bt eb (ag_kn kd i - 1) = true
theorem ag_kn4 (i : Nat) : ag_kn kd i < 4 := Nat.mod_lt _ (by decide)
theorem ag_Xapplies {post : Int32 → Prop} {i : Nat} (hi30 : i < 30) (h : post (ag_v (ag_AP eb kd i))) : wpX_applies post ((nI N), eb, (nI P), (nI K), (ag_f nm), (ag_f vr), sg, tc, (ag_f nv), (ag_f oc), og, (ag_f nc), (ag_f (ag_kc kd)), (ag_f lo), (ag_f ah), (ag_f (ag_kn kd)), (ag_f (ag_ko kd)), (ag_f nt)) (nI i) := by
  unfold wpX_applies
  exact ⟨pk_in i 30 hi30, nm_r (ag_at (ag_kn kd) (by omega)) (ag_ap (ag_kn4 i) h)⟩
def ag_MX (og : Nat → Int32) (kd lo ah : Nat → Nat) (s : Int32) (i : Nat) : Prop := ∃ v, lo i ≤ v ∧ v ≤ ah i ∧ ¬ (og (ag_kc kd i * 10 + v) &&& s) = 0
theorem ag_Xmet_go {post : Int32 → Prop} (s : Int32) {i : Nat} (hi30 : i < 30) (hkd : ag_kc kd i ≤ 5) (hhi : ah i ≤ 9) (h : post (ag_v (ag_MX og kd lo ah s i))) : ∀ d v : Nat, ah i < v + d → v < 20 → (∀ w, lo i ≤ w → w < v → (og (ag_kc kd i * 10 + w) &&& s) = 0) → lo i ≤ v → wX_isMet_18 post s (nI i) (nI (ag_kc kd i * 10)) (nI N) eb (nI P) (nI K) (ag_f nm) (ag_f vr) sg tc (ag_f nv) (ag_f oc) og (ag_f nc) (ag_f (ag_kc kd)) (ag_f lo) (ag_f ah) (ag_f (ag_kn kd)) (ag_f (ag_ko kd)) (ag_f nt) (d + 1) (nI v) := by
  intro d
  induction d with
  | zero =>
    intro v hv h20 hl hlo
    refine ⟨pk_in i 30 hi30, pk_lt (ah i) v (fun e => ?_) (fun e => absurd hv (by omega)) (ag_at ah (by omega)) rfl⟩
    exact ag_pf post h (fun ⟨w, h1, h2, h3⟩ => h3 (hl w h1 (by omega)))
  | succ d ih =>
    intro v hv h20 hl hlo
    refine ⟨pk_in i 30 hi30, pk_lt (ah i) v (fun e => ?_) (fun e => ?_) (ag_at ah (by omega)) rfl⟩
    · exact ag_pf post h (fun ⟨w, h1, h2, h3⟩ => h3 (hl w h1 (by omega)))
    · rw [nI_add]
      refine ⟨pk_in (ag_kc kd i * 10 + v) 60 (by omega), ?_⟩
      rw [nI_clamp (by omega)]
      refine br_c (fun z => nm_r (nI_1 v) (ih (v + 1) (by omega) (by omega) (fun w h1 h2 => ?_) (by omega))) (fun z => ?_)
      · by_cases ew : w = v
        · rw [ew]; exact z
        · exact hl w h1 (by omega)
      · exact ag_pt post h ⟨v, hlo, e, z⟩
theorem ag_Xmet {post : Int32 → Prop} (s : Int32) {i : Nat} (hi30 : i < 30) (hkd : ∀ j, kd j < 64 ∧ kd j % 8 ≤ 5) (hlo : ∀ j, lo j ≤ 9) (hhi : ∀ j, ah j ≤ 9) (h : post (ag_v (ag_MX og kd lo ah s i))) : wpX_isMet post ((nI N), eb, (nI P), (nI K), (ag_f nm), (ag_f vr), sg, tc, (ag_f nv), (ag_f oc), og, (ag_f nc), (ag_f (ag_kc kd)), (ag_f lo), (ag_f ah), (ag_f (ag_kn kd)), (ag_f (ag_ko kd)), (ag_f nt)) s (nI i) := by
  unfold wpX_isMet
  have h1 := (hkd i).2
  have h2 := hlo i
  have h3 := hhi i
  exact ⟨pk_in i 30 hi30, nm_r (by rw [ag_at (ag_kc kd) (by omega)]; exact pk_mul _ 10) ⟨pk_in i 30 hi30, nm_r (ag_at lo (by omega)) ⟨11, ag_Xmet_go s hi30 h1 h3 h 10 (lo i) (by omega) (by omega) (fun w a b => absurd a (by omega)) (Nat.le_refl _)⟩⟩⟩
/-- a place's need of the asked sort applies and isn't met -/
def ag_Q (eb : Int32) (og : Nat → Int32) (kd lo ah : Nat → Nat) (s : Int32) (o p : Nat) : Prop := ag_ko kd p = o ∧ ag_AP eb kd p ∧ ¬ ag_MX og kd lo ah s p
theorem ag_Xcount_go {post : Int32 → Prop} (s : Int32) {u o : Nat} (hu : u < 10) (ho : o < 2) (hkd : ∀ j, kd j < 64 ∧ kd j % 8 ≤ 5) (hlo : ∀ j, lo j ≤ 9) (hhi : ∀ j, ah j ≤ 9) (hnc : nc u ≤ 3) (h : post (nI (ag_C (fun k => ag_Q eb og kd lo ah s o (3 * u + k)) (nc u)))) : ∀ d k : Nat, k + d = nc u → wX_countUnmet_6 post s (nI u) (nI o) (nI N) eb (nI P) (nI K) (ag_f nm) (ag_f vr) sg tc (ag_f nv) (ag_f oc) og (ag_f nc) (ag_f (ag_kc kd)) (ag_f lo) (ag_f ah) (ag_f (ag_kn kd)) (ag_f (ag_ko kd)) (ag_f nt) (d + 1) (nI (ag_C (fun k => ag_Q eb og kd lo ah s o (3 * u + k)) k)) (nI k) := by
  intro d
  induction d with
  | zero =>
    intro k hk
    obtain rfl : k = nc u := by omega
    exact ⟨pk_in u 10 hu, pk_le (nc u) (nc u) (fun _ => h) (fun e => absurd e (by omega)) (ag_at nc (by omega)) rfl⟩
  | succ d ih =>
    intro k hk
    have hp : nI u * 3 + nI k = nI (3 * u + k) := by
      rw [show nI u * 3 = nI (u * 3) from pk_mul u 3, nI_add, Nat.mul_comm]
    have keep : ¬ ag_Q eb og kd lo ah s o (3 * u + k) → wX_countUnmet_6 post s (nI u) (nI o) (nI N) eb (nI P) (nI K) (ag_f nm) (ag_f vr) sg tc (ag_f nv) (ag_f oc) og (ag_f nc) (ag_f (ag_kc kd)) (ag_f lo) (ag_f ah) (ag_f (ag_kn kd)) (ag_f (ag_ko kd)) (ag_f nt) (d + 1) (nI (ag_C (fun k => ag_Q eb og kd lo ah s o (3 * u + k)) k)) (nI (k + 1)) := fun hn => by
      have e : ag_C (fun k => ag_Q eb og kd lo ah s o (3 * u + k)) (k + 1) = ag_C (fun k => ag_Q eb og kd lo ah s o (3 * u + k)) k := by
        show ag_C (fun k => ag_Q eb og kd lo ah s o (3 * u + k)) k + ag_n (ag_Q eb og kd lo ah s o (3 * u + k)) = _
        rw [ag_nf hn, Nat.add_zero]
      rw [← e]
      exact ih (k + 1) (by omega)
    have more : ag_Q eb og kd lo ah s o (3 * u + k) → wX_countUnmet_6 post s (nI u) (nI o) (nI N) eb (nI P) (nI K) (ag_f nm) (ag_f vr) sg tc (ag_f nv) (ag_f oc) og (ag_f nc) (ag_f (ag_kc kd)) (ag_f lo) (ag_f ah) (ag_f (ag_kn kd)) (ag_f (ag_ko kd)) (ag_f nt) (d + 1) (nI (ag_C (fun k => ag_Q eb og kd lo ah s o (3 * u + k)) k + 1)) (nI (k + 1)) := fun hn => by
      have e : ag_C (fun k => ag_Q eb og kd lo ah s o (3 * u + k)) (k + 1) = ag_C (fun k => ag_Q eb og kd lo ah s o (3 * u + k)) k + 1 := by
        show ag_C (fun k => ag_Q eb og kd lo ah s o (3 * u + k)) k + ag_n (ag_Q eb og kd lo ah s o (3 * u + k)) = _
        rw [ag_nt hn]
      rw [← e]
      exact ih (k + 1) (by omega)
    have hp30 : 3 * u + k < 30 := by omega
    have hko : ag_ko kd (3 * u + k) < 2 ^ 31 := by
      have := (hkd (3 * u + k)).1
      unfold ag_ko
      omega
    refine ⟨pk_in u 10 hu, pk_le (nc u) k (fun e => absurd e (by omega)) (fun _ => nm_r hp ⟨pk_in _ 30 hp30, ?_⟩) (ag_at nc (by omega)) rfl⟩
    refine pk_eq (ag_ko kd (3 * u + k)) o (fun e => ?_) (fun e => nm_r (nI_1 k) (keep fun z => e z.1)) (ag_at (ag_ko kd) (by omega)) rfl hko
    refine ag_Xapplies hp30 (ag_br (fun ha => ?_) (fun ha => nm_r (nI_1 k) (keep fun z => ha z.2.1)))
    exact ag_Xmet s hp30 hkd hlo hhi (ag_br (fun hm => nm_r (nI_1 k) (keep fun z => z.2.2 hm)) (fun hm => nm_r (nI_1 _) (nm_r (nI_1 k) (more ⟨e, ha, hm⟩))))
theorem ag_Xcount {post : Int32 → Prop} (s : Int32) {u o : Nat} (hu : u < 10) (ho : o < 2) (hkd : ∀ j, kd j < 64 ∧ kd j % 8 ≤ 5) (hlo : ∀ j, lo j ≤ 9) (hhi : ∀ j, ah j ≤ 9) (hnc : nc u ≤ 3) (h : post (nI (ag_C (fun k => ag_Q eb og kd lo ah s o (3 * u + k)) (nc u)))) : wpX_countUnmet post ((nI N), eb, (nI P), (nI K), (ag_f nm), (ag_f vr), sg, tc, (ag_f nv), (ag_f oc), og, (ag_f nc), (ag_f (ag_kc kd)), (ag_f lo), (ag_f ah), (ag_f (ag_kn kd)), (ag_f (ag_ko kd)), (ag_f nt)) s (nI u) (nI o) := by
  unfold wpX_countUnmet
  exact ⟨_, ag_Xcount_go s hu ho hkd hlo hhi hnc h (nc u) 0 (by omega)⟩
/-- the component's soundness -/
def ag_XS (N : Nat) (eb : Int32) (nm : Nat → Nat) (sg og : Nat → Int32) (nc kd lo ah : Nat → Nat) (s : Int32) : Prop := ∀ u, u < N → bt s u = true → ¬ ag_RV N nm sg s u ∧ ∀ k, k < nc u → ¬ ag_Q eb og kd lo ah s 0 (3 * u + k)
theorem ag_Xsound_go {post : Int32 → Prop} (s : Int32) (hN : N ≤ 10) (hnm : ∀ j, nm j < 5) (hkd : ∀ j, kd j < 64 ∧ kd j % 8 ≤ 5) (hlo : ∀ j, lo j ≤ 9) (hhi : ∀ j, ah j ≤ 9) (hnc : ∀ j, nc j ≤ 3) (h : post (ag_v (ag_XS N eb nm sg og nc kd lo ah s))) : ∀ d i : Nat, i + d = N → (∀ u, u < i → bt s u = true → ¬ ag_RV N nm sg s u ∧ ∀ k, k < nc u → ¬ ag_Q eb og kd lo ah s 0 (3 * u + k)) → wX_isSound_2 post s (nI N) eb (nI P) (nI K) (ag_f nm) (ag_f vr) sg tc (ag_f nv) (ag_f oc) og (ag_f nc) (ag_f (ag_kc kd)) (ag_f lo) (ag_f ah) (ag_f (ag_kn kd)) (ag_f (ag_ko kd)) (ag_f nt) (d + 1) (nI i) := by
  intro d
  induction d with
  | zero =>
    intro i hi hl
    obtain rfl : i = N := by omega
    refine br_t (nI_le (by omega) (by omega)) ?_
    exact ag_pt post h hl
  | succ d ih =>
    intro i hi hl
    have step : (bt s i = true → ¬ ag_RV N nm sg s i ∧ ∀ k, k < nc i → ¬ ag_Q eb og kd lo ah s 0 (3 * i + k)) → wX_isSound_2 post s (nI N) eb (nI P) (nI K) (ag_f nm) (ag_f vr) sg tc (ag_f nv) (ag_f oc) og (ag_f nc) (ag_f (ag_kc kd)) (ag_f lo) (ag_f ah) (ag_f (ag_kn kd)) (ag_f (ag_ko kd)) (ag_f nt) (d + 1) (nI (i + 1)) := fun hn => ih (i + 1) (by omega) (fun u hu => by
      by_cases e : u = i
      · rw [e]; exact hn
      · exact hl u (by omega))
    have bad : bt s i = true → ¬ (¬ ag_RV N nm sg s i ∧ ∀ k, k < nc i → ¬ ag_Q eb og kd lo ah s 0 (3 * i + k)) → post 0 := fun hb hn => by
      exact ag_pf post h (fun z => hn (z i (by omega) hb))
    refine br_f (nI_ge (by omega) (by omega)) (ag_Xholds s (by omega) (ag_br (fun hb => ?_) (fun hb => nm_r (nI_1 i) (step fun z => absurd z hb))))
    refine ag_Xrival s (by omega) hN hnm (ag_br (fun hr => bad hb (fun z => z.1 hr)) (fun hr => ?_))
    have hc := ag_Cle (fun k => ag_Q eb og kd lo ah s 0 (3 * i + k)) (nc i)
    have hn3 := hnc i
    refine ag_Xcount (o := 0) s (by omega) (by omega) hkd hlo hhi (hnc i) ?_
    refine pk_le (ag_C (fun k => ag_Q eb og kd lo ah s 0 (3 * i + k)) (nc i)) 0 (fun z => nm_r (nI_1 i) (step fun _ => ⟨hr, (ag_C0 _ _).mp (by omega)⟩)) (fun z => bad hb (fun y => ?_)) rfl rfl
    have := (ag_C0 _ _).mpr y.2
    omega
theorem ag_Xsound {post : Int32 → Prop} (s : Int32) (hN : N ≤ 10) (hnm : ∀ j, nm j < 5) (hkd : ∀ j, kd j < 64 ∧ kd j % 8 ≤ 5) (hlo : ∀ j, lo j ≤ 9) (hhi : ∀ j, ah j ≤ 9) (hnc : ∀ j, nc j ≤ 3) (h : post (ag_v (ag_XS N eb nm sg og nc kd lo ah s))) : wpX_isSound post ((nI N), eb, (nI P), (nI K), (ag_f nm), (ag_f vr), sg, tc, (ag_f nv), (ag_f oc), og, (ag_f nc), (ag_f (ag_kc kd)), (ag_f lo), (ag_f ah), (ag_f (ag_kn kd)), (ag_f (ag_ko kd)), (ag_f nt)) s := by
  unfold wpX_isSound
  exact ⟨_, ag_Xsound_go s hN hnm hkd hlo hhi hnc h N 0 (by omega) (fun u hu => absurd hu (by omega))⟩
end
end
section
/-! the component: cost, best set, excess, steps, notes -/
noncomputable def ag_B (ok : Nat → Prop) (ct : Nat → Int32) : Nat → Int32 × Int32
  | 0 => (-2, 0)
  | i + 1 => @ite (Int32 × Int32) (ok i ∧ ((ag_B ok ct i).1 = -2 ∨ ¬ (ag_B ok ct i).2 ≤ ct i)) (Classical.propDecidable _) (nI i, ct i) (ag_B ok ct i)
theorem ag_Bk {ok : Nat → Prop} {ct : Nat → Int32} {i : Nat} (h : ¬ (ok i ∧ ((ag_B ok ct i).1 = -2 ∨ ¬ (ag_B ok ct i).2 ≤ ct i))) : ag_B ok ct (i + 1) = ag_B ok ct i := by
  rw [ag_B]
  exact if_neg h
theorem ag_Bt {ok : Nat → Prop} {ct : Nat → Int32} {i : Nat} (h : ok i ∧ ((ag_B ok ct i).1 = -2 ∨ ¬ (ag_B ok ct i).2 ≤ ct i)) : ag_B ok ct (i + 1) = (nI i, ct i) := by
  rw [ag_B]
  exact if_pos h
theorem ag_Bc {ok ok' : Nat → Prop} {ct ct' : Nat → Int32} : ∀ n, (∀ i, i < n → (ok i ↔ ok' i)) → (∀ i, i < n → ct i = ct' i) → ag_B ok ct n = ag_B ok' ct' n := by
  intro n
  induction n with
  | zero => intro _ _; rfl
  | succ n ih =>
    intro h1 h2
    have e := ih (fun i hi => h1 i (by omega)) (fun i hi => h2 i (by omega))
    have e1 := h1 n (by omega)
    have e2 := h2 n (by omega)
    by_cases hc : ok n ∧ ((ag_B ok ct n).1 = -2 ∨ ¬ (ag_B ok ct n).2 ≤ ct n)
    · rw [ag_Bt hc, ag_Bt (by rw [← e, ← e2, ← e1]; exact hc), e2]
    · rw [ag_Bk hc, ag_Bk (by rw [← e, ← e2, ← e1]; exact hc), e]
theorem ag_Bv {ok : Nat → Prop} {ct : Nat → Int32} : ∀ n, (ag_B ok ct n).1 = -2 ∨ ∃ j, j < n ∧ (ag_B ok ct n).1 = nI j := by
  intro n
  induction n with
  | zero => exact Or.inl rfl
  | succ n ih =>
    by_cases hc : ok n ∧ ((ag_B ok ct n).1 = -2 ∨ ¬ (ag_B ok ct n).2 ≤ ct n)
    · rw [ag_Bt hc]
      exact Or.inr ⟨n, by omega, rfl⟩
    · rw [ag_Bk hc]
      exact ih.elim Or.inl (fun ⟨j, h1, h2⟩ => Or.inr ⟨j, by omega, h2⟩)
def ag_ok (sd : Int32 → Prop) (w b : Int32) (i : Nat) : Prop := (nI i &&& w) = w ∧ (nI i &&& b) = 0 ∧ sd (nI i)
noncomputable def ag_gv (w b : Int32) (i : Nat) : Int32 := nI (ag_sz (w &&& (nI i ^^^ (-1)))) + nI (ag_sz (b &&& nI i))
noncomputable def ag_E (sd : Int32 → Prop) (w b : Int32) : Nat → Int32
  | 0 => 99
  | i + 1 => @ite Int32 (¬ ag_E sd w b i ≤ ag_gv w b i ∧ sd (nI i)) (Classical.propDecidable _) (ag_gv w b i) (ag_E sd w b i)
theorem ag_Ek {sd : Int32 → Prop} {w b : Int32} {i : Nat} (h : ¬ (¬ ag_E sd w b i ≤ ag_gv w b i ∧ sd (nI i))) : ag_E sd w b (i + 1) = ag_E sd w b i := by
  rw [ag_E]
  exact if_neg h
theorem ag_Et {sd : Int32 → Prop} {w b : Int32} {i : Nat} (h : ¬ ag_E sd w b i ≤ ag_gv w b i ∧ sd (nI i)) : ag_E sd w b (i + 1) = ag_gv w b i := by
  rw [ag_E]
  exact if_pos h
theorem ag_Ec {sd sd' : Int32 → Prop} {w b : Int32} : ∀ n, (∀ i, i < n → (sd (nI i) ↔ sd' (nI i))) → ag_E sd w b n = ag_E sd' w b n := by
  intro n
  induction n with
  | zero => intro _; rfl
  | succ n ih =>
    intro h1
    have e := ih (fun i hi => h1 i (by omega))
    have e1 := h1 n (by omega)
    by_cases hc : ¬ ag_E sd w b n ≤ ag_gv w b n ∧ sd (nI n)
    · rw [ag_Et hc, ag_Et (by rw [← e, ← e1]; exact hc)]
    · rw [ag_Ek hc, ag_Ek (by rw [← e, ← e1]; exact hc), e]
/-- the twenty places of a change: nine down to nought, then nought up to nine -/
def ag_o (t : Nat) : Nat := if t < 10 then 9 - t else t - 10
def ag_c (p s : Int32) (t : Nat) : Prop := (t < 10 ∧ bt p (9 - t) = true ∧ ¬ bt s (9 - t) = true) ∨ (10 ≤ t ∧ bt s (t - 10) = true ∧ ¬ bt p (t - 10) = true)
noncomputable def ag_G (c : Nat → Prop) (m : Nat) (tm : Int32) (a : Nat → Int32) : Nat → (Nat → Int32)
  | 0 => a
  | t + 1 => @ite (Nat → Int32) (c t ∧ ag_C c t < m) (Classical.propDecidable _) (upd (ag_G c m tm a t) (ag_o t) (ag_G c m tm a t (ag_o t) + tm)) (ag_G c m tm a t)
theorem ag_Gk {c : Nat → Prop} {m t : Nat} {tm : Int32} {a : Nat → Int32} (h : ¬ (c t ∧ ag_C c t < m)) : ag_G c m tm a (t + 1) = ag_G c m tm a t := by
  rw [ag_G]
  exact if_neg h
theorem ag_Gt {c : Nat → Prop} {m t : Nat} {tm : Int32} {a : Nat → Int32} (h : c t ∧ ag_C c t < m) : ag_G c m tm a (t + 1) = upd (ag_G c m tm a t) (ag_o t) (ag_G c m tm a t (ag_o t) + tm) := by
  rw [ag_G]
  exact if_pos h
theorem ag_Cs (c : Nat → Prop) (t : Nat) : ag_C c (t + 1) = ag_C c t + ag_n (c t) := rfl
theorem ag_Cm (c : Nat → Prop) (t : Nat) : ∀ e, ag_C c t ≤ ag_C c (t + e) := by
  intro e
  induction e with
  | zero => exact Nat.le_refl _
  | succ e ih =>
    have := ag_Cs c (t + e)
    show ag_C c t ≤ ag_C c (t + e + 1)
    omega
theorem ag_Gd {c : Nat → Prop} {m t : Nat} {tm : Int32} {a : Nat → Int32} (h : m ≤ ag_C c t) : ∀ e, ag_G c m tm a (t + e) = ag_G c m tm a t := by
  intro e
  induction e with
  | zero => rfl
  | succ e ih =>
    have := ag_Cm c t e
    show ag_G c m tm a (t + e + 1) = _
    rw [ag_Gk (fun z => by omega), ih]
theorem ag_Gm {c : Nat → Prop} {m m' : Nat} {tm : Int32} {a : Nat → Int32} (h : ag_C c 20 ≤ m) (h' : ag_C c 20 ≤ m') : ∀ t, t ≤ 20 → ag_G c m tm a t = ag_G c m' tm a t := by
  intro t
  induction t with
  | zero => intro _; rfl
  | succ t ih =>
    intro ht
    have e := ih (by omega)
    by_cases hc : c t
    · have h1 := ag_Cs c t
      rw [ag_nt hc] at h1
      have h2 := ag_Cm c (t + 1) (20 - (t + 1))
      rw [show t + 1 + (20 - (t + 1)) = 20 by omega] at h2
      rw [ag_Gt ⟨hc, by omega⟩, ag_Gt ⟨hc, by omega⟩, e]
    · rw [ag_Gk (fun z => hc z.1), ag_Gk (fun z => hc z.1), e]
def ag_D (nt : Nat → Nat) (i : Nat) : Nat → Nat := fun j => if j < i then nt (j + 1) else nt j
theorem ag_Ds (nt : Nat → Nat) (i : Nat) : ag_u (ag_D nt i) i (ag_D nt i (i + 1)) = ag_D nt (i + 1) := by
  funext j
  unfold ag_u ag_D
  by_cases h : j = i
  · rw [if_pos h, if_neg (by omega), if_pos (by omega), h]
  · rw [if_neg h]
    by_cases h2 : j < i
    · rw [if_pos h2, if_pos (by omega)]
    · rw [if_neg h2, if_neg (by omega)]
def ag_nK (K : Nat) : Nat := if K < 8 then K + 1 else 8
def ag_nN (nt : Nat → Nat) (K s : Nat) : Nat → Nat := if K < 8 then ag_u nt K s else ag_u (ag_D nt 7) 7 s
section
variable {N P K : Nat} {eb : Int32} {nm vr nv oc nc kd lo ah nt fd fv hs : Nat → Nat} {sg tc og ae : Nat → Int32}
noncomputable def ag_XW (eb : Int32) (nm vr nv : Nat → Nat) (og : Nat → Int32) (nc kd lo ah : Nat → Nat) (s : Int32) (u : Nat) : Int32 := if bt s u = true then 2 * nI (ag_C (fun k => ag_Q eb og kd lo ah s 1 (3 * u + k)) (nc u)) + (nI (nv (nm u)) - nI (vr u)) else 0
noncomputable def ag_XC (N P : Nat) (eb : Int32) (nm vr nv : Nat → Nat) (og : Nat → Int32) (nc kd lo ah : Nat → Nat) (s : Int32) : Int32 := (5 * nI (ag_sz (s &&& (nI P ^^^ (-1)))) + 3 * nI (ag_sz (nI P &&& (s ^^^ (-1))))) + ag_S (ag_XW eb nm vr nv og nc kd lo ah s) N
theorem ag_Xcost_go {post : Int32 → Prop} (s c0 : Int32) (hN : N ≤ 10) (hnm : ∀ j, nm j < 5) (hkd : ∀ j, kd j < 64 ∧ kd j % 8 ≤ 5) (hlo : ∀ j, lo j ≤ 9) (hhi : ∀ j, ah j ≤ 9) (hnc : ∀ j, nc j ≤ 3) (h : post (c0 + ag_S (ag_XW eb nm vr nv og nc kd lo ah s) N)) : ∀ d i : Nat, i + d = N → wX_costOf_30 post s (nI N) eb (nI P) (nI K) (ag_f nm) (ag_f vr) sg tc (ag_f nv) (ag_f oc) og (ag_f nc) (ag_f (ag_kc kd)) (ag_f lo) (ag_f ah) (ag_f (ag_kn kd)) (ag_f (ag_ko kd)) (ag_f nt) (d + 1) (c0 + ag_S (ag_XW eb nm vr nv og nc kd lo ah s) i) (nI i) := by
  intro d
  induction d with
  | zero =>
    intro i hi
    obtain rfl : i = N := by omega
    exact br_t (nI_le (by omega) (by omega)) h
  | succ d ih =>
    intro i hi
    have n1 := hnm i
    have es : ag_S (ag_XW eb nm vr nv og nc kd lo ah s) (i + 1) = ag_S (ag_XW eb nm vr nv og nc kd lo ah s) i + ag_XW eb nm vr nv og nc kd lo ah s i := rfl
    have g := ih (i + 1) (by omega)
    have hi10 : vp_in (nI i) 10 := pk_in i 10 (by omega)
    refine br_f (nI_ge (by omega) (by omega)) (ag_Xholds s (by omega) (ag_br (fun hb => ?_) (fun hb => nm_r (nI_1 i) ?_)))
    · refine ag_Xcount (o := 1) s (by omega) (by omega) hkd hlo hhi (hnc i) (nm_e ⟨hi10, pk_in (nm i) 5 n1 (ag_at nm (by omega)), hi10, nm_r ?_ (nm_r (nI_1 i) g)⟩)
      rw [es, ag_at nm (by omega), ag_at nv (by omega), ag_at vr (by omega), show ag_XW eb nm vr nv og nc kd lo ah s i = _ from if_pos hb]
      grind
    · rw [es, show ag_XW eb nm vr nv og nc kd lo ah s i = 0 from if_neg hb, Int32.add_zero] at g
      exact g
theorem ag_Xcost {post : Int32 → Prop} (s : Int32) (hN : N ≤ 10) (hnm : ∀ j, nm j < 5) (hkd : ∀ j, kd j < 64 ∧ kd j % 8 ≤ 5) (hlo : ∀ j, lo j ≤ 9) (hhi : ∀ j, ah j ≤ 9) (hnc : ∀ j, nc j ≤ 3) (h : post (ag_XC N P eb nm vr nv og nc kd lo ah s)) : wpX_costOf post ((nI N), eb, (nI P), (nI K), (ag_f nm), (ag_f vr), sg, tc, (ag_f nv), (ag_f oc), og, (ag_f nc), (ag_f (ag_kc kd)), (ag_f lo), (ag_f ah), (ag_f (ag_kn kd)), (ag_f (ag_ko kd)), (ag_f nt)) s := by
  unfold wpX_costOf
  refine ag_Xsize _ (ag_Xsize _ (nm_e ⟨N + 1, ?_⟩))
  have g := ag_Xcost_go (tc := tc) (oc := oc) (nt := nt) (P := P) (K := K) (sg := sg) s (5 * nI (ag_sz (s &&& (nI P ^^^ (-1)))) + 3 * nI (ag_sz (nI P &&& (s ^^^ (-1))))) hN hnm hkd hlo hhi hnc h N 0 (by omega)
  rw [show ag_S (ag_XW eb nm vr nv og nc kd lo ah s) 0 = 0 from rfl, Int32.add_zero] at g
  exact g
theorem ag_Xbest_go {post : Int32 → Prop} (w b : Int32) (hN : N ≤ 10) (hnm : ∀ j, nm j < 5) (hkd : ∀ j, kd j < 64 ∧ kd j % 8 ≤ 5) (hlo : ∀ j, lo j ≤ 9) (hhi : ∀ j, ah j ≤ 9) (hnc : ∀ j, nc j ≤ 3) (h : post (ag_B (ag_ok (ag_XS N eb nm sg og nc kd lo ah) w b) (fun i => ag_XC N P eb nm vr nv og nc kd lo ah (nI i)) (2 ^ N)).1) : ∀ d i : Nat, i + d = 2 ^ N → wX_bestSet_17 post w b (nI (2 ^ N)) (nI N) eb (nI P) (nI K) (ag_f nm) (ag_f vr) sg tc (ag_f nv) (ag_f oc) og (ag_f nc) (ag_f (ag_kc kd)) (ag_f lo) (ag_f ah) (ag_f (ag_kn kd)) (ag_f (ag_ko kd)) (ag_f nt) (d + 1) (ag_B (ag_ok (ag_XS N eb nm sg og nc kd lo ah) w b) (fun i => ag_XC N P eb nm vr nv og nc kd lo ah (nI i)) i).1 (ag_B (ag_ok (ag_XS N eb nm sg og nc kd lo ah) w b) (fun i => ag_XC N P eb nm vr nv og nc kd lo ah (nI i)) i).2 (nI i) := by
  have hE := ag_pw hN
  intro d
  induction d with
  | zero =>
    intro i hi
    obtain rfl : i = 2 ^ N := by omega
    exact br_t (nI_le (by omega) (by omega)) h
  | succ d ih =>
    intro i hi
    have g := ih (i + 1) (by omega)
    generalize hok : ag_ok (ag_XS N eb nm sg og nc kd lo ah) w b = ok at g h ⊢
    have hct : (fun i => ag_XC N P eb nm vr nv og nc kd lo ah (nI i)) i = ag_XC N P eb nm vr nv og nc kd lo ah (nI i) := rfl
    have okI : ok i ↔ (nI i &&& w) = w ∧ (nI i &&& b) = 0 ∧ ag_XS N eb nm sg og nc kd lo ah (nI i) := by rw [← hok]; exact Iff.rfl
    generalize (fun i => ag_XC N P eb nm vr nv og nc kd lo ah (nI i)) = ct at g h hct ⊢
    have keep : ¬ (ok i ∧ ((ag_B ok ct i).1 = -2 ∨ ¬ (ag_B ok ct i).2 ≤ ct i)) → wX_bestSet_17 post w b (nI (2 ^ N)) (nI N) eb (nI P) (nI K) (ag_f nm) (ag_f vr) sg tc (ag_f nv) (ag_f oc) og (ag_f nc) (ag_f (ag_kc kd)) (ag_f lo) (ag_f ah) (ag_f (ag_kn kd)) (ag_f (ag_ko kd)) (ag_f nt) (d + 1) (ag_B ok ct i).1 (ag_B ok ct i).2 (nI (i + 1)) := fun hn => by
      rw [ag_Bk hn] at g
      exact g
    have take : (ok i ∧ ((ag_B ok ct i).1 = -2 ∨ ¬ (ag_B ok ct i).2 ≤ ct i)) → wX_bestSet_17 post w b (nI (2 ^ N)) (nI N) eb (nI P) (nI K) (ag_f nm) (ag_f vr) sg tc (ag_f nv) (ag_f oc) og (ag_f nc) (ag_f (ag_kc kd)) (ag_f lo) (ag_f ah) (ag_f (ag_kn kd)) (ag_f (ag_ko kd)) (ag_f nt) (d + 1) (nI i) (ct i) (nI (i + 1)) := fun hn => by
      rw [ag_Bt hn] at g
      exact g
    refine br_f (nI_ge (by omega) (by omega)) (br_c (fun h1 => br_c (fun h2 => ?_) (fun h2 => ?_)) (fun h1 => ?_))
    · unfold wX_bestSet_44
      refine br_f (by decide) (ag_Xsound (nI i) hN hnm hkd hlo hhi hnc (ag_br (fun hs => ?_) (fun hs => nm_r (nI_1 i) (keep fun z => hs (okI.mp z.1).2.2))))
      refine ag_Xcost (nI i) hN hnm hkd hlo hhi hnc ?_
      rw [← hct]
      exact br_c (fun e => nm_r (nI_1 i) (take ⟨okI.mpr ⟨h1, h2, hs⟩, Or.inl e⟩)) (fun e => br_c (fun l => nm_r (nI_1 i) (keep fun z => z.2.elim e (fun y => y l))) (fun l => nm_r (nI_1 i) (take ⟨okI.mpr ⟨h1, h2, hs⟩, Or.inr l⟩)))
    · unfold wX_bestSet_43 wX_bestSet_44
      exact br_t rfl (nm_r (nI_1 i) (keep fun z => h2 (okI.mp z.1).2.1))
    · unfold wX_bestSet_43 wX_bestSet_44
      exact br_t rfl (nm_r (nI_1 i) (keep fun z => h1 (okI.mp z.1).1))
theorem ag_Xbest {post : Int32 → Prop} (w b : Int32) (hN : N ≤ 10) (hnm : ∀ j, nm j < 5) (hkd : ∀ j, kd j < 64 ∧ kd j % 8 ≤ 5) (hlo : ∀ j, lo j ≤ 9) (hhi : ∀ j, ah j ≤ 9) (hnc : ∀ j, nc j ≤ 3) (h : post (ag_B (ag_ok (ag_XS N eb nm sg og nc kd lo ah) w b) (fun i => ag_XC N P eb nm vr nv og nc kd lo ah (nI i)) (2 ^ N)).1) : wpX_bestSet post ((nI N), eb, (nI P), (nI K), (ag_f nm), (ag_f vr), sg, tc, (ag_f nv), (ag_f oc), og, (ag_f nc), (ag_f (ag_kc kd)), (ag_f lo), (ag_f ah), (ag_f (ag_kn kd)), (ag_f (ag_ko kd)), (ag_f nt)) w b := by
  unfold wpX_bestSet
  exact nm_r (ag_shl hN) ⟨2 ^ N + 1, ag_Xbest_go w b hN hnm hkd hlo hhi hnc h (2 ^ N) 0 (by omega)⟩
theorem ag_Xexcess_go {post : Int32 → Prop} (w b : Int32) (hN : N ≤ 10) (hnm : ∀ j, nm j < 5) (hkd : ∀ j, kd j < 64 ∧ kd j % 8 ≤ 5) (hlo : ∀ j, lo j ≤ 9) (hhi : ∀ j, ah j ≤ 9) (hnc : ∀ j, nc j ≤ 3) (h : post (ag_E (ag_XS N eb nm sg og nc kd lo ah) w b (2 ^ N))) : ∀ d i : Nat, i + d = 2 ^ N → wX_excess_34 post w b (nI (2 ^ N)) (nI N) eb (nI P) (nI K) (ag_f nm) (ag_f vr) sg tc (ag_f nv) (ag_f oc) og (ag_f nc) (ag_f (ag_kc kd)) (ag_f lo) (ag_f ah) (ag_f (ag_kn kd)) (ag_f (ag_ko kd)) (ag_f nt) (d + 1) (ag_E (ag_XS N eb nm sg og nc kd lo ah) w b i) (nI i) := by
  have hE := ag_pw hN
  intro d
  induction d with
  | zero =>
    intro i hi
    obtain rfl : i = 2 ^ N := by omega
    exact br_t (nI_le (by omega) (by omega)) h
  | succ d ih =>
    intro i hi
    have g := ih (i + 1) (by omega)
    have keep : ¬ (¬ ag_E (ag_XS N eb nm sg og nc kd lo ah) w b i ≤ ag_gv w b i ∧ ag_XS N eb nm sg og nc kd lo ah (nI i)) → wX_excess_34 post w b (nI (2 ^ N)) (nI N) eb (nI P) (nI K) (ag_f nm) (ag_f vr) sg tc (ag_f nv) (ag_f oc) og (ag_f nc) (ag_f (ag_kc kd)) (ag_f lo) (ag_f ah) (ag_f (ag_kn kd)) (ag_f (ag_ko kd)) (ag_f nt) (d + 1) (ag_E (ag_XS N eb nm sg og nc kd lo ah) w b i) (nI (i + 1)) := fun hn => by
      rw [ag_Ek hn] at g
      exact g
    have take : (¬ ag_E (ag_XS N eb nm sg og nc kd lo ah) w b i ≤ ag_gv w b i ∧ ag_XS N eb nm sg og nc kd lo ah (nI i)) → wX_excess_34 post w b (nI (2 ^ N)) (nI N) eb (nI P) (nI K) (ag_f nm) (ag_f vr) sg tc (ag_f nv) (ag_f oc) og (ag_f nc) (ag_f (ag_kc kd)) (ag_f lo) (ag_f ah) (ag_f (ag_kn kd)) (ag_f (ag_ko kd)) (ag_f nt) (d + 1) (ag_gv w b i) (nI (i + 1)) := fun hn => by
      rw [ag_Et hn] at g
      exact g
    exact br_f (nI_ge (by omega) (by omega)) (ag_Xsize _ (ag_Xsize _ (nm_r (e' := ag_gv w b i) rfl (br_c (fun l => nm_r (nI_1 i) (keep fun z => z.1 l)) (fun l => ag_Xsound (nI i) hN hnm hkd hlo hhi hnc (ag_br (fun hs => nm_r (nI_1 i) (take ⟨l, hs⟩)) (fun hs => nm_r (nI_1 i) (keep fun z => hs z.2))))))))
theorem ag_X56_go {post : SX → Prop} (s : Int32) (m : Nat) (tm : Int32) (hm : m ≤ 20) (h : post ((nI N), eb, (nI P), (nI K), (ag_f nm), (ag_f vr), sg, (ag_G (ag_c (nI P) s) m tm tc 20), (ag_f nv), (ag_f oc), og, (ag_f nc), (ag_f (ag_kc kd)), (ag_f lo), (ag_f ah), (ag_f (ag_kn kd)), (ag_f (ag_ko kd)), (ag_f nt))) : ∀ d i : Nat, i + d = 10 → wX_touchSteps_56 post s tm (nI N) eb (nI P) (nI K) (d + 1) (nI (m - ag_C (ag_c (nI P) s) (10 + i))) (nI i) (ag_f nm) (ag_f vr) sg (ag_G (ag_c (nI P) s) m tm tc (10 + i)) (ag_f nv) (ag_f oc) og (ag_f nc) (ag_f (ag_kc kd)) (ag_f lo) (ag_f ah) (ag_f (ag_kn kd)) (ag_f (ag_ko kd)) (ag_f nt) := by
  intro d
  induction d with
  | zero =>
    intro i hi
    obtain rfl : i = 10 := by omega
    exact br_t (nI_le (a := 10) (b := 10) (by omega) (by omega)) h
  | succ d ih =>
    intro i hi
    have g := ih (i + 1) (by omega)
    have eo : ag_o (10 + i) = i := by
      unfold ag_o
      rw [if_neg (by omega)]
      omega
    have ec : ag_c (nI P) s (10 + i) ↔ bt (s &&& (nI P ^^^ (-1))) i = true := by
      rw [ag_diff _ _ (by omega)]
      unfold ag_c
      rw [show 10 + i - 10 = i by omega]
      exact ⟨fun z => z.elim (fun y => absurd y.1 (by omega)) (fun y => y.2), fun z => Or.inr ⟨by omega, z⟩⟩
    have hC := ag_Cs (ag_c (nI P) s) (10 + i)
    have hi10 : vp_in (nI i) 10 := pk_in i 10 (by omega)
    refine br_f (nI_ge (b := 10) (by omega) (by decide)) (pk_le (m - ag_C (ag_c (nI P) s) (10 + i)) 0 (fun z => ?_) (fun z => ?_) rfl rfl)
    · have e := ag_Gd (tm := tm) (a := tc) (show m ≤ ag_C (ag_c (nI P) s) (10 + i) by omega) (10 - i)
      rw [show 10 + i + (10 - i) = 20 by omega] at e
      rw [← e]
      exact h
    · refine ag_Xholds _ (by omega) (ag_br (fun hb => ⟨hi10, hi10, nm_r ?_ (nm_r ?_ (nm_r (nI_1 i) g))⟩) (fun hb => nm_r (nI_1 i) ?_))
      · rw [nI_clamp (by omega)]
        rw [show 10 + (i + 1) = 10 + i + 1 from rfl, ag_Gt ⟨ec.mpr hb, by omega⟩, eo]
      · rw [show 10 + (i + 1) = 10 + i + 1 from rfl, hC, ag_nt (ec.mpr hb)]
        obtain ⟨x, hx⟩ : ∃ x, m - ag_C (ag_c (nI P) s) (10 + i) = x + 1 := ⟨m - ag_C (ag_c (nI P) s) (10 + i) - 1, by omega⟩
        rw [hx, pk_m1]
        exact congrArg nI (by omega)
      · rw [show 10 + (i + 1) = 10 + i + 1 from rfl, hC, ag_nf (fun z => hb (ec.mp z)), ag_Gk (fun z => hb (ec.mp z.1))] at g
        exact g
theorem ag_X7_go {post : SX → Prop} (s : Int32) (m : Nat) (tm : Int32) (hm : m ≤ 20) (h : post ((nI N), eb, (nI P), (nI K), (ag_f nm), (ag_f vr), sg, (ag_G (ag_c (nI P) s) m tm tc 20), (ag_f nv), (ag_f oc), og, (ag_f nc), (ag_f (ag_kc kd)), (ag_f lo), (ag_f ah), (ag_f (ag_kn kd)), (ag_f (ag_ko kd)), (ag_f nt))) : ∀ d t : Nat, t + d = 10 → wX_touchSteps_7 post s tm (nI N) eb (nI P) (nI K) (d + 1) (nI (m - ag_C (ag_c (nI P) s) t)) (nI d + (-1)) (ag_f nm) (ag_f vr) sg (ag_G (ag_c (nI P) s) m tm tc t) (ag_f nv) (ag_f oc) og (ag_f nc) (ag_f (ag_kc kd)) (ag_f lo) (ag_f ah) (ag_f (ag_kn kd)) (ag_f (ag_ko kd)) (ag_f nt) := by
  intro d
  induction d with
  | zero =>
    intro t ht
    obtain rfl : t = 10 := by omega
    exact br_t (by decide) ⟨11, ag_X56_go s m tm hm h 10 0 rfl⟩
  | succ d ih =>
    intro t ht
    have g := ih (t + 1) (by omega)
    rw [pk_m1]
    have eo : ag_o t = d := by
      unfold ag_o
      rw [if_pos (by omega)]
      omega
    have ec : ag_c (nI P) s t ↔ bt (nI P &&& (s ^^^ (-1))) d = true := by
      rw [ag_diff _ _ (by omega)]
      unfold ag_c
      rw [show 9 - t = d by omega]
      exact ⟨fun z => z.elim (fun y => y.2) (fun y => absurd y.1 (by omega)), fun z => Or.inl ⟨by omega, z⟩⟩
    have hC := ag_Cs (ag_c (nI P) s) t
    have hd10 : vp_in (nI d) 10 := pk_in d 10 (by omega)
    refine br_f (nI_pos (by omega)) (pk_le (m - ag_C (ag_c (nI P) s) t) 0 (fun z => ?_) (fun z => ?_) rfl rfl)
    · have e := ag_Gd (tm := tm) (a := tc) (show m ≤ ag_C (ag_c (nI P) s) t by omega) (20 - t)
      rw [show t + (20 - t) = 20 by omega] at e
      rw [show m - ag_C (ag_c (nI P) s) t = 0 by omega, ← e]
      exact ⟨1, br_f (by decide) (br_t (by decide) h)⟩
    · refine ag_Xholds _ (by omega) (ag_br (fun hb => ⟨hd10, hd10, nm_r ?_ (nm_r ?_ (nm_r rfl g))⟩) (fun hb => nm_r rfl ?_))
      · rw [nI_clamp (by omega), ag_Gt ⟨ec.mpr hb, by omega⟩, eo]
      · rw [hC, ag_nt (ec.mpr hb)]
        obtain ⟨x, hx⟩ : ∃ x, m - ag_C (ag_c (nI P) s) t = x + 1 := ⟨m - ag_C (ag_c (nI P) s) t - 1, by omega⟩
        rw [hx, pk_m1]
        exact congrArg nI (by omega)
      · rw [hC, ag_nf (fun z => hb (ec.mp z)), ag_Gk (fun z => hb (ec.mp z.1))] at g
        exact g
theorem ag_Xtouch {post : SX → Prop} (s : Int32) (m : Nat) (tm : Int32) (hm : m ≤ 20) (h : post ((nI N), eb, (nI P), (nI K), (ag_f nm), (ag_f vr), sg, (ag_G (ag_c (nI P) s) m tm tc 20), (ag_f nv), (ag_f oc), og, (ag_f nc), (ag_f (ag_kc kd)), (ag_f lo), (ag_f ah), (ag_f (ag_kn kd)), (ag_f (ag_ko kd)), (ag_f nt))) : wpX_touchSteps post ((nI N), eb, (nI P), (nI K), (ag_f nm), (ag_f vr), sg, tc, (ag_f nv), (ag_f oc), og, (ag_f nc), (ag_f (ag_kc kd)), (ag_f lo), (ag_f ah), (ag_f (ag_kn kd)), (ag_f (ag_ko kd)), (ag_f nt)) s (nI m) tm := by
  unfold wpX_touchSteps
  exact ⟨11, ag_X7_go s m tm hm h 10 0 rfl⟩
theorem ag_Xdrop_go {post : SX → Prop} (h : post ((nI N), eb, (nI P), (nI 7), (ag_f nm), (ag_f vr), sg, tc, (ag_f nv), (ag_f oc), og, (ag_f nc), (ag_f (ag_kc kd)), (ag_f lo), (ag_f ah), (ag_f (ag_kn kd)), (ag_f (ag_ko kd)), (ag_f (ag_D nt 7)))) : ∀ d i : Nat, i + d = 7 → wX_dropFirstNote_2 post (nI N) eb (nI P) (nI 8) (d + 1) (nI (i + 1)) (ag_f nm) (ag_f vr) sg tc (ag_f nv) (ag_f oc) og (ag_f nc) (ag_f (ag_kc kd)) (ag_f lo) (ag_f ah) (ag_f (ag_kn kd)) (ag_f (ag_ko kd)) (ag_f (ag_D nt i)) := by
  intro d
  induction d with
  | zero =>
    intro i hi
    obtain rfl : i = 7 := by omega
    exact br_t (nI_le (by omega) (by omega)) (nm_r (nI_pred 7) h)
  | succ d ih =>
    intro i hi
    refine br_f (nI_ge (by omega) (by omega)) ⟨pk_in (i + 1) 8 (by omega), pk_in i 8 (by omega) (nI_pred i), nm_r ?_ (nm_r (nI_1 (i + 1)) (ih (i + 1) (by omega)))⟩
    rw [nI_pred, nI_clamp (n := i) (by omega), ag_at _ (by omega), ag_fu, ag_Ds]
theorem ag_Xdrop {post : SX → Prop} (h : post ((nI N), eb, (nI P), (nI 7), (ag_f nm), (ag_f vr), sg, tc, (ag_f nv), (ag_f oc), og, (ag_f nc), (ag_f (ag_kc kd)), (ag_f lo), (ag_f ah), (ag_f (ag_kn kd)), (ag_f (ag_ko kd)), (ag_f (ag_D nt 7)))) : wpX_dropFirstNote post ((nI N), eb, (nI P), (nI 8), (ag_f nm), (ag_f vr), sg, tc, (ag_f nv), (ag_f oc), og, (ag_f nc), (ag_f (ag_kc kd)), (ag_f lo), (ag_f ah), (ag_f (ag_kn kd)), (ag_f (ag_ko kd)), (ag_f nt)) := by
  unfold wpX_dropFirstNote
  exact ⟨8, ag_Xdrop_go h 7 0 rfl⟩
theorem ag_Xnote {post : SX → Prop} (s : Nat) (hK : K ≤ 8) (h : post ((nI N), eb, (nI P), (nI (ag_nK K)), (ag_f nm), (ag_f vr), sg, tc, (ag_f nv), (ag_f oc), og, (ag_f nc), (ag_f (ag_kc kd)), (ag_f lo), (ag_f ah), (ag_f (ag_kn kd)), (ag_f (ag_ko kd)), (ag_f (ag_nN nt K s)))) : wpX_addNote post ((nI N), eb, (nI P), (nI K), (ag_f nm), (ag_f vr), sg, tc, (ag_f nv), (ag_f oc), og, (ag_f nc), (ag_f (ag_kc kd)), (ag_f lo), (ag_f ah), (ag_f (ag_kn kd)), (ag_f (ag_ko kd)), (ag_f nt)) (nI s) := by
  unfold wpX_addNote
  by_cases k8 : K < 8
  · refine br_t (nI_lt (b := 8) k8 (by decide)) ?_
    unfold wX_addNote_13
    refine ⟨pk_in K 8 k8, nm_r (by rw [nI_clamp (by omega), ag_fu]) (nm_r (nI_1 K) ?_)⟩
    unfold ag_nK ag_nN at h
    rw [if_pos k8, if_pos k8] at h
    exact h
  · obtain rfl : K = 8 := by omega
    refine br_f (nI_nlt (b := 8) (by omega) (by decide)) (ag_Xdrop ?_)
    unfold wX_addNote_13
    unfold ag_nK ag_nN at h
    rw [if_neg k8, if_neg k8] at h
    exact ⟨pk_in 7 8 (by omega), nm_r (by rw [nI_clamp (by omega), ag_fu]) (nm_r (nI_1 7) h)⟩
theorem ag_Xchange {post : Int32 → SX → Prop} (s : Nat) (hK : K ≤ 8) (h : post (nI (ag_sz (nI P ^^^ nI s))) ((nI N), eb, (nI s), (nI (ag_nK K)), (ag_f nm), (ag_f vr), sg, (ag_G (ag_c (nI P) (nI s)) (ag_sz (nI P ^^^ nI s)) 1 tc 20), (ag_f nv), (ag_f oc), og, (ag_f nc), (ag_f (ag_kc kd)), (ag_f lo), (ag_f ah), (ag_f (ag_kn kd)), (ag_f (ag_ko kd)), (ag_f (ag_nN nt K s)))) : wpX_changeTo post ((nI N), eb, (nI P), (nI K), (ag_f nm), (ag_f vr), sg, tc, (ag_f nv), (ag_f oc), og, (ag_f nc), (ag_f (ag_kc kd)), (ag_f lo), (ag_f ah), (ag_f (ag_kn kd)), (ag_f (ag_ko kd)), (ag_f nt)) (nI s) := by
  unfold wpX_changeTo
  have hz : ag_sz (nI P ^^^ nI s) ≤ 10 := ag_Cle _ 10
  exact ag_Xsize _ (ag_Xtouch (nI s) _ 1 (by omega) (ag_Xnote s hK h))
def ag_L (N : Nat) (nm vr : Nat → Nat) (a b : Nat) : Prop := ∃ j, j < N ∧ nm j = a ∧ vr j = b
theorem ag_Xlisted_go {post : Int32 → Prop} {a b : Nat} (ha : a < 100) (hb : b < 100) (hN : N ≤ 10) (hnm : ∀ j, nm j < 5) (hvr : ∀ j, vr j ≤ 9) (h : post (ag_v (ag_L N nm vr a b))) : ∀ d i : Nat, i + d = N → (∀ j, j < i → ¬ (nm j = a ∧ vr j = b)) → wX_isListed_2 post (nI a) (nI b) (nI N) eb (nI P) (nI K) (ag_f nm) (ag_f vr) sg tc (ag_f nv) (ag_f oc) og (ag_f nc) (ag_f (ag_kc kd)) (ag_f lo) (ag_f ah) (ag_f (ag_kn kd)) (ag_f (ag_ko kd)) (ag_f nt) (d + 1) (nI i) := by
  intro d
  induction d with
  | zero =>
    intro i hi hl
    exact br_t (nI_le (by omega) (by omega)) (ag_pf post h (fun ⟨j, h1, h2⟩ => hl j (by omega) h2))
  | succ d ih =>
    intro i hi hl
    have n1 := hnm i
    have n2 := hvr i
    have hi10 : vp_in (nI i) 10 := pk_in i 10 (by omega)
    have step : ¬ (nm i = a ∧ vr i = b) → wX_isListed_2 post (nI a) (nI b) (nI N) eb (nI P) (nI K) (ag_f nm) (ag_f vr) sg tc (ag_f nv) (ag_f oc) og (ag_f nc) (ag_f (ag_kc kd)) (ag_f lo) (ag_f ah) (ag_f (ag_kn kd)) (ag_f (ag_ko kd)) (ag_f nt) (d + 1) (nI (i + 1)) := fun hn => ih (i + 1) (by omega) (fun j hj => by
      by_cases e : j = i
      · rw [e]; exact hn
      · exact hl j (by omega))
    exact br_f (nI_ge (by omega) (by omega)) ⟨hi10, pk_eq (nm i) a (fun e1 => ⟨hi10, pk_eq (vr i) b (fun e2 => ag_pt post h ⟨i, by omega, e1, e2⟩) (fun e2 => nm_r (nI_1 i) (step fun z => e2 z.2)) (ag_at vr (by omega)) rfl⟩) (fun e1 => nm_r (nI_1 i) (step fun z => e1 z.1)) (ag_at nm (by omega)) rfl⟩
theorem ag_Xlisted {post : Int32 → Prop} {a b : Nat} (ha : a < 100) (hb : b < 100) (hN : N ≤ 10) (hnm : ∀ j, nm j < 5) (hvr : ∀ j, vr j ≤ 9) (h : post (ag_v (ag_L N nm vr a b))) : wpX_isListed post ((nI N), eb, (nI P), (nI K), (ag_f nm), (ag_f vr), sg, tc, (ag_f nv), (ag_f oc), og, (ag_f nc), (ag_f (ag_kc kd)), (ag_f lo), (ag_f ah), (ag_f (ag_kn kd)), (ag_f (ag_ko kd)), (ag_f nt)) (nI a) (nI b) := by
  unfold wpX_isListed
  exact ⟨N + 1, ag_Xlisted_go ha hb hN hnm hvr h N 0 (by omega) (fun j hj => absurd hj (by omega))⟩
theorem ag_Xgu_t {post : Int32 → Prop} {j : Nat} (hN : N ≤ 10) (hj : j < N) (h : post 1) : wpX_isGoodUnit post ((nI N), eb, (nI P), (nI K), (ag_f nm), (ag_f vr), sg, tc, (ag_f nv), (ag_f oc), og, (ag_f nc), (ag_f (ag_kc kd)), (ag_f lo), (ag_f ah), (ag_f (ag_kn kd)), (ag_f (ag_ko kd)), (ag_f nt)) (nI j) := by
  unfold wpX_isGoodUnit
  exact br_f (nI_pos (by omega)) (br_f (nI_ge hj (by omega)) h)
theorem ag_Xgu_f {post : Int32 → Prop} {x : Int32} (hx : x < 0 ∨ nI N ≤ x) (h : post 0) : wpX_isGoodUnit post ((nI N), eb, (nI P), (nI K), (ag_f nm), (ag_f vr), sg, tc, (ag_f nv), (ag_f oc), og, (ag_f nc), (ag_f (ag_kc kd)), (ag_f lo), (ag_f ah), (ag_f (ag_kn kd)), (ag_f (ag_ko kd)), (ag_f nt)) x := by
  unfold wpX_isGoodUnit
  exact br_c (fun _ => h) (fun z => br_c (fun _ => h) (fun y => absurd hx (fun w => w.elim z y)))
theorem ag_Xgn_t {post : Int32 → Prop} {j : Nat} (hK : K ≤ 8) (hj : j < K) (h : post 1) : wpX_isNote post ((nI N), eb, (nI P), (nI K), (ag_f nm), (ag_f vr), sg, tc, (ag_f nv), (ag_f oc), og, (ag_f nc), (ag_f (ag_kc kd)), (ag_f lo), (ag_f ah), (ag_f (ag_kn kd)), (ag_f (ag_ko kd)), (ag_f nt)) (nI j) := by
  unfold wpX_isNote
  exact br_f (nI_pos (by omega)) (br_f (nI_ge hj (by omega)) h)
theorem ag_Xgn_f {post : Int32 → Prop} {x : Int32} (hx : x < 0 ∨ nI K ≤ x) (h : post 0) : wpX_isNote post ((nI N), eb, (nI P), (nI K), (ag_f nm), (ag_f vr), sg, tc, (ag_f nv), (ag_f oc), og, (ag_f nc), (ag_f (ag_kc kd)), (ag_f lo), (ag_f ah), (ag_f (ag_kn kd)), (ag_f (ag_ko kd)), (ag_f nt)) x := by
  unfold wpX_isNote
  exact br_c (fun _ => h) (fun z => br_c (fun _ => h) (fun y => absurd hx (fun w => w.elim z y)))
theorem ag_Xgs_t {post : Int32 → Prop} {j : Nat} (hN : N ≤ 10) (hj : j < 2 ^ N) (h : post 1) : wpX_isGoodSet post ((nI N), eb, (nI P), (nI K), (ag_f nm), (ag_f vr), sg, tc, (ag_f nv), (ag_f oc), og, (ag_f nc), (ag_f (ag_kc kd)), (ag_f lo), (ag_f ah), (ag_f (ag_kn kd)), (ag_f (ag_ko kd)), (ag_f nt)) (nI j) := by
  have hE := ag_pw hN
  unfold wpX_isGoodSet
  exact br_f (nI_pos (by omega)) (br_f (by rw [ag_shl hN]; exact nI_ge hj (by omega)) h)
theorem ag_Xgs_f {post : Int32 → Prop} {x : Int32} (hN : N ≤ 10) (hx : x < 0 ∨ nI (2 ^ N) ≤ x) (h : post 0) : wpX_isGoodSet post ((nI N), eb, (nI P), (nI K), (ag_f nm), (ag_f vr), sg, tc, (ag_f nv), (ag_f oc), og, (ag_f nc), (ag_f (ag_kc kd)), (ag_f lo), (ag_f ah), (ag_f (ag_kn kd)), (ag_f (ag_ko kd)), (ag_f nt)) x := by
  unfold wpX_isGoodSet
  exact br_c (fun _ => h) (fun z => br_c (fun _ => h) (fun y => absurd hx (fun w => w.elim z (fun v => y (by rw [ag_shl hN]; exact v)))))
end
end
section
/-! the reference: helpers, soundness, price -/
def ag_F (N : Nat) (oc fd fv kd lo ah : Nat → Nat) (i j : Nat) : Prop := j / 3 < N ∧ j % 3 < oc (j / 3) ∧ fd j = ag_kc kd i ∧ lo i ≤ fv j ∧ fv j ≤ ah i
def ag_HB (N : Nat) (oc fd fv kd lo ah : Nat → Nat) (ae : Nat → Int32) (i n : Nat) : Prop := ∀ b, b < 32 → (bt (ae i) b = true ↔ ∃ j, j < n ∧ j / 3 = b ∧ ag_F N oc fd fv kd lo ah i j)
def ag_mx (nm vr : Nat → Nat) (c : Nat) : Nat → Nat
  | 0 => 0
  | i + 1 => if nm i = c then (if vr i ≤ ag_mx nm vr c i then ag_mx nm vr c i else vr i) else ag_mx nm vr c i
theorem ag_mx9 {nm vr : Nat → Nat} {c : Nat} (hvr : ∀ j, vr j ≤ 9) : ∀ i, ag_mx nm vr c i ≤ 9 := by
  intro i
  induction i with
  | zero => exact Nat.zero_le _
  | succ i ih =>
    have := hvr i
    rw [ag_mx]
    by_cases h1 : nm i = c
    · rw [if_pos h1]
      by_cases h2 : vr i ≤ ag_mx nm vr c i
      · rw [if_pos h2]; exact ih
      · rw [if_neg h2]; exact this
    · rw [if_neg h1]; exact ih
section
variable {N P K : Nat} {eb : Int32} {nm vr nv oc nc kd lo ah nt fd fv hs : Nat → Nat} {sg tc og ae : Nat → Int32}
theorem ag_d3 {j : Nat} (h : j < 30) : nI j / 3 = nI (j / 3) := pk_div (a := j) (d := 3) (by omega) (by decide) (by decide)
theorem ag_m3 {j : Nat} (h : j < 30) : nI j - nI j / 3 * 3 = nI (j % 3) := pk_rem (a := j) (d := 3) (by omega) (by decide) (by decide)
theorem ag_m8 {j : Nat} (h : j < 64) : nI j - nI j / 8 * 8 = nI (j % 8) := pk_rem (a := j) (d := 8) (by omega) (by decide) (by decide)
theorem ag_m4 {j : Nat} (h : j < 64) : nI j / 8 - nI j / 8 / 4 * 4 = nI (j / 8 % 4) := by
  rw [show nI j / 8 = nI (j / 8) from pk_div (a := j) (d := 8) (by omega) (by decide) (by decide)]
  exact pk_rem (a := j / 8) (d := 4) (by omega) (by decide) (by decide)
theorem ag_Y52 {post : SY → Prop} {J2 J17 : Int32 → (Nat → Int32) → (Nat → Int32) → (Nat → Int32) → (Nat → Int32) → (Nat → Int32) → (Nat → Int32) → (Nat → Int32) → (Nat → Int32) → (Nat → Int32) → (Nat → Int32) → (Nat → Int32) → (Nat → Int32) → (Nat → Int32) → Prop} {i j : Nat} {z : Int32} (hi : i < 30) (hj : j < 30) (hkd : ∀ j, kd j < 64 ∧ kd j % 8 ≤ 5) (hlo : ∀ j, lo j ≤ 9) (hah : ∀ j, ah j ≤ 9) (hfd : ∀ j, fd j ≤ 5) (hfv : ∀ j, fv j ≤ 9) (hk : z = 0 ∨ ¬ (fd j = ag_kc kd i ∧ lo i ≤ fv j ∧ fv j ≤ ah i) → J17 (nI (j + 1)) (ag_f nm) (ag_f vr) sg (ag_f oc) (ag_f fd) (ag_f fv) (ag_f nc) (ag_f kd) (ag_f lo) (ag_f ah) ae (ag_f hs) tc) (ha : ¬ z = 0 → (fd j = ag_kc kd i ∧ lo i ≤ fv j ∧ fv j ≤ ah i) → J17 (nI (j + 1)) (ag_f nm) (ag_f vr) sg (ag_f oc) (ag_f fd) (ag_f fv) (ag_f nc) (ag_f kd) (ag_f lo) (ag_f ah) (upd ae i (ae i ||| ((1 : Int32) <<< (nI (j / 3) &&& 31)))) (ag_f hs) tc) : wY_look_52 post J2 J17 (nI i) (nI j) z (nI N) eb (nI P) (nI K) (ag_f nm) (ag_f vr) sg (ag_f oc) (ag_f fd) (ag_f fv) (ag_f nc) (ag_f kd) (ag_f lo) (ag_f ah) ae (ag_f hs) tc := by
  unfold wY_look_52
  have hi30 : vp_in (nI i) 30 := pk_in i 30 hi
  have hj30 : vp_in (nI j) 30 := pk_in j 30 hj
  have b1 := (hkd i).1
  have b2 := (hkd i).2
  have b3 := hlo i
  have b4 := hah i
  have b5 := hfd j
  have b6 := hfv j
  have no : ¬ (fd j = ag_kc kd i ∧ lo i ≤ fv j ∧ fv j ≤ ah i) → wY_look_105 post J2 J17 (nI i) (nI j) z (nI N) eb (nI P) (nI K) (ag_f nm) (ag_f vr) sg (ag_f oc) (ag_f fd) (ag_f fv) (ag_f nc) (ag_f kd) (ag_f lo) (ag_f ah) ae (ag_f hs) tc := fun hn => by
    unfold wY_look_105 wY_look_106
    exact br_c (fun _ => nm_r (nI_1 j) (hk (Or.inr hn))) (fun _ => br_t rfl (nm_r (nI_1 j) (hk (Or.inr hn))))
  have bk : ag_kc kd i < 2 ^ 31 := by unfold ag_kc; omega
  refine ⟨hj30, hi30, by decide, pk_eq (fd j) (ag_kc kd i) (fun e1 => ⟨hj30, hi30, ?_⟩) (fun e1 => no fun y => e1 y.1) (ag_at fd (by omega)) (by rw [ag_at kd (by omega), ag_m8 b1]; rfl) (by omega) bk⟩
  refine pk_lt (fv j) (lo i) (fun e2 => no fun y => by omega) (fun e2 => ⟨hj30, hi30, ?_⟩) (ag_at fv (by omega)) (ag_at lo (by omega))
  refine pk_lt (ah i) (fv j) (fun e3 => no fun y => by omega) (fun e3 => ?_) (ag_at ah (by omega)) (ag_at fv (by omega))
  unfold wY_look_106
  refine br_c (fun z0 => nm_r (nI_1 j) (hk (Or.inl z0))) (fun z0 => br_f (by decide) ⟨hi30, by decide, hi30, nm_r ?_ (nm_r (nI_1 j) (ha z0 ⟨e1, e2, e3⟩))⟩)
  rw [nI_clamp (by omega), ag_d3 hj]
theorem ag_Y17_go {post : SY → Prop} {J2 : Int32 → (Nat → Int32) → (Nat → Int32) → (Nat → Int32) → (Nat → Int32) → (Nat → Int32) → (Nat → Int32) → (Nat → Int32) → (Nat → Int32) → (Nat → Int32) → (Nat → Int32) → (Nat → Int32) → (Nat → Int32) → (Nat → Int32) → Prop} {i : Nat} (hi : i < 30) (hN : N ≤ 10) (hoc : ∀ j, oc j ≤ 3) (hkd : ∀ j, kd j < 64 ∧ kd j % 8 ≤ 5) (hlo : ∀ j, lo j ≤ 9) (hah : ∀ j, ah j ≤ 9) (hfd : ∀ j, fd j ≤ 5) (hfv : ∀ j, fv j ≤ 9) (hJ : ∀ ae : Nat → Int32, (∀ k, k < i + 1 → ag_HB N oc fd fv kd lo ah ae k 30) → J2 (nI (i + 1)) (ag_f nm) (ag_f vr) sg (ag_f oc) (ag_f fd) (ag_f fv) (ag_f nc) (ag_f kd) (ag_f lo) (ag_f ah) ae (ag_f hs) tc) : ∀ (d j : Nat) (ae : Nat → Int32), j + d = 30 → (∀ k, k < i → ag_HB N oc fd fv kd lo ah ae k 30) → ag_HB N oc fd fv kd lo ah ae i j → wY_look_17 post J2 (nI i) (nI N) eb (nI P) (nI K) (d + 1) (nI j) (ag_f nm) (ag_f vr) sg (ag_f oc) (ag_f fd) (ag_f fv) (ag_f nc) (ag_f kd) (ag_f lo) (ag_f ah) ae (ag_f hs) tc := by
  intro d
  induction d with
  | zero =>
    intro j ae hj h1 h2
    obtain rfl : j = 30 := by omega
    refine br_t (nI_le (a := 30) (b := 30) (by omega) (by omega)) (nm_r (nI_1 i) (hJ ae (fun k hk => ?_)))
    by_cases e : k = i
    · rw [e]; exact h2
    · exact h1 k (by omega)
  | succ d ih =>
    intro j ae hj h1 h2
    have hj30 : j < 30 := by omega
    have o3 := hoc (j / 3)
    have keep : ¬ ag_F N oc fd fv kd lo ah i j → wY_look_17 post J2 (nI i) (nI N) eb (nI P) (nI K) (d + 1) (nI (j + 1)) (ag_f nm) (ag_f vr) sg (ag_f oc) (ag_f fd) (ag_f fv) (ag_f nc) (ag_f kd) (ag_f lo) (ag_f ah) ae (ag_f hs) tc := fun hn => ih (j + 1) ae (by omega) h1 (fun b hb => by
      rw [h2 b hb]
      exact ⟨fun ⟨k, a1, a2, a3⟩ => ⟨k, by omega, a2, a3⟩, fun ⟨k, a1, a2, a3⟩ => ⟨k, by
        by_cases e : k = j
        · rw [e] at a3; exact absurd a3 hn
        · omega, a2, a3⟩⟩)
    have add : ag_F N oc fd fv kd lo ah i j → wY_look_17 post J2 (nI i) (nI N) eb (nI P) (nI K) (d + 1) (nI (j + 1)) (ag_f nm) (ag_f vr) sg (ag_f oc) (ag_f fd) (ag_f fv) (ag_f nc) (ag_f kd) (ag_f lo) (ag_f ah) (upd ae i (ae i ||| ((1 : Int32) <<< (nI (j / 3) &&& 31)))) (ag_f hs) tc := fun hn => by
      have hN3 : j / 3 < 10 := by have := hn.1; omega
      refine ih (j + 1) (upd ae i (ae i ||| ((1 : Int32) <<< (nI (j / 3) &&& 31)))) (by omega) (fun k hk b hb => ?_) (fun b hb => ?_)
      · rw [pk_un (by omega)]
        exact h1 k hk b hb
      · rw [pk_us, b_or, ag_one hN3 hb]
        constructor
        · intro z
          by_cases e : j / 3 = b
          · exact ⟨j, by omega, e, hn⟩
          · rw [decide_eq_false e, Bool.or_false] at z
            obtain ⟨k, a1, a2, a3⟩ := (h2 b hb).mp z
            exact ⟨k, by omega, a2, a3⟩
        · rintro ⟨k, a1, a2, a3⟩
          by_cases e : k = j
          · rw [decide_eq_true (by rw [← e]; exact a2), Bool.or_true]
          · rw [(h2 b hb).mpr ⟨k, by omega, a2, a3⟩, Bool.true_or]
    have no : ¬ (j / 3 < N ∧ j % 3 < oc (j / 3)) → wY_look_51 post J2 (wY_look_17 post J2 (nI i) (nI N) eb (nI P) (nI K) (d + 1)) (nI i) (nI j) (nI N) eb (nI P) (nI K) (ag_f nm) (ag_f vr) sg (ag_f oc) (ag_f fd) (ag_f fv) (ag_f nc) (ag_f kd) (ag_f lo) (ag_f ah) ae (ag_f hs) tc := fun hn => by
      unfold wY_look_51
      exact ag_Y52 hi hj30 hkd hlo hah hfd hfv (fun _ => keep fun y => hn ⟨y.1, y.2.1⟩) (fun z => absurd rfl z)
    refine br_f (nI_ge (b := 30) (by omega) (by decide)) ⟨by decide, pk_le N (j / 3) (fun e => no fun y => by omega) (fun e => ⟨by decide, by decide, pk_in (j / 3) 10 (by omega) (ag_d3 hj30), ?_⟩) rfl (ag_d3 hj30)⟩
    refine pk_le (oc (j / 3)) (j % 3) (fun e2 => no fun y => by omega) (fun e2 => ?_) (by rw [ag_d3 hj30, ag_at oc (by omega)]) (ag_m3 hj30)
    exact ag_Y52 hi hj30 hkd hlo hah hfd hfv (fun y => keep fun z => y.elim (fun y => absurd y (by decide)) (fun y => y z.2.2)) (fun _ y => add ⟨e, e2, y⟩)
theorem ag_Y2_go {post : SY → Prop} (hN : N ≤ 10) (hoc : ∀ j, oc j ≤ 3) (hkd : ∀ j, kd j < 64 ∧ kd j % 8 ≤ 5) (hlo : ∀ j, lo j ≤ 9) (hah : ∀ j, ah j ≤ 9) (hfd : ∀ j, fd j ≤ 5) (hfv : ∀ j, fv j ≤ 9) (h : ∀ ae : Nat → Int32, (∀ k, k < 30 → ag_HB N oc fd fv kd lo ah ae k 30) → post ((nI N), eb, (nI P), (nI K), (ag_f nm), (ag_f vr), sg, (ag_f oc), (ag_f fd), (ag_f fv), (ag_f nc), (ag_f kd), (ag_f lo), (ag_f ah), ae, (ag_f hs), tc)) : ∀ (d i : Nat) (ae : Nat → Int32), i + d = 30 → (∀ k, k < i → ag_HB N oc fd fv kd lo ah ae k 30) → wY_look_2 post (nI N) eb (nI P) (nI K) (d + 1) (nI i) (ag_f nm) (ag_f vr) sg (ag_f oc) (ag_f fd) (ag_f fv) (ag_f nc) (ag_f kd) (ag_f lo) (ag_f ah) ae (ag_f hs) tc := by
  intro d
  induction d with
  | zero =>
    intro i ae hi h1
    obtain rfl : i = 30 := by omega
    exact br_t (nI_le (a := 30) (b := 30) (by omega) (by omega)) (h ae h1)
  | succ d ih =>
    intro i ae hi h1
    refine br_f (nI_ge (b := 30) (by omega) (by decide)) ⟨pk_in i 30 (by omega), nm_r (by rw [nI_clamp (by omega)]) ⟨31, ag_Y17_go (by omega) hN hoc hkd hlo hah hfd hfv (fun ae' h' => ih (i + 1) ae' (by omega) h') 30 0 (upd ae i 0) rfl (fun k hk b hb => ?_) (fun b hb => ?_)⟩⟩
    · rw [pk_un (by omega)]
      exact h1 k hk b hb
    · rw [pk_us, b_0]
      exact ⟨fun z => absurd z (by decide), fun ⟨k, a1, _⟩ => absurd a1 (by omega)⟩
theorem ag_Ylook {post : SY → Prop} (hN : N ≤ 10) (hoc : ∀ j, oc j ≤ 3) (hkd : ∀ j, kd j < 64 ∧ kd j % 8 ≤ 5) (hlo : ∀ j, lo j ≤ 9) (hah : ∀ j, ah j ≤ 9) (hfd : ∀ j, fd j ≤ 5) (hfv : ∀ j, fv j ≤ 9) (h : ∀ ae : Nat → Int32, (∀ k, k < 30 → ag_HB N oc fd fv kd lo ah ae k 30) → post ((nI N), eb, (nI P), (nI K), (ag_f nm), (ag_f vr), sg, (ag_f oc), (ag_f fd), (ag_f fv), (ag_f nc), (ag_f kd), (ag_f lo), (ag_f ah), ae, (ag_f hs), tc)) : wpY_look post ((nI N), eb, (nI P), (nI K), (ag_f nm), (ag_f vr), sg, (ag_f oc), (ag_f fd), (ag_f fv), (ag_f nc), (ag_f kd), (ag_f lo), (ag_f ah), ae, (ag_f hs), tc) := by
  unfold wpY_look
  exact ⟨31, ag_Y2_go hN hoc hkd hlo hah hfd hfv h 30 0 ae rfl (fun k hk => absurd hk (by omega))⟩
def ag_YA (N : Nat) (eb : Int32) (nc kd : Nat → Nat) (p : Nat) : Prop := p / 3 < N ∧ p % 3 < nc (p / 3) ∧ ag_AP eb kd p
theorem ag_Yapplies {post : Int32 → Prop} {i : Nat} (hi : i < 30) (hN : N ≤ 10) (hnc : ∀ j, nc j ≤ 3) (hkd : ∀ j, kd j < 64 ∧ kd j % 8 ≤ 5) (h : post (ag_v (ag_YA N eb nc kd i))) : wpY_applies post ((nI N), eb, (nI P), (nI K), (ag_f nm), (ag_f vr), sg, (ag_f oc), (ag_f fd), (ag_f fv), (ag_f nc), (ag_f kd), (ag_f lo), (ag_f ah), ae, (ag_f hs), tc) (nI i) := by
  unfold wpY_applies
  have n3 := hnc (i / 3)
  refine ⟨by decide, pk_le N (i / 3) (fun e => ag_pf post h (fun z => by have := z.1; omega)) (fun e => ⟨by decide, by decide, pk_in (i / 3) 10 (by omega) (ag_d3 hi), ?_⟩) rfl (ag_d3 hi)⟩
  refine pk_lt (i % 3) (nc (i / 3)) (fun e2 => ⟨pk_in i 30 hi, by decide, by decide, nm_r (by rw [ag_at kd (by omega), ag_m4 (hkd i).1]; rfl) (ag_ap (c := ag_kn kd i) (ag_kn4 i) ?_)⟩) (fun e2 => ag_pf post h (fun z => by have := z.2.1; omega)) (ag_m3 hi) (by rw [ag_d3 hi, ag_at nc (by omega)])
  rw [ag_vi (show ag_YA N eb nc kd i ↔ (ag_kn kd i = 0 ∨ bt eb (ag_kn kd i - 1) = true) from ⟨fun z => z.2.2, fun z => ⟨e, e2, z⟩⟩)] at h
  exact h
/-- a place unmet in the eyes of the reference, but for its sort -/
def ag_UY (N : Nat) (eb : Int32) (nc kd : Nat → Nat) (ae : Nat → Int32) (s : Int32) (p : Nat) : Prop := bt s (p / 3) = true ∧ (s &&& ae p) = 0 ∧ ag_YA N eb nc kd p
def ag_PR (nm : Nat → Nat) (sg : Nat → Int32) (s : Int32) (u w : Nat) : Prop := bt s u = true ∧ bt s w = true ∧ nm u = nm w ∧ ¬ (sg u = 0 ∧ sg w = 0)
def ag_YS (N : Nat) (eb : Int32) (nm : Nat → Nat) (sg : Nat → Int32) (nc kd : Nat → Nat) (ae : Nat → Int32) (s : Int32) : Prop := (∀ p, p < 30 → ¬ (kd p < 32 ∧ ag_UY N eb nc kd ae s p)) ∧ (∀ u, u < N → ∀ w, w < u → ¬ ag_PR nm sg s u w)
theorem ag_Y85_go {post : Int32 → Prop} {J69 : Int32 → Prop} (s : Int32) {u : Nat} (hu : u < 10) (hnm : ∀ j, nm j < 5) (hJ : (∀ w, w < u → ¬ ag_PR nm sg s u w) → J69 (nI (u + 1))) (hb : ∀ w, w < u → ag_PR nm sg s u w → post 0) : ∀ d w : Nat, w + d = u → (∀ x, x < w → ¬ ag_PR nm sg s u x) → wY_isSound_85 post J69 s (nI u) (nI N) eb (nI P) (nI K) (ag_f nm) (ag_f vr) sg (ag_f oc) (ag_f fd) (ag_f fv) (ag_f nc) (ag_f kd) (ag_f lo) (ag_f ah) ae (ag_f hs) tc (d + 1) (nI w) := by
  intro d
  induction d with
  | zero =>
    intro w hw hl
    obtain rfl : w = u := by omega
    exact br_t (nI_le (by omega) (by omega)) (nm_r (nI_1 w) (hJ hl))
  | succ d ih =>
    intro w hw hl
    have n1 := hnm u
    have n2 := hnm w
    have step : ¬ ag_PR nm sg s u w → wY_isSound_85 post J69 s (nI u) (nI N) eb (nI P) (nI K) (ag_f nm) (ag_f vr) sg (ag_f oc) (ag_f fd) (ag_f fv) (ag_f nc) (ag_f kd) (ag_f lo) (ag_f ah) ae (ag_f hs) tc (d + 1) (nI (w + 1)) := fun hn => ih (w + 1) (by omega) (fun x hx => by
      by_cases e : x = w
      · rw [e]; exact hn
      · exact hl x (by omega))
    have hu10 : vp_in (nI u) 10 := pk_in u 10 (by omega)
    have hw10 : vp_in (nI w) 10 := pk_in w 10 (by omega)
    refine br_f (nI_ge (by omega) (by omega)) (ag_Yin _ s (by omega) (ag_br (fun b1 => ag_Yin _ s (by omega) (ag_br (fun b2 => ⟨hu10, hw10, ?_⟩) (fun b2 => nm_r (nI_1 w) (step fun z => b2 z.2.1)))) (fun b1 => nm_r (nI_1 w) (step fun z => b1 z.1))))
    refine pk_eq (nm u) (nm w) (fun e => ⟨hu10, ?_⟩) (fun e => nm_r (nI_1 w) (step fun z => e z.2.2.1)) (ag_at nm (by omega)) (ag_at nm (by omega))
    rw [nI_clamp (n := u) (by omega), nI_clamp (n := w) (by omega)]
    exact br_c (fun z1 => ⟨hw10, br_c (fun z2 => nm_r (nI_1 w) (step fun z => z.2.2.2 ⟨z1, z2⟩)) (fun z2 => hb w (by omega) ⟨b1, b2, e, fun z => z2 z.2⟩)⟩) (fun z1 => hb w (by omega) ⟨b1, b2, e, fun z => z1 z.1⟩)
theorem ag_Y69_go {post : Int32 → Prop} (s : Int32) (hN : N ≤ 10) (hnm : ∀ j, nm j < 5) (h1 : (∀ u, u < N → ∀ w, w < u → ¬ ag_PR nm sg s u w) → post 1) (h0 : ∀ u w, u < N → w < u → ag_PR nm sg s u w → post 0) : ∀ d u : Nat, u + d = N → (∀ x, x < u → ∀ w, w < x → ¬ ag_PR nm sg s x w) → wY_isSound_69 post s (nI N) eb (nI P) (nI K) (ag_f nm) (ag_f vr) sg (ag_f oc) (ag_f fd) (ag_f fv) (ag_f nc) (ag_f kd) (ag_f lo) (ag_f ah) ae (ag_f hs) tc (d + 1) (nI u) := by
  intro d
  induction d with
  | zero =>
    intro u hu hl
    obtain rfl : u = N := by omega
    exact br_t (nI_le (by omega) (by omega)) (h1 hl)
  | succ d ih =>
    intro u hu hl
    refine br_f (nI_ge (by omega) (by omega)) (br_f (nI_ge (b := 10) (by omega) (by decide)) ⟨u + 1, ag_Y85_go s (by omega) hnm (fun hn => ih (u + 1) (by omega) (fun x hx => ?_)) (fun w hw hp => h0 u w (by omega) hw hp) u 0 (by omega) (fun x hx => absurd hx (by omega))⟩)
    by_cases e : x = u
    · rw [e]; exact hn
    · exact hl x (by omega)
theorem ag_Ys2_go {post : Int32 → Prop} (s : Int32) (hN : N ≤ 10) (hnm : ∀ j, nm j < 5) (hnc : ∀ j, nc j ≤ 3) (hkd : ∀ j, kd j < 64 ∧ kd j % 8 ≤ 5) (h : post (ag_v (ag_YS N eb nm sg nc kd ae s))) : ∀ d p : Nat, p + d = 30 → (∀ x, x < p → ¬ (kd x < 32 ∧ ag_UY N eb nc kd ae s x)) → wY_isSound_2 post s (nI N) eb (nI P) (nI K) (ag_f nm) (ag_f vr) sg (ag_f oc) (ag_f fd) (ag_f fv) (ag_f nc) (ag_f kd) (ag_f lo) (ag_f ah) ae (ag_f hs) tc (d + 1) (nI p) := by
  intro d
  induction d with
  | zero =>
    intro p hp hl
    obtain rfl : p = 30 := by omega
    exact br_t (nI_le (a := 30) (b := 30) (by omega) (by omega)) ⟨N + 1, ag_Y69_go s hN hnm (fun hn => ag_pt post h ⟨hl, hn⟩) (fun u w hu hw hq => ag_pf post h (fun z => z.2 u hu w hw hq)) N 0 (by omega) (fun x hx => absurd hx (by omega))⟩
  | succ d ih =>
    intro p hp hl
    have hp30 : p < 30 := by omega
    have k1 := (hkd p).1
    have hv : vp_in (nI p) 30 := pk_in p 30 hp30
    have step : ¬ (kd p < 32 ∧ ag_UY N eb nc kd ae s p) → wY_isSound_2 post s (nI N) eb (nI P) (nI K) (ag_f nm) (ag_f vr) sg (ag_f oc) (ag_f fd) (ag_f fv) (ag_f nc) (ag_f kd) (ag_f lo) (ag_f ah) ae (ag_f hs) tc (d + 1) (nI (p + 1)) := fun hn => ih (p + 1) (by omega) (fun x hx => by
      by_cases e : x = p
      · rw [e]; exact hn
      · exact hl x (by omega))
    have no : ¬ (kd p < 32 ∧ ag_UY N eb nc kd ae s p) → wY_isSound_45 post (wY_isSound_2 post s (nI N) eb (nI P) (nI K) (ag_f nm) (ag_f vr) sg (ag_f oc) (ag_f fd) (ag_f fv) (ag_f nc) (ag_f kd) (ag_f lo) (ag_f ah) ae (ag_f hs) tc (d + 1)) s (nI p) (nI N) eb (nI P) (nI K) (ag_f nm) (ag_f vr) sg (ag_f oc) (ag_f fd) (ag_f fv) (ag_f nc) (ag_f kd) (ag_f lo) (ag_f ah) ae (ag_f hs) tc := fun hn => by
      unfold wY_isSound_45 wY_isSound_46
      exact br_t rfl (nm_r (nI_1 p) (step hn))
    refine br_f (nI_ge (b := 30) (by omega) (by decide)) ⟨by decide, ?_⟩
    rw [ag_d3 hp30]
    refine ag_Yin _ s (by omega) (ag_br (fun b1 => ⟨hv, pk_le 32 (kd p) (fun e => no fun z => by omega) (fun e => ⟨hv, ?_⟩) rfl (ag_at kd (by omega))⟩) (fun b1 => no fun z => b1 z.2.1))
    rw [nI_clamp (by omega)]
    refine br_c (fun m => ?_) (fun m => no fun z => m z.2.2.1)
    unfold wY_isSound_46
    exact br_f (by decide) (ag_Yapplies hp30 hN hnc hkd (ag_br (fun a => ag_pf post h (fun z => z.1 p hp30 ⟨e, b1, m, a⟩)) (fun a => nm_r (nI_1 p) (step fun z => a z.2.2.2))))
theorem ag_Ysound {post : Int32 → Prop} (s : Int32) (hN : N ≤ 10) (hnm : ∀ j, nm j < 5) (hnc : ∀ j, nc j ≤ 3) (hkd : ∀ j, kd j < 64 ∧ kd j % 8 ≤ 5) (h : post (ag_v (ag_YS N eb nm sg nc kd ae s))) : wpY_isSound post ((nI N), eb, (nI P), (nI K), (ag_f nm), (ag_f vr), sg, (ag_f oc), (ag_f fd), (ag_f fv), (ag_f nc), (ag_f kd), (ag_f lo), (ag_f ah), ae, (ag_f hs), tc) s := by
  unfold wpY_isSound
  exact ⟨31, ag_Ys2_go s hN hnm hnc hkd h 30 0 rfl (fun x hx => absurd hx (by omega))⟩
theorem ag_Ynew_go {post : Int32 → Prop} {u : Nat} (hu : u < N) (hN : N ≤ 10) (hnm : ∀ j, nm j < 5) (hvr : ∀ j, vr j ≤ 9) (h : post (nI (ag_mx nm vr (nm u) N))) : ∀ d i : Nat, i + d = N → wY_newest_4 post (nI u) (nI N) eb (nI P) (nI K) (ag_f nm) (ag_f vr) sg (ag_f oc) (ag_f fd) (ag_f fv) (ag_f nc) (ag_f kd) (ag_f lo) (ag_f ah) ae (ag_f hs) tc (d + 1) (nI (ag_mx nm vr (nm u) i)) (nI i) := by
  intro d
  induction d with
  | zero =>
    intro i hi
    obtain rfl : i = N := by omega
    exact br_t (nI_le (by omega) (by omega)) h
  | succ d ih =>
    intro i hi
    have n1 := hnm i
    have n2 := hnm u
    have n3 := hvr i
    have n4 := ag_mx9 (nm := nm) (c := nm u) hvr i
    have g := ih (i + 1) (by omega)
    have hi10 : vp_in (nI i) 10 := pk_in i 10 (by omega)
    have hu10 : vp_in (nI u) 10 := pk_in u 10 (by omega)
    refine br_f (nI_ge (by omega) (by omega)) (br_f (nI_ge (b := 10) (by omega) (by decide)) ⟨hi10, hu10, pk_eq (nm i) (nm u) (fun e => ⟨hi10, pk_le (vr i) (ag_mx nm vr (nm u) i) (fun e2 => nm_r (nI_1 i) ?_) (fun e2 => ⟨hi10, nm_r (ag_at vr (by omega)) (nm_r (nI_1 i) ?_)⟩) (ag_at vr (by omega)) rfl⟩) (fun e => nm_r (nI_1 i) ?_) (ag_at nm (by omega)) (ag_at nm (by omega))⟩)
    · rw [ag_mx, if_pos e, if_pos e2] at g
      exact g
    · rw [ag_mx, if_pos e, if_neg (by omega)] at g
      exact g
    · rw [ag_mx, if_neg e] at g
      exact g
theorem ag_Ynew {post : Int32 → Prop} {u : Nat} (hu : u < N) (hN : N ≤ 10) (hnm : ∀ j, nm j < 5) (hvr : ∀ j, vr j ≤ 9) (h : post (nI (ag_mx nm vr (nm u) N))) : wpY_newest post ((nI N), eb, (nI P), (nI K), (ag_f nm), (ag_f vr), sg, (ag_f oc), (ag_f fd), (ag_f fv), (ag_f nc), (ag_f kd), (ag_f lo), (ag_f ah), ae, (ag_f hs), tc) (nI u) := by
  unfold wpY_newest
  exact ⟨N + 1, ag_Ynew_go hu hN hnm hvr h N 0 (by omega)⟩
noncomputable def ag_YN (N : Nat) (nm vr : Nat → Nat) (s : Int32) (u : Nat) : Int32 := if bt s u = true then nI (ag_mx nm vr (nm u) N) - nI (vr u) else 0
noncomputable def ag_Y5 (p s : Int32) (u : Nat) : Int32 := if bt s u = true ∧ ¬ bt p u = true then 5 else 0
noncomputable def ag_Y3 (p s : Int32) (u : Nat) : Int32 := if bt p u = true ∧ ¬ bt s u = true then 3 else 0
noncomputable def ag_YW (N : Nat) (nm vr : Nat → Nat) (p s : Int32) (u : Nat) : Int32 := ag_Y5 p s u + ag_Y3 p s u + ag_YN N nm vr s u
noncomputable def ag_YG (N : Nat) (eb : Int32) (nc kd : Nat → Nat) (ae : Nat → Int32) (s : Int32) (p : Nat) : Int32 := 2 * ag_v (31 < kd p ∧ ag_UY N eb nc kd ae s p)
theorem ag_Y66 {post : Int32 → Prop} {J4 : Int32 → Int32 → Prop} (s x : Int32) {u : Nat} (hu : u < N) (hN : N ≤ 10) (hnm : ∀ j, nm j < 5) (hvr : ∀ j, vr j ≤ 9) (h : J4 (x + ag_YN N nm vr s u) (nI (u + 1))) : wY_price_66 post J4 s x (nI u) (nI N) eb (nI P) (nI K) (ag_f nm) (ag_f vr) sg (ag_f oc) (ag_f fd) (ag_f fv) (ag_f nc) (ag_f kd) (ag_f lo) (ag_f ah) ae (ag_f hs) tc := by
  unfold wY_price_66
  refine ag_Yin _ s (by omega) (ag_br (fun b => ag_Ynew hu hN hnm hvr ⟨pk_in u 10 (by omega), nm_r ?_ (nm_r (nI_1 u) h)⟩) (fun b => nm_r (nI_1 u) ?_))
  · rw [ag_at vr (by omega), show ag_YN N nm vr s u = _ from if_pos b]
  · rw [show ag_YN N nm vr s u = 0 from if_neg b, Int32.add_zero] at h
    exact h
theorem ag_Y42 {post : Int32 → Prop} {J4 : Int32 → Int32 → Prop} (s x : Int32) {u : Nat} (hu : u < N) (hN : N ≤ 10) (hnm : ∀ j, nm j < 5) (hvr : ∀ j, vr j ≤ 9) (h : J4 (x + ag_Y3 (nI P) s u + ag_YN N nm vr s u) (nI (u + 1))) : wY_price_42 post J4 s x (nI u) (nI N) eb (nI P) (nI K) (ag_f nm) (ag_f vr) sg (ag_f oc) (ag_f fd) (ag_f fv) (ag_f nc) (ag_f kd) (ag_f lo) (ag_f ah) ae (ag_f hs) tc := by
  unfold wY_price_42
  refine ag_Yin _ (nI P) (by omega) (ag_br (fun b => ag_Yin _ s (by omega) (ag_br (fun c => ?_) (fun c => nm_e ?_))) (fun b => ?_))
  · rw [show ag_Y3 (nI P) s u = 0 from if_neg (fun z => z.2 c), Int32.add_zero] at h
    exact ag_Y66 s x hu hN hnm hvr h
  · rw [show ag_Y3 (nI P) s u = 3 from if_pos ⟨b, c⟩] at h
    exact ag_Y66 s _ hu hN hnm hvr h
  · rw [show ag_Y3 (nI P) s u = 0 from if_neg (fun z => b z.1), Int32.add_zero] at h
    exact ag_Y66 s x hu hN hnm hvr h
theorem ag_Y98_go {post : Int32 → Prop} (s c0 : Int32) (hN : N ≤ 10) (hnc : ∀ j, nc j ≤ 3) (hkd : ∀ j, kd j < 64 ∧ kd j % 8 ≤ 5) (h : post (c0 + ag_S (ag_YG N eb nc kd ae s) 30)) : ∀ d p : Nat, p + d = 30 → wY_price_98 post s (nI N) eb (nI P) (nI K) (ag_f nm) (ag_f vr) sg (ag_f oc) (ag_f fd) (ag_f fv) (ag_f nc) (ag_f kd) (ag_f lo) (ag_f ah) ae (ag_f hs) tc (d + 1) (c0 + ag_S (ag_YG N eb nc kd ae s) p) (nI p) := by
  intro d
  induction d with
  | zero =>
    intro p hp
    obtain rfl : p = 30 := by omega
    exact br_t (nI_le (a := 30) (b := 30) (by omega) (by omega)) h
  | succ d ih =>
    intro p hp
    have hp30 : p < 30 := by omega
    have k1 := (hkd p).1
    have hv : vp_in (nI p) 30 := pk_in p 30 hp30
    have g := ih (p + 1) (by omega)
    have es : ag_S (ag_YG N eb nc kd ae s) (p + 1) = ag_S (ag_YG N eb nc kd ae s) p + 2 * ag_v (31 < kd p ∧ ag_UY N eb nc kd ae s p) := rfl
    have keep : ¬ (31 < kd p ∧ ag_UY N eb nc kd ae s p) → wY_price_98 post s (nI N) eb (nI P) (nI K) (ag_f nm) (ag_f vr) sg (ag_f oc) (ag_f fd) (ag_f fv) (ag_f nc) (ag_f kd) (ag_f lo) (ag_f ah) ae (ag_f hs) tc (d + 1) (c0 + ag_S (ag_YG N eb nc kd ae s) p) (nI (p + 1)) := fun hn => by
      rw [es, ag_vf hn, Int32.mul_zero, Int32.add_zero] at g
      exact g
    have no : ¬ (31 < kd p ∧ ag_UY N eb nc kd ae s p) → wY_price_141 post (wY_price_98 post s (nI N) eb (nI P) (nI K) (ag_f nm) (ag_f vr) sg (ag_f oc) (ag_f fd) (ag_f fv) (ag_f nc) (ag_f kd) (ag_f lo) (ag_f ah) ae (ag_f hs) tc (d + 1)) s (c0 + ag_S (ag_YG N eb nc kd ae s) p) (nI p) (nI N) eb (nI P) (nI K) (ag_f nm) (ag_f vr) sg (ag_f oc) (ag_f fd) (ag_f fv) (ag_f nc) (ag_f kd) (ag_f lo) (ag_f ah) ae (ag_f hs) tc := fun hn => by
      unfold wY_price_141 wY_price_142
      exact br_t rfl (nm_r (nI_1 p) (keep hn))
    refine br_f (nI_ge (b := 30) (by omega) (by decide)) ⟨by decide, ?_⟩
    rw [ag_d3 hp30]
    refine ag_Yin _ s (by omega) (ag_br (fun b1 => ⟨hv, pk_le (kd p) 31 (fun e => no fun z => by omega) (fun e => ⟨hv, ?_⟩) (ag_at kd (by omega)) rfl⟩) (fun b1 => no fun z => b1 z.2.1))
    rw [nI_clamp (by omega)]
    refine br_c (fun m => ?_) (fun m => no fun z => m z.2.2.1)
    unfold wY_price_142
    refine br_f (by decide) (ag_Yapplies hp30 hN hnc hkd (ag_br (fun a => nm_r ?_ (nm_r (nI_1 p) g)) (fun a => nm_r (nI_1 p) (keep fun z => a z.2.2.2))))
    rw [es, ag_vt ⟨e, b1, m, a⟩, Int32.mul_one, Int32.add_assoc]
theorem ag_Y4_go {post : Int32 → Prop} (s : Int32) (hN : N ≤ 10) (hnm : ∀ j, nm j < 5) (hvr : ∀ j, vr j ≤ 9) (h : ∃ n98, wY_price_98 post s (nI N) eb (nI P) (nI K) (ag_f nm) (ag_f vr) sg (ag_f oc) (ag_f fd) (ag_f fv) (ag_f nc) (ag_f kd) (ag_f lo) (ag_f ah) ae (ag_f hs) tc n98 (ag_S (ag_YW N nm vr (nI P) s) N) 0) : ∀ d u : Nat, u + d = N → wY_price_4 post s (nI N) eb (nI P) (nI K) (ag_f nm) (ag_f vr) sg (ag_f oc) (ag_f fd) (ag_f fv) (ag_f nc) (ag_f kd) (ag_f lo) (ag_f ah) ae (ag_f hs) tc (d + 1) (ag_S (ag_YW N nm vr (nI P) s) u) (nI u) := by
  intro d
  induction d with
  | zero =>
    intro u hu
    obtain rfl : u = N := by omega
    exact br_t (nI_le (by omega) (by omega)) h
  | succ d ih =>
    intro u hu
    have g := ih (u + 1) (by omega)
    have es : ag_S (ag_YW N nm vr (nI P) s) (u + 1) = ag_S (ag_YW N nm vr (nI P) s) u + ag_Y5 (nI P) s u + ag_Y3 (nI P) s u + ag_YN N nm vr s u := by
      show ag_S (ag_YW N nm vr (nI P) s) u + (ag_Y5 (nI P) s u + ag_Y3 (nI P) s u + ag_YN N nm vr s u) = _
      rw [← Int32.add_assoc, ← Int32.add_assoc]
    rw [es] at g
    refine br_f (nI_ge (by omega) (by omega)) (br_f (nI_ge (b := 10) (by omega) (by decide)) (ag_Yin _ s (by omega) (ag_br (fun b => ag_Yin _ (nI P) (by omega) (ag_br (fun c => ?_) (fun c => nm_e ?_))) (fun b => ?_))))
    · rw [show ag_Y5 (nI P) s u = 0 from if_neg (fun z => z.2 c), Int32.add_zero] at g
      exact ag_Y42 s _ (by omega) hN hnm hvr g
    · rw [show ag_Y5 (nI P) s u = 5 from if_pos ⟨b, c⟩] at g
      exact ag_Y42 s _ (by omega) hN hnm hvr g
    · rw [show ag_Y5 (nI P) s u = 0 from if_neg (fun z => b z.1), Int32.add_zero] at g
      exact ag_Y42 s _ (by omega) hN hnm hvr g
noncomputable def ag_YC (N P : Nat) (eb : Int32) (nm vr nc kd : Nat → Nat) (ae : Nat → Int32) (s : Int32) : Int32 := ag_S (ag_YW N nm vr (nI P) s) N + ag_S (ag_YG N eb nc kd ae s) 30
theorem ag_Yprice {post : Int32 → Prop} (s : Int32) (hN : N ≤ 10) (hnm : ∀ j, nm j < 5) (hvr : ∀ j, vr j ≤ 9) (hnc : ∀ j, nc j ≤ 3) (hkd : ∀ j, kd j < 64 ∧ kd j % 8 ≤ 5) (h : post (ag_YC N P eb nm vr nc kd ae s)) : wpY_price post ((nI N), eb, (nI P), (nI K), (ag_f nm), (ag_f vr), sg, (ag_f oc), (ag_f fd), (ag_f fv), (ag_f nc), (ag_f kd), (ag_f lo), (ag_f ah), ae, (ag_f hs), tc) s := by
  unfold wpY_price
  refine ⟨N + 1, ag_Y4_go s hN hnm hvr ⟨31, ?_⟩ N 0 (by omega)⟩
  have g := ag_Y98_go (P := P) (K := K) (nm := nm) (vr := vr) (sg := sg) (oc := oc) (fd := fd) (fv := fv) (lo := lo) (ah := ah) (hs := hs) (tc := tc) s (ag_S (ag_YW N nm vr (nI P) s) N) hN hnc hkd h 30 0 rfl
  rw [show ag_S (ag_YG N eb nc kd ae s) 0 = 0 from rfl, Int32.add_zero] at g
  exact g
end
end
section
/-! the reference: best, excess, steps, history, and the small checks -/
def ag_hN (hs : Nat → Nat) (K s : Nat) : Nat → Nat := if K < 8 then ag_u hs K s else ag_D (ag_u hs 8 s) 8
section
variable {N P K : Nat} {eb : Int32} {nm vr nv oc nc kd lo ah nt fd fv hs : Nat → Nat} {sg tc og ae : Nat → Int32}
theorem ag_Ybest_go {post : Int32 → SY → Prop} (w b : Int32) (hN : N ≤ 10) (hnm : ∀ j, nm j < 5) (hvr : ∀ j, vr j ≤ 9) (hnc : ∀ j, nc j ≤ 3) (hkd : ∀ j, kd j < 64 ∧ kd j % 8 ≤ 5) (h : post (ag_B (ag_ok (ag_YS N eb nm sg nc kd ae) w b) (fun i => ag_YC N P eb nm vr nc kd ae (nI i)) (2 ^ N)).1 ((nI N), eb, (nI P), (nI K), (ag_f nm), (ag_f vr), sg, (ag_f oc), (ag_f fd), (ag_f fv), (ag_f nc), (ag_f kd), (ag_f lo), (ag_f ah), ae, (ag_f hs), tc)) : ∀ d i : Nat, i + d = 2 ^ N → wY_best_13 post w b (nI N) eb (nI P) (nI K) (ag_f nm) (ag_f vr) sg (ag_f oc) (ag_f fd) (ag_f fv) (ag_f nc) (ag_f kd) (ag_f lo) (ag_f ah) ae (ag_f hs) tc (d + 1) (ag_B (ag_ok (ag_YS N eb nm sg nc kd ae) w b) (fun i => ag_YC N P eb nm vr nc kd ae (nI i)) i).1 (ag_B (ag_ok (ag_YS N eb nm sg nc kd ae) w b) (fun i => ag_YC N P eb nm vr nc kd ae (nI i)) i).2 (nI i) := by
  have hE := ag_pw hN
  intro d
  induction d with
  | zero =>
    intro i hi
    obtain rfl : i = 2 ^ N := by omega
    exact br_t (by rw [ag_shl hN]; exact nI_le (by omega) (by omega)) h
  | succ d ih =>
    intro i hi
    have g := ih (i + 1) (by omega)
    generalize hok : ag_ok (ag_YS N eb nm sg nc kd ae) w b = ok at g h ⊢
    have hct : (fun i => ag_YC N P eb nm vr nc kd ae (nI i)) i = ag_YC N P eb nm vr nc kd ae (nI i) := rfl
    have okI : ok i ↔ (nI i &&& w) = w ∧ (nI i &&& b) = 0 ∧ ag_YS N eb nm sg nc kd ae (nI i) := by rw [← hok]; exact Iff.rfl
    generalize (fun i => ag_YC N P eb nm vr nc kd ae (nI i)) = ct at g h hct ⊢
    have keep : ¬ (ok i ∧ ((ag_B ok ct i).1 = -2 ∨ ¬ (ag_B ok ct i).2 ≤ ct i)) → wY_best_13 post w b (nI N) eb (nI P) (nI K) (ag_f nm) (ag_f vr) sg (ag_f oc) (ag_f fd) (ag_f fv) (ag_f nc) (ag_f kd) (ag_f lo) (ag_f ah) ae (ag_f hs) tc (d + 1) (ag_B ok ct i).1 (ag_B ok ct i).2 (nI (i + 1)) := fun hn => by
      rw [ag_Bk hn] at g
      exact g
    have take : (ok i ∧ ((ag_B ok ct i).1 = -2 ∨ ¬ (ag_B ok ct i).2 ≤ ct i)) → wY_best_13 post w b (nI N) eb (nI P) (nI K) (ag_f nm) (ag_f vr) sg (ag_f oc) (ag_f fd) (ag_f fv) (ag_f nc) (ag_f kd) (ag_f lo) (ag_f ah) ae (ag_f hs) tc (d + 1) (nI i) (ct i) (nI (i + 1)) := fun hn => by
      rw [ag_Bt hn] at g
      exact g
    have hneg : (ag_B ok ct i).1 < 0 ↔ (ag_B ok ct i).1 = -2 := by
      rcases ag_Bv (ok := ok) (ct := ct) i with e | ⟨j, hj, e⟩
      · rw [e]; exact ⟨fun _ => rfl, fun _ => by decide⟩
      · rw [e]
        exact ⟨fun z => absurd z (nI_pos (by omega)), fun z => absurd (by rw [z]; decide) (nI_pos (n := j) (by omega))⟩
    refine br_f (by rw [ag_shl hN]; exact nI_ge (by omega) (by omega)) (br_c (fun h1 => br_c (fun h2 => ?_) (fun h2 => ?_)) (fun h1 => ?_))
    · refine ag_Ysound (nI i) hN hnm hnc hkd (ag_br (fun hs => ?_) (fun hs => nm_r (nI_1 i) (keep fun z => hs (okI.mp z.1).2.2)))
      refine ag_Yprice (nI i) hN hnm hvr hnc hkd ?_
      rw [← hct]
      exact br_c (fun e => nm_r (nI_1 i) (take ⟨okI.mpr ⟨h1, h2, hs⟩, Or.inl (hneg.mp e)⟩)) (fun e => br_c (fun l => nm_r (nI_1 i) (keep fun z => z.2.elim (fun y => e (hneg.mpr y)) (fun y => y l))) (fun l => nm_r (nI_1 i) (take ⟨okI.mpr ⟨h1, h2, hs⟩, Or.inr l⟩)))
    · exact nm_r (nI_1 i) (keep fun z => h2 (okI.mp z.1).2.1)
    · exact nm_r (nI_1 i) (keep fun z => h1 (okI.mp z.1).1)
theorem ag_Ybest {post : Int32 → SY → Prop} (w b : Int32) (hN : N ≤ 10) (hnm : ∀ j, nm j < 5) (hvr : ∀ j, vr j ≤ 9) (hoc : ∀ j, oc j ≤ 3) (hnc : ∀ j, nc j ≤ 3) (hkd : ∀ j, kd j < 64 ∧ kd j % 8 ≤ 5) (hlo : ∀ j, lo j ≤ 9) (hah : ∀ j, ah j ≤ 9) (hfd : ∀ j, fd j ≤ 5) (hfv : ∀ j, fv j ≤ 9) (h : ∀ ae : Nat → Int32, (∀ k, k < 30 → ag_HB N oc fd fv kd lo ah ae k 30) → post (ag_B (ag_ok (ag_YS N eb nm sg nc kd ae) w b) (fun i => ag_YC N P eb nm vr nc kd ae (nI i)) (2 ^ N)).1 ((nI N), eb, (nI P), (nI K), (ag_f nm), (ag_f vr), sg, (ag_f oc), (ag_f fd), (ag_f fv), (ag_f nc), (ag_f kd), (ag_f lo), (ag_f ah), ae, (ag_f hs), tc)) : wpY_best post ((nI N), eb, (nI P), (nI K), (ag_f nm), (ag_f vr), sg, (ag_f oc), (ag_f fd), (ag_f fv), (ag_f nc), (ag_f kd), (ag_f lo), (ag_f ah), ae, (ag_f hs), tc) w b := by
  unfold wpY_best
  exact ag_Ylook hN hoc hkd hlo hah hfd hfv (fun ae' h' => ⟨2 ^ N + 1, ag_Ybest_go w b hN hnm hvr hnc hkd (h ae' h') (2 ^ N) 0 (by omega)⟩)
theorem ag_Yexcess_go {post : Int32 → SY → Prop} (w b : Int32) (hN : N ≤ 10) (hnm : ∀ j, nm j < 5) (hnc : ∀ j, nc j ≤ 3) (hkd : ∀ j, kd j < 64 ∧ kd j % 8 ≤ 5) (h : post (ag_E (ag_YS N eb nm sg nc kd ae) w b (2 ^ N)) ((nI N), eb, (nI P), (nI K), (ag_f nm), (ag_f vr), sg, (ag_f oc), (ag_f fd), (ag_f fv), (ag_f nc), (ag_f kd), (ag_f lo), (ag_f ah), ae, (ag_f hs), tc)) : ∀ d i : Nat, i + d = 2 ^ N → wY_excess_28 post w b (nI N) eb (nI P) (nI K) (ag_f nm) (ag_f vr) sg (ag_f oc) (ag_f fd) (ag_f fv) (ag_f nc) (ag_f kd) (ag_f lo) (ag_f ah) ae (ag_f hs) tc (d + 1) (ag_E (ag_YS N eb nm sg nc kd ae) w b i) (nI i) := by
  have hE := ag_pw hN
  intro d
  induction d with
  | zero =>
    intro i hi
    obtain rfl : i = 2 ^ N := by omega
    exact br_t (by rw [ag_shl hN]; exact nI_le (by omega) (by omega)) h
  | succ d ih =>
    intro i hi
    have g := ih (i + 1) (by omega)
    have keep : ¬ (¬ ag_E (ag_YS N eb nm sg nc kd ae) w b i ≤ ag_gv w b i ∧ ag_YS N eb nm sg nc kd ae (nI i)) → wY_excess_28 post w b (nI N) eb (nI P) (nI K) (ag_f nm) (ag_f vr) sg (ag_f oc) (ag_f fd) (ag_f fv) (ag_f nc) (ag_f kd) (ag_f lo) (ag_f ah) ae (ag_f hs) tc (d + 1) (ag_E (ag_YS N eb nm sg nc kd ae) w b i) (nI (i + 1)) := fun hn => by
      rw [ag_Ek hn] at g
      exact g
    have take : (¬ ag_E (ag_YS N eb nm sg nc kd ae) w b i ≤ ag_gv w b i ∧ ag_YS N eb nm sg nc kd ae (nI i)) → wY_excess_28 post w b (nI N) eb (nI P) (nI K) (ag_f nm) (ag_f vr) sg (ag_f oc) (ag_f fd) (ag_f fv) (ag_f nc) (ag_f kd) (ag_f lo) (ag_f ah) ae (ag_f hs) tc (d + 1) (ag_gv w b i) (nI (i + 1)) := fun hn => by
      rw [ag_Et hn] at g
      exact g
    exact br_f (by rw [ag_shl hN]; exact nI_ge (by omega) (by omega)) (ag_Ysize _ (ag_Ysize _ (nm_r (e' := ag_gv w b i) rfl (br_c (fun l => nm_r (nI_1 i) (keep fun z => z.1 l)) (fun l => ag_Ysound (nI i) hN hnm hnc hkd (ag_br (fun hs => nm_r (nI_1 i) (take ⟨l, hs⟩)) (fun hs => nm_r (nI_1 i) (keep fun z => hs z.2))))))))
theorem ag_Y64_go {post : Int32 → SY → Prop} (s : Int32) (m : Nat) (tm : Int32) (hm : m ≤ 20) (h : post (nI (ag_C (ag_c (nI P) s) 20)) ((nI N), eb, (nI P), (nI K), (ag_f nm), (ag_f vr), sg, (ag_f oc), (ag_f fd), (ag_f fv), (ag_f nc), (ag_f kd), (ag_f lo), (ag_f ah), ae, (ag_f hs), (ag_G (ag_c (nI P) s) m tm tc 20))) : ∀ d i : Nat, i + d = 10 → wY_step_64 post s (nI m) tm (nI N) eb (nI P) (nI K) (d + 1) (nI (ag_C (ag_c (nI P) s) (10 + i))) (nI i) (ag_f nm) (ag_f vr) sg (ag_f oc) (ag_f fd) (ag_f fv) (ag_f nc) (ag_f kd) (ag_f lo) (ag_f ah) ae (ag_f hs) (ag_G (ag_c (nI P) s) m tm tc (10 + i)) := by
  intro d
  induction d with
  | zero =>
    intro i hi
    obtain rfl : i = 10 := by omega
    exact br_t (nI_le (a := 10) (b := 10) (by omega) (by omega)) h
  | succ d ih =>
    intro i hi
    have g := ih (i + 1) (by omega)
    have eo : ag_o (10 + i) = i := by
      unfold ag_o
      rw [if_neg (by omega)]
      omega
    have ec : ag_c (nI P) s (10 + i) ↔ (bt s i = true ∧ ¬ bt (nI P) i = true) := by
      unfold ag_c
      rw [show 10 + i - 10 = i by omega]
      exact ⟨fun z => z.elim (fun y => absurd y.1 (by omega)) (fun y => y.2), fun z => Or.inr ⟨by omega, z⟩⟩
    have hC := ag_Cs (ag_c (nI P) s) (10 + i)
    have hl := ag_Cle (ag_c (nI P) s) (10 + i)
    have hi10 : vp_in (nI i) 10 := pk_in i 10 (by omega)
    rw [show 10 + (i + 1) = 10 + i + 1 from rfl, hC] at g
    have keep : ¬ ag_c (nI P) s (10 + i) → wY_step_64 post s (nI m) tm (nI N) eb (nI P) (nI K) (d + 1) (nI (ag_C (ag_c (nI P) s) (10 + i))) (nI (i + 1)) (ag_f nm) (ag_f vr) sg (ag_f oc) (ag_f fd) (ag_f fv) (ag_f nc) (ag_f kd) (ag_f lo) (ag_f ah) ae (ag_f hs) (ag_G (ag_c (nI P) s) m tm tc (10 + i)) := fun hn => by
      rw [ag_nf hn, ag_Gk (fun z => hn z.1)] at g
      exact g
    refine br_f (nI_ge (b := 10) (by omega) (by decide)) (ag_Yin _ s (by omega) (ag_br (fun b1 => ag_Yin _ (nI P) (by omega) (ag_br (fun b2 => nm_r (nI_1 i) (keep fun z => (ec.mp z).2 b2)) (fun b2 => ?_))) (fun b1 => nm_r (nI_1 i) (keep fun z => b1 (ec.mp z).1))))
    have hc := ec.mpr ⟨b1, b2⟩
    rw [ag_nt hc] at g
    refine pk_le m (ag_C (ag_c (nI P) s) (10 + i)) (fun e => nm_r (nI_1 _) (nm_r (nI_1 i) ?_)) (fun e => ⟨hi10, hi10, nm_r ?_ (nm_r (nI_1 _) (nm_r (nI_1 i) g))⟩) rfl rfl
    · rw [ag_Gk (fun z => by omega)] at g
      exact g
    · rw [nI_clamp (by omega), ag_Gt ⟨hc, e⟩, eo]
theorem ag_Y7_go {post : Int32 → SY → Prop} (s : Int32) (m : Nat) (tm : Int32) (hm : m ≤ 20) (h : post (nI (ag_C (ag_c (nI P) s) 20)) ((nI N), eb, (nI P), (nI K), (ag_f nm), (ag_f vr), sg, (ag_f oc), (ag_f fd), (ag_f fv), (ag_f nc), (ag_f kd), (ag_f lo), (ag_f ah), ae, (ag_f hs), (ag_G (ag_c (nI P) s) m tm tc 20))) : ∀ d t : Nat, t + d = 10 → wY_step_7 post s (nI m) tm (nI N) eb (nI P) (nI K) (d + 1) (nI (ag_C (ag_c (nI P) s) t)) (nI d + (-1)) (ag_f nm) (ag_f vr) sg (ag_f oc) (ag_f fd) (ag_f fv) (ag_f nc) (ag_f kd) (ag_f lo) (ag_f ah) ae (ag_f hs) (ag_G (ag_c (nI P) s) m tm tc t) := by
  intro d
  induction d with
  | zero =>
    intro t ht
    obtain rfl : t = 10 := by omega
    exact br_t (by decide) ⟨11, ag_Y64_go s m tm hm h 10 0 rfl⟩
  | succ d ih =>
    intro t ht
    have g := ih (t + 1) (by omega)
    rw [pk_m1]
    have eo : ag_o t = d := by
      unfold ag_o
      rw [if_pos (by omega)]
      omega
    have ec : ag_c (nI P) s t ↔ (bt (nI P) d = true ∧ ¬ bt s d = true) := by
      unfold ag_c
      rw [show 9 - t = d by omega]
      exact ⟨fun z => z.elim (fun y => y.2) (fun y => absurd y.1 (by omega)), fun z => Or.inl ⟨by omega, z⟩⟩
    have hC := ag_Cs (ag_c (nI P) s) t
    have hl := ag_Cle (ag_c (nI P) s) t
    have hd10 : vp_in (nI d) 10 := pk_in d 10 (by omega)
    rw [hC] at g
    have keep : ¬ ag_c (nI P) s t → wY_step_7 post s (nI m) tm (nI N) eb (nI P) (nI K) (d + 1) (nI (ag_C (ag_c (nI P) s) t)) (nI d + (-1)) (ag_f nm) (ag_f vr) sg (ag_f oc) (ag_f fd) (ag_f fv) (ag_f nc) (ag_f kd) (ag_f lo) (ag_f ah) ae (ag_f hs) (ag_G (ag_c (nI P) s) m tm tc t) := fun hn => by
      rw [ag_nf hn, ag_Gk (fun z => hn z.1)] at g
      exact g
    refine br_f (nI_pos (by omega)) (ag_Yin _ (nI P) (by omega) (ag_br (fun b1 => ag_Yin _ s (by omega) (ag_br (fun b2 => nm_r rfl (keep fun z => (ec.mp z).2 b2)) (fun b2 => ?_))) (fun b1 => nm_r rfl (keep fun z => b1 (ec.mp z).1))))
    have hc := ec.mpr ⟨b1, b2⟩
    rw [ag_nt hc] at g
    refine pk_le m (ag_C (ag_c (nI P) s) t) (fun e => nm_r (nI_1 _) (nm_r rfl ?_)) (fun e => ⟨hd10, hd10, nm_r ?_ (nm_r (nI_1 _) (nm_r rfl g))⟩) rfl rfl
    · rw [ag_Gk (fun z => by omega)] at g
      exact g
    · rw [nI_clamp (by omega), ag_Gt ⟨hc, e⟩, eo]
theorem ag_Ystep {post : Int32 → SY → Prop} (s : Int32) (m : Nat) (tm : Int32) (hm : m ≤ 20) (h : post (nI (ag_C (ag_c (nI P) s) 20)) ((nI N), eb, (nI P), (nI K), (ag_f nm), (ag_f vr), sg, (ag_f oc), (ag_f fd), (ag_f fv), (ag_f nc), (ag_f kd), (ag_f lo), (ag_f ah), ae, (ag_f hs), (ag_G (ag_c (nI P) s) m tm tc 20))) : wpY_step post ((nI N), eb, (nI P), (nI K), (ag_f nm), (ag_f vr), sg, (ag_f oc), (ag_f fd), (ag_f fv), (ag_f nc), (ag_f kd), (ag_f lo), (ag_f ah), ae, (ag_f hs), tc) s (nI m) tm := by
  unfold wpY_step
  exact ⟨11, ag_Y7_go s m tm hm h 10 0 rfl⟩
theorem ag_Y45_go {post : Int32 → SY → Prop} (x : Int32) (h : post x ((nI N), eb, (nI P), (nI 8), (ag_f nm), (ag_f vr), sg, (ag_f oc), (ag_f fd), (ag_f fv), (ag_f nc), (ag_f kd), (ag_f lo), (ag_f ah), ae, (ag_f (ag_D hs 8)), tc)) (y : Int32) : ∀ d i : Nat, i + d = 8 → wY_change_45 post x (nI N) eb (nI P) y (d + 1) (nI i) (ag_f nm) (ag_f vr) sg (ag_f oc) (ag_f fd) (ag_f fv) (ag_f nc) (ag_f kd) (ag_f lo) (ag_f ah) ae (ag_f (ag_D hs i)) tc := by
  intro d
  induction d with
  | zero =>
    intro i hi
    obtain rfl : i = 8 := by omega
    exact br_t (nI_le (a := 8) (b := 8) (by omega) (by omega)) h
  | succ d ih =>
    intro i hi
    refine br_f (nI_ge (b := 8) (by omega) (by decide)) ⟨pk_in (i + 1) 9 (by omega) (nI_1 i), pk_in i 9 (by omega), nm_r ?_ (nm_r (nI_1 i) (ih (i + 1) (by omega)))⟩
    rw [nI_1, nI_clamp (n := i) (by omega), ag_at _ (by omega), ag_fu, ag_Ds]
theorem ag_Ychange {post : Int32 → SY → Prop} (s : Nat) (hK : K ≤ 8) (h : post (nI (ag_C (ag_c (nI P) (nI s)) 20)) ((nI N), eb, (nI s), (nI (ag_nK K)), (ag_f nm), (ag_f vr), sg, (ag_f oc), (ag_f fd), (ag_f fv), (ag_f nc), (ag_f kd), (ag_f lo), (ag_f ah), ae, (ag_f (ag_hN hs K s)), (ag_G (ag_c (nI P) (nI s)) 20 1 tc 20))) : wpY_change post ((nI N), eb, (nI P), (nI K), (ag_f nm), (ag_f vr), sg, (ag_f oc), (ag_f fd), (ag_f fv), (ag_f nc), (ag_f kd), (ag_f lo), (ag_f ah), ae, (ag_f hs), tc) (nI s) := by
  unfold wpY_change
  refine ag_Ystep (nI s) 20 1 (by omega) ⟨pk_in K 9 (by omega), nm_r (by rw [nI_clamp (by omega), ag_fu]) (nm_r (nI_1 K) (pk_le (K + 1) 8 (fun e => ?_) (fun e => ?_) rfl rfl))⟩
  · unfold ag_nK ag_hN at h
    rw [if_pos (by omega), if_pos (by omega)] at h
    exact h
  · obtain rfl : K = 8 := by omega
    unfold ag_nK ag_hN at h
    rw [if_neg (by omega), if_neg (by omega)] at h
    exact ⟨9, ag_Y45_go _ h _ 8 0 rfl⟩
theorem ag_Y28_go {post : Int32 → SY → Prop} {a b : Nat} (z : Int32) (ha : a < 100) (hb : b < 100) (hN : N ≤ 10) (hnm : ∀ j, nm j < 5) (hvr : ∀ j, vr j ≤ 9) (h3 : ag_L N nm vr a b → post (-3) ((nI N), eb, (nI P), (nI K), (ag_f nm), (ag_f vr), sg, (ag_f oc), (ag_f fd), (ag_f fv), (ag_f nc), (ag_f kd), (ag_f lo), (ag_f ah), ae, (ag_f hs), tc)) (h : ¬ ag_L N nm vr a b → wY_unit_75 post (nI a) (nI b) z (nI N) eb (nI P) (nI K) (ag_f nm) (ag_f vr) sg (ag_f oc) (ag_f fd) (ag_f fv) (ag_f nc) (ag_f kd) (ag_f lo) (ag_f ah) ae (ag_f hs) tc) : ∀ d i : Nat, i + d = N → (∀ j, j < i → ¬ (nm j = a ∧ vr j = b)) → wY_unit_28 post (nI a) (nI b) z (nI N) eb (nI P) (nI K) (ag_f nm) (ag_f vr) sg (ag_f oc) (ag_f fd) (ag_f fv) (ag_f nc) (ag_f kd) (ag_f lo) (ag_f ah) ae (ag_f hs) tc (d + 1) (nI i) := by
  intro d
  induction d with
  | zero =>
    intro i hi hl
    exact br_t (nI_le (by omega) (by omega)) (h (fun ⟨j, h1, h2⟩ => hl j (by omega) h2))
  | succ d ih =>
    intro i hi hl
    have n1 := hnm i
    have n2 := hvr i
    have hi10 : vp_in (nI i) 10 := pk_in i 10 (by omega)
    have step : ¬ (nm i = a ∧ vr i = b) → wY_unit_28 post (nI a) (nI b) z (nI N) eb (nI P) (nI K) (ag_f nm) (ag_f vr) sg (ag_f oc) (ag_f fd) (ag_f fv) (ag_f nc) (ag_f kd) (ag_f lo) (ag_f ah) ae (ag_f hs) tc (d + 1) (nI (i + 1)) := fun hn => ih (i + 1) (by omega) (fun j hj => by
      by_cases e : j = i
      · rw [e]; exact hn
      · exact hl j (by omega))
    exact br_f (nI_ge (by omega) (by omega)) (br_f (nI_ge (b := 10) (by omega) (by decide)) ⟨hi10, pk_eq (nm i) a (fun e1 => ⟨hi10, pk_eq (vr i) b (fun e2 => h3 ⟨i, by omega, e1, e2⟩) (fun e2 => nm_r (nI_1 i) (step fun z => e2 z.2)) (ag_at vr (by omega)) rfl⟩) (fun e1 => nm_r (nI_1 i) (step fun z => e1 z.1)) (ag_at nm (by omega)) rfl⟩)
theorem ag_Ybu_t {post : Int32 → Prop} {j : Nat} (hN : N ≤ 10) (hj : j < N) (h : post 0) : wpY_bad post ((nI N), eb, (nI P), (nI K), (ag_f nm), (ag_f vr), sg, (ag_f oc), (ag_f fd), (ag_f fv), (ag_f nc), (ag_f kd), (ag_f lo), (ag_f ah), ae, (ag_f hs), tc) (nI j) := by
  unfold wpY_bad
  exact br_f (nI_pos (by omega)) (br_f (nI_ge hj (by omega)) (br_t (nI_le (b := 9) (by omega) (by decide)) h))
theorem ag_Ybu_f {post : Int32 → Prop} {x : Int32} (hx : x < 0 ∨ nI N ≤ x) (h : post 1) : wpY_bad post ((nI N), eb, (nI P), (nI K), (ag_f nm), (ag_f vr), sg, (ag_f oc), (ag_f fd), (ag_f fv), (ag_f nc), (ag_f kd), (ag_f lo), (ag_f ah), ae, (ag_f hs), tc) x := by
  unfold wpY_bad
  exact br_c (fun _ => h) (fun z => br_c (fun _ => h) (fun y => absurd hx (fun w => w.elim z y)))
theorem ag_Ybs_t {post : Int32 → Prop} {j : Nat} (hN : N ≤ 10) (hj : j < 2 ^ N) (h : post 0) : wpY_badSet post ((nI N), eb, (nI P), (nI K), (ag_f nm), (ag_f vr), sg, (ag_f oc), (ag_f fd), (ag_f fv), (ag_f nc), (ag_f kd), (ag_f lo), (ag_f ah), ae, (ag_f hs), tc) (nI j) := by
  have hE := ag_pw hN
  unfold wpY_badSet
  exact br_f (nI_pos (by omega)) (br_t (by rw [ag_shl hN]; exact nI_lt hj (by omega)) h)
theorem ag_Ybs_f {post : Int32 → Prop} {x : Int32} (hN : N ≤ 10) (hx : x < 0 ∨ nI (2 ^ N) ≤ x) (h : post 1) : wpY_badSet post ((nI N), eb, (nI P), (nI K), (ag_f nm), (ag_f vr), sg, (ag_f oc), (ag_f fd), (ag_f fv), (ag_f nc), (ag_f kd), (ag_f lo), (ag_f ah), ae, (ag_f hs), tc) x := by
  unfold wpY_badSet
  refine br_c (fun _ => h) (fun z => br_c (fun y => absurd hx (fun w => w.elim z (fun v => ?_))) (fun _ => h))
  rw [ag_shl hN] at y
  exact Int32.not_le.mpr y v
end
end
section
/-! the two pictures agree -/
def ag_OG (N : Nat) (oc fd fv : Nat → Nat) (og : Nat → Int32) : Prop := ∀ c v, c < 6 → v < 10 → ∀ b, b < 32 → (bt (og (c * 10 + v)) b = true ↔ (b < N ∧ ∃ k, k < 3 ∧ k < oc b ∧ fd (3 * b + k) = c ∧ fv (3 * b + k) = v))
theorem ag_andnz (x y : Int32) : ¬ (x &&& y) = 0 ↔ ∃ b, b < 32 ∧ bt x b = true ∧ bt y b = true := by
  rw [ag_andz]
  constructor
  · intro h
    refine Classical.byContradiction fun hn => h fun i hi hh => hn ⟨i, hi, hh⟩
  · rintro ⟨b, hb, hh⟩ h
    exact h b hb hh
section
variable {N P K : Nat} {eb : Int32} {nm vr nv oc nc kd lo ah nt fd fv hs : Nat → Nat} {sg tc og ae : Nat → Int32}
theorem ag_met (s : Int32) {i : Nat} (hN : N ≤ 10) (hkd : ∀ j, kd j < 64 ∧ kd j % 8 ≤ 5) (hah : ∀ j, ah j ≤ 9) (hog : ag_OG N oc fd fv og) (hb : ag_HB N oc fd fv kd lo ah ae i 30) : ag_MX og kd lo ah s i ↔ ¬ (s &&& ae i) = 0 := by
  have k5 : ag_kc kd i ≤ 5 := (hkd i).2
  have a9 := hah i
  rw [ag_andnz]
  constructor
  · rintro ⟨v, h1, h2, h3⟩
    obtain ⟨b, b32, hb1, hb2⟩ := (ag_andnz _ _).mp h3
    obtain ⟨bN, k, k3, ko, e1, e2⟩ := (hog (ag_kc kd i) v (by omega) (by omega) b b32).mp hb1
    refine ⟨b, b32, hb2, (hb b b32).mpr ⟨3 * b + k, by omega, by omega, ?_⟩⟩
    have d3 : (3 * b + k) / 3 = b := by omega
    have m3 : (3 * b + k) % 3 = k := by omega
    refine ⟨by omega, ?_, e1, by omega, by omega⟩
    rw [d3, m3]
    exact ko
  · rintro ⟨b, b32, hb1, hb2⟩
    obtain ⟨j, j30, jb, f1, f2, f3, f4, f5⟩ := (hb b b32).mp hb2
    refine ⟨fv j, f4, f5, (ag_andnz _ _).mpr ⟨b, b32, (hog (ag_kc kd i) (fv j) (by omega) (by omega) b b32).mpr ⟨by omega, j % 3, by omega, ?_, ?_, ?_⟩, hb1⟩⟩
    · rw [← jb]; exact f2
    · rw [← jb, show 3 * (j / 3) + j % 3 = j by omega]; exact f3
    · rw [← jb, show 3 * (j / 3) + j % 3 = j by omega]
theorem ag_UYe (s : Int32) {u k : Nat} (hu : u < N) (hk : k < 3) (hN : N ≤ 10) (hkd : ∀ j, kd j < 64 ∧ kd j % 8 ≤ 5) (hah : ∀ j, ah j ≤ 9) (hog : ag_OG N oc fd fv og) (hb : ∀ i, i < 30 → ag_HB N oc fd fv kd lo ah ae i 30) : ag_UY N eb nc kd ae s (3 * u + k) ↔ (bt s u = true ∧ k < nc u ∧ ag_AP eb kd (3 * u + k) ∧ ¬ ag_MX og kd lo ah s (3 * u + k)) := by
  have d3 : (3 * u + k) / 3 = u := by omega
  have m3 : (3 * u + k) % 3 = k := by omega
  rw [ag_met s hN hkd hah hog (hb (3 * u + k) (by omega))]
  unfold ag_UY ag_YA
  rw [d3, m3]
  constructor
  · rintro ⟨a, b, c, d, e⟩
    exact ⟨a, d, e, fun z => z b⟩
  · rintro ⟨a, d, e, b⟩
    exact ⟨a, Classical.byContradiction b, hu, d, e⟩
theorem ag_snd (s : Int32) (hN : N ≤ 10) (hnc : ∀ j, nc j ≤ 3) (hkd : ∀ j, kd j < 64 ∧ kd j % 8 ≤ 5) (hah : ∀ j, ah j ≤ 9) (hog : ag_OG N oc fd fv og) (hb : ∀ i, i < 30 → ag_HB N oc fd fv kd lo ah ae i 30) : ag_XS N eb nm sg og nc kd lo ah s ↔ ag_YS N eb nm sg nc kd ae s := by
  constructor
  · intro h
    refine ⟨fun p hp ⟨k32, z⟩ => ?_, fun u hu w hw z => ?_⟩
    · have hu : p / 3 < N := z.2.2.1
      have ep : 3 * (p / 3) + p % 3 = p := by omega
      rw [← ep] at z
      obtain ⟨z1, z2, z3, z4⟩ := (ag_UYe s hu (by omega) hN hkd hah hog hb).mp z
      refine (h (p / 3) hu z1).2 (p % 3) z2 ⟨?_, z3, z4⟩
      rw [ep]
      unfold ag_ko
      omega
    · exact (h w (by omega) z.2.1).1 ⟨u, hw, hu, z.1, z.2.2.1, z.2.2.2⟩
  · rintro ⟨h1, h2⟩ u hu hs
    refine ⟨fun ⟨w, w1, w2, w3, w4, w5⟩ => h2 w w2 u w1 ⟨w3, hs, w4, w5⟩, fun k hk z => ?_⟩
    have n3 := hnc u
    refine h1 (3 * u + k) (by omega) ⟨?_, (ag_UYe s hu (by omega) hN hkd hah hog hb).mpr ⟨hs, hk, z.2.1, z.2.2⟩⟩
    have := z.1
    unfold ag_ko at this
    omega
theorem ag_C3 (q : Nat → Prop) {n : Nat} (h : n ≤ 3) : ag_C q n = ag_n (0 < n ∧ q 0) + ag_n (1 < n ∧ q 1) + ag_n (2 < n ∧ q 2) := by
  have t : ∀ (a : Nat) (p : Prop), a < n → ag_n (a < n ∧ p) = ag_n p := fun a p ha => ag_ni ⟨fun z => z.2, fun z => ⟨ha, z⟩⟩
  have f : ∀ (a : Nat) (p : Prop), ¬ a < n → ag_n (a < n ∧ p) = 0 := fun a p ha => ag_nf (fun z => ha z.1)
  obtain rfl | rfl | rfl | rfl : n = 0 ∨ n = 1 ∨ n = 2 ∨ n = 3 := by omega
  · rw [f 0 _ (by omega), f 1 _ (by omega), f 2 _ (by omega)]; rfl
  · rw [t 0 _ (by omega), f 1 _ (by omega), f 2 _ (by omega)]
    show 0 + ag_n (q 0) = _
    omega
  · rw [t 0 _ (by omega), t 1 _ (by omega), f 2 _ (by omega)]
    show 0 + ag_n (q 0) + ag_n (q 1) = _
    omega
  · rw [t 0 _ (by omega), t 1 _ (by omega), t 2 _ (by omega)]
    show 0 + ag_n (q 0) + ag_n (q 1) + ag_n (q 2) = _
    omega
theorem ag_T (s : Int32) {u : Nat} (hu : u < N) (hN : N ≤ 10) (hnc : ∀ j, nc j ≤ 3) (hkd : ∀ j, kd j < 64 ∧ kd j % 8 ≤ 5) (hah : ∀ j, ah j ≤ 9) (hog : ag_OG N oc fd fv og) (hb : ∀ i, i < 30 → ag_HB N oc fd fv kd lo ah ae i 30) : ag_YG N eb nc kd ae s (3 * u) + ag_YG N eb nc kd ae s (3 * u + 1) + ag_YG N eb nc kd ae s (3 * u + 2) = if bt s u = true then 2 * nI (ag_C (fun k => ag_Q eb og kd lo ah s 1 (3 * u + k)) (nc u)) else 0 := by
  by_cases bs : bt s u = true
  · have e : ∀ k, k < 3 → ag_YG N eb nc kd ae s (3 * u + k) = 2 * nI (ag_n (k < nc u ∧ ag_Q eb og kd lo ah s 1 (3 * u + k))) := by
      intro k hk
      unfold ag_YG
      rw [ag_vn]
      have k1 := (hkd (3 * u + k)).1
      rw [ag_ni (show (31 < kd (3 * u + k) ∧ ag_UY N eb nc kd ae s (3 * u + k)) ↔ (k < nc u ∧ ag_Q eb og kd lo ah s 1 (3 * u + k)) from ?_)]
      rw [ag_UYe s hu hk hN hkd hah hog hb]
      unfold ag_Q ag_ko
      constructor
      · rintro ⟨a, b, c, d⟩
        exact ⟨c, by omega, d⟩
      · rintro ⟨c, a, d⟩
        exact ⟨by omega, bs, c, d⟩
    rw [if_pos bs, ag_C3 _ (hnc u), show ag_YG N eb nc kd ae s (3 * u) = ag_YG N eb nc kd ae s (3 * u + 0) from rfl, e 0 (by omega), e 1 (by omega), e 2 (by omega), ← nI_add, ← nI_add]
    grind
  · have e : ∀ k, k < 3 → ag_YG N eb nc kd ae s (3 * u + k) = 0 := by
      intro k hk
      unfold ag_YG
      rw [ag_vf (fun z => bs ?_), Int32.mul_zero]
      have := z.2.1
      rw [show (3 * u + k) / 3 = u by omega] at this
      exact this
    rw [if_neg bs, show ag_YG N eb nc kd ae s (3 * u) = ag_YG N eb nc kd ae s (3 * u + 0) from rfl, e 0 (by omega), e 1 (by omega), e 2 (by omega)]
    rfl
theorem ag_cst {t : Nat} (ht : t < 2 ^ N) (hP : P < 2 ^ N) (hN : N ≤ 10) (hnm : ∀ j, nm j < 5) (hnv : ∀ c, c < 5 → nv c = ag_mx nm vr c N) (hnc : ∀ j, nc j ≤ 3) (hkd : ∀ j, kd j < 64 ∧ kd j % 8 ≤ 5) (hah : ∀ j, ah j ≤ 9) (hog : ag_OG N oc fd fv og) (hb : ∀ i, i < 30 → ag_HB N oc fd fv kd lo ah ae i 30) : ag_XC N P eb nm vr nv og nc kd lo ah (nI t) = ag_YC N P eb nm vr nc kd ae (nI t) := by
  have z5 : ∀ u, N ≤ u → u < 10 → ag_Y5 (nI P) (nI t) u = 0 := fun u h1 h2 => if_neg (fun z => by
    have := z.1
    rw [ag_btF ht h1 (by omega)] at this
    exact absurd this (by decide))
  have z3 : ∀ u, N ≤ u → u < 10 → ag_Y3 (nI P) (nI t) u = 0 := fun u h1 h2 => if_neg (fun z => by
    have := z.1
    rw [ag_btF hP h1 (by omega)] at this
    exact absurd this (by decide))
  have e5 : ag_S (ag_Y5 (nI P) (nI t)) N = 5 * nI (ag_sz (nI t &&& (nI P ^^^ (-1)))) := by
    rw [← ag_Scut 10 hN z5, show ag_sz (nI t &&& (nI P ^^^ (-1))) = ag_C (fun u => bt (nI t &&& (nI P ^^^ (-1))) u = true) 10 from rfl, ← ag_SC, ← ag_Smul]
    refine ag_Sc 10 (fun i hi => ?_)
    have hd := ag_diff (nI t) (nI P) (show i < 32 by omega)
    unfold ag_Y5
    by_cases c : bt (nI t) i = true ∧ ¬ bt (nI P) i = true
    · rw [if_pos c, ag_vt (hd.mpr c)]; rfl
    · rw [if_neg c, ag_vf (fun z => c (hd.mp z))]; rfl
  have e3 : ag_S (ag_Y3 (nI P) (nI t)) N = 3 * nI (ag_sz (nI P &&& (nI t ^^^ (-1)))) := by
    rw [← ag_Scut 10 hN z3, show ag_sz (nI P &&& (nI t ^^^ (-1))) = ag_C (fun u => bt (nI P &&& (nI t ^^^ (-1))) u = true) 10 from rfl, ← ag_SC, ← ag_Smul]
    refine ag_Sc 10 (fun i hi => ?_)
    have hd := ag_diff (nI P) (nI t) (show i < 32 by omega)
    unfold ag_Y3
    by_cases c : bt (nI P) i = true ∧ ¬ bt (nI t) i = true
    · rw [if_pos c, ag_vt (hd.mpr c)]; rfl
    · rw [if_neg c, ag_vf (fun z => c (hd.mp z))]; rfl
  have eg : ag_S (ag_YG N eb nc kd ae (nI t)) 30 = ag_S (fun u => if bt (nI t) u = true then 2 * nI (ag_C (fun k => ag_Q eb og kd lo ah (nI t) 1 (3 * u + k)) (nc u)) else 0) N := by
    rw [show (30 : Nat) = 3 * 10 from rfl, ag_S3, ag_Scut 10 hN]
    · exact ag_Sc N (fun i hi => ag_T (nI t) hi hN hnc hkd hah hog hb)
    · intro u h1 h2
      have e : ∀ k, k < 3 → ag_YG N eb nc kd ae (nI t) (3 * u + k) = 0 := by
        intro k hk
        unfold ag_YG
        rw [ag_vf (fun z => ?_), Int32.mul_zero]
        have : (3 * u + k) / 3 < N := z.2.2.2.1
        omega
      show ag_YG N eb nc kd ae (nI t) (3 * u + 0) + ag_YG N eb nc kd ae (nI t) (3 * u + 1) + ag_YG N eb nc kd ae (nI t) (3 * u + 2) = 0
      rw [e 0 (by omega), e 1 (by omega), e 2 (by omega)]
      rfl
  have ex : ag_S (ag_XW eb nm vr nv og nc kd lo ah (nI t)) N = ag_S (fun u => if bt (nI t) u = true then 2 * nI (ag_C (fun k => ag_Q eb og kd lo ah (nI t) 1 (3 * u + k)) (nc u)) else 0) N + ag_S (ag_YN N nm vr (nI t)) N := by
    rw [← ag_Sadd]
    refine ag_Sc N (fun i hi => ?_)
    unfold ag_XW ag_YN
    by_cases c : bt (nI t) i = true
    · rw [if_pos c, if_pos c, if_pos c, hnv (nm i) (hnm i)]
    · rw [if_neg c, if_neg c, if_neg c]; rfl
  have ey : ag_S (ag_YW N nm vr (nI P) (nI t)) N = ag_S (ag_Y5 (nI P) (nI t)) N + ag_S (ag_Y3 (nI P) (nI t)) N + ag_S (ag_YN N nm vr (nI t)) N := by
    rw [← ag_Sadd, ← ag_Sadd]
    rfl
  unfold ag_XC ag_YC
  rw [ex, ey, eg, e5, e3]
  grind
theorem ag_best (w b : Int32) (hP : P < 2 ^ N) (hN : N ≤ 10) (hnm : ∀ j, nm j < 5) (hnv : ∀ c, c < 5 → nv c = ag_mx nm vr c N) (hnc : ∀ j, nc j ≤ 3) (hkd : ∀ j, kd j < 64 ∧ kd j % 8 ≤ 5) (hah : ∀ j, ah j ≤ 9) (hog : ag_OG N oc fd fv og) (hb : ∀ i, i < 30 → ag_HB N oc fd fv kd lo ah ae i 30) : ag_B (ag_ok (ag_YS N eb nm sg nc kd ae) w b) (fun i => ag_YC N P eb nm vr nc kd ae (nI i)) (2 ^ N) = ag_B (ag_ok (ag_XS N eb nm sg og nc kd lo ah) w b) (fun i => ag_XC N P eb nm vr nv og nc kd lo ah (nI i)) (2 ^ N) := by
  refine (ag_Bc (2 ^ N) (fun i hi => ?_) (fun i hi => ag_cst hi hP hN hnm hnv hnc hkd hah hog hb)).symm
  have e := ag_snd (eb := eb) (nm := nm) (sg := sg) (nI i) hN hnc hkd hah hog hb
  exact ⟨fun z => ⟨z.1, z.2.1, e.mp z.2.2⟩, fun z => ⟨z.1, z.2.1, e.mpr z.2.2⟩⟩
theorem ag_exc (w b : Int32) (hN : N ≤ 10) (hnc : ∀ j, nc j ≤ 3) (hkd : ∀ j, kd j < 64 ∧ kd j % 8 ≤ 5) (hah : ∀ j, ah j ≤ 9) (hog : ag_OG N oc fd fv og) (hb : ∀ i, i < 30 → ag_HB N oc fd fv kd lo ah ae i 30) : ag_E (ag_YS N eb nm sg nc kd ae) w b (2 ^ N) = ag_E (ag_XS N eb nm sg og nc kd lo ah) w b (2 ^ N) :=
  (ag_Ec (2 ^ N) (fun i _ => ag_snd (nI i) hN hnc hkd hah hog hb)).symm
theorem ag_E1 (w b : Int32) : ag_E (ag_XS N eb nm sg og nc kd lo ah) w b 1 = nI (ag_sz w) := by
  have e1 : w &&& (nI 0 ^^^ (-1)) = w := b_ext fun i hi => by
    rw [b_and, b_xor, b_m1 i hi, nI_0, b_0]
    cases bt w i <;> rfl
  have e2 : b &&& nI 0 = 0 := b_ext fun i hi => by
    rw [b_and, nI_0, b_0, Bool.and_false]
  have e3 : ag_sz 0 = 0 := (ag_C0 _ 10).mpr (fun u _ z => by
    rw [b_0] at z
    exact absurd z (by decide))
  have eg : ag_gv w b 0 = nI (ag_sz w) := by
    unfold ag_gv
    rw [e1, e2, e3, nI_add, Nat.add_zero]
  have hz : ag_sz w ≤ 10 := ag_Cle _ 10
  have h0 : ag_XS N eb nm sg og nc kd lo ah (nI 0) := fun u _ z => by
    rw [nI_0, b_0] at z
    exact absurd z (by decide)
  have h9 : ¬ ag_E (ag_XS N eb nm sg og nc kd lo ah) w b 0 ≤ ag_gv w b 0 := by
    rw [eg]
    exact nI_ge (b := 99) (by omega) (by decide)
  exact (ag_Et ⟨h9, h0⟩).trans eg
theorem ag_C10 (q : Nat → Prop) : ag_C q 10 = ag_n (q 0) + ag_n (q 1) + ag_n (q 2) + ag_n (q 3) + ag_n (q 4) + ag_n (q 5) + ag_n (q 6) + ag_n (q 7) + ag_n (q 8) + ag_n (q 9) := by
  show 0 + ag_n (q 0) + ag_n (q 1) + ag_n (q 2) + ag_n (q 3) + ag_n (q 4) + ag_n (q 5) + ag_n (q 6) + ag_n (q 7) + ag_n (q 8) + ag_n (q 9) = _
  rw [Nat.zero_add]
theorem ag_C20 (q : Nat → Prop) : ag_C q 20 = ag_C q 10 + (ag_n (q 10) + ag_n (q 11) + ag_n (q 12) + ag_n (q 13) + ag_n (q 14) + ag_n (q 15) + ag_n (q 16) + ag_n (q 17) + ag_n (q 18) + ag_n (q 19)) := by
  show ag_C q 10 + ag_n (q 10) + ag_n (q 11) + ag_n (q 12) + ag_n (q 13) + ag_n (q 14) + ag_n (q 15) + ag_n (q 16) + ag_n (q 17) + ag_n (q 18) + ag_n (q 19) = _
  omega
theorem ag_szc (p s : Int32) : ag_C (ag_c p s) 20 = ag_sz (p ^^^ s) := by
  have h1 : ∀ t u, t + u = 9 → ag_n (ag_c p s t) = ag_n (bt p u = true ∧ ¬ bt s u = true) := fun t u e => ag_ni (by
    unfold ag_c
    rw [show 9 - t = u by omega]
    exact ⟨fun z => z.elim (fun y => y.2) (fun y => absurd y.1 (by omega)), fun z => Or.inl ⟨by omega, z⟩⟩)
  have h2 : ∀ t u, t = 10 + u → ag_n (ag_c p s t) = ag_n (bt s u = true ∧ ¬ bt p u = true) := fun t u e => ag_ni (by
    unfold ag_c
    rw [show t - 10 = u by omega]
    exact ⟨fun z => z.elim (fun y => absurd y.1 (by omega)) (fun y => y.2), fun z => Or.inr ⟨by omega, z⟩⟩)
  have h3 : ∀ u, ag_n (bt (p ^^^ s) u = true) = ag_n (bt p u = true ∧ ¬ bt s u = true) + ag_n (bt s u = true ∧ ¬ bt p u = true) := fun u => by
    rw [b_xor]
    cases bt p u <;> cases bt s u
    · rw [ag_nf (by decide), ag_nf (by decide)]
    · rw [ag_nt (by decide), ag_nf (by decide), ag_nt (by decide)]
    · rw [ag_nt (by decide), ag_nt (by decide), ag_nf (by decide)]
    · rw [ag_nf (by decide), ag_nf (by decide)]
  unfold ag_sz
  rw [ag_C20, ag_C10, ag_C10, h3 0, h3 1, h3 2, h3 3, h3 4, h3 5, h3 6, h3 7, h3 8, h3 9]
  rw [h1 0 9 rfl, h1 1 8 rfl, h1 2 7 rfl, h1 3 6 rfl, h1 4 5 rfl, h1 5 4 rfl, h1 6 3 rfl, h1 7 2 rfl, h1 8 1 rfl, h1 9 0 rfl]
  rw [h2 10 0 rfl, h2 11 1 rfl, h2 12 2 rfl, h2 13 3 rfl, h2 14 4 rfl, h2 15 5 rfl, h2 16 6 rfl, h2 17 7 rfl, h2 18 8 rfl, h2 19 9 rfl]
  omega
theorem ag_mxu {a b c : Nat} : ∀ i, i ≤ N → ag_mx (ag_u nm N a) (ag_u vr N b) c i = ag_mx nm vr c i := by
  intro i
  induction i with
  | zero => intro _; rfl
  | succ i ih =>
    intro hi
    rw [ag_mx, ag_mx, ih (by omega), ag_un (by omega), ag_un (by omega)]
theorem ag_nNh {s : Nat} (hK : K ≤ 8) (h : ∀ j, j < 8 → nt j = hs j) : ∀ j, j < 8 → ag_nN nt K s j = ag_hN hs K s j := by
  intro j hj
  unfold ag_nN ag_hN
  by_cases k8 : K < 8
  · rw [if_pos k8, if_pos k8]
    by_cases e : j = K
    · rw [e, ag_us, ag_us]
    · rw [ag_un e, ag_un e, h j hj]
  · rw [if_neg k8, if_neg k8]
    unfold ag_D
    rw [if_pos hj]
    by_cases e : j = 7
    · rw [e, ag_us, ag_us]
    · rw [ag_un e, ag_un (by omega), if_pos (by omega), h (j + 1) (by omega)]
theorem ag_hNb {s M : Nat} (h : ∀ j, hs j < M) (hsM : s < M) : ∀ j, ag_hN hs K s j < M := by
  have h8 : ∀ i j, ag_u hs i s j < M := fun i j => by
    unfold ag_u
    by_cases e : j = i
    · rw [if_pos e]; exact hsM
    · rw [if_neg e]; exact h j
  intro j
  unfold ag_hN
  by_cases k8 : K < 8
  · rw [if_pos k8]; exact h8 K j
  · rw [if_neg k8]
    unfold ag_D
    by_cases e : j < 8
    · rw [if_pos e]; exact h8 8 _
    · rw [if_neg e]; exact h8 8 _
theorem ag_nK8 (hK : K ≤ 8) : ag_nK K ≤ 8 := by
  unfold ag_nK
  by_cases k8 : K < 8
  · rw [if_pos k8]; omega
  · rw [if_neg k8]; omega
theorem ag_ub {g : Nat → Nat} {i x M : Nat} (h : ∀ j, g j ≤ M) (hx : x ≤ M) : ∀ j, ag_u g i x j ≤ M := fun j => by
  unfold ag_u
  by_cases e : j = i
  · rw [if_pos e]; exact hx
  · rw [if_neg e]; exact h j
theorem ag_OGo {u x c v : Nat} (hN : N ≤ 10) (hu : u < N) (hx : oc u = x) (hx3 : x < 3) (hc : c < 6) (hv : v < 10) (hog : ag_OG N oc fd fv og) : ag_OG N (ag_u oc u (x + 1)) (ag_u fd (3 * u + x) c) (ag_u fv (3 * u + x) v) (upd og (c * 10 + v) (og (c * 10 + v) ||| ((1 : Int32) <<< (nI u &&& 31)))) := by
  intro c1 v1 hc1 hv1 b hb
  have old := hog c1 v1 hc1 hv1 b hb
  have rhs : (b < N ∧ ∃ k, k < 3 ∧ k < ag_u oc u (x + 1) b ∧ ag_u fd (3 * u + x) c (3 * b + k) = c1 ∧ ag_u fv (3 * u + x) v (3 * b + k) = v1) ↔ ((b < N ∧ ∃ k, k < 3 ∧ k < oc b ∧ fd (3 * b + k) = c1 ∧ fv (3 * b + k) = v1) ∨ (b = u ∧ c1 = c ∧ v1 = v)) := by
    constructor
    · rintro ⟨h1, k, h2, h3, h4, h5⟩
      by_cases e : b = u
      · subst e
        rw [ag_us] at h3
        by_cases ek : k = x
        · rw [ek, ag_us] at h4 h5
          exact Or.inr ⟨rfl, h4.symm, h5.symm⟩
        · rw [ag_un (by omega)] at h4 h5
          exact Or.inl ⟨h1, k, h2, by omega, h4, h5⟩
      · rw [ag_un e] at h3
        rw [ag_un (by omega)] at h4 h5
        exact Or.inl ⟨h1, k, h2, h3, h4, h5⟩
    · rintro (⟨h1, k, h2, h3, h4, h5⟩ | ⟨h1, h2, h3⟩)
      · refine ⟨h1, k, h2, ?_, ?_, ?_⟩
        · by_cases e : b = u
          · rw [e, ag_us]
            rw [e] at h3
            omega
          · rw [ag_un e]; exact h3
        · rw [ag_un (fun z => ?_)]
          · exact h4
          · have e : b = u := by omega
            rw [e] at h3
            omega
        · rw [ag_un (fun z => ?_)]
          · exact h5
          · have e : b = u := by omega
            rw [e] at h3
            omega
      · subst h1
        refine ⟨hu, x, hx3, ?_, ?_, ?_⟩
        · rw [ag_us]; omega
        · rw [ag_us, h2]
        · rw [ag_us, h3]
  rw [rhs, ← old]
  by_cases e : c1 = c ∧ v1 = v
  · obtain ⟨rfl, rfl⟩ := e
    rw [pk_us, b_or, ag_one (by omega) hb]
    by_cases eb : u = b
    · rw [decide_eq_true eb, Bool.or_true]
      exact ⟨fun _ => Or.inr ⟨eb.symm, rfl, rfl⟩, fun _ => rfl⟩
    · rw [decide_eq_false eb, Bool.or_false]
      exact ⟨Or.inl, fun z => z.elim id (fun y => absurd y.1.symm eb)⟩
  · rw [pk_un (by omega)]
    exact ⟨Or.inl, fun z => z.elim id (fun y => absurd y.2 e)⟩
theorem ag_OGu (hoz : ∀ j, N ≤ j → oc j = 0) (hog : ag_OG N oc fd fv og) : ag_OG (N + 1) oc fd fv og := by
  intro c v hc hv b hb
  rw [hog c v hc hv b hb]
  constructor
  · rintro ⟨h1, h2⟩
    exact ⟨by omega, h2⟩
  · rintro ⟨h1, k, h2, h3, h4⟩
    have : b < N := by
      refine Classical.byContradiction fun hn => ?_
      rw [hoz b (by omega)] at h3
      omega
    exact ⟨this, k, h2, h3, h4⟩
end
end
section
/-! the relation, and the methods that read -/
def ag_I (N P K : Nat) (nm vr nv oc nc kd lo ah nt fd fv hs : Nat → Nat) (og : Nat → Int32) : Prop :=
  N ≤ 10 ∧ P < 2 ^ N ∧ K ≤ 8 ∧ (∀ j, nm j < 5) ∧ (∀ j, vr j ≤ 9) ∧ (∀ c, c < 5 → nv c = ag_mx nm vr c N) ∧ (∀ j, oc j ≤ 3) ∧ (∀ j, N ≤ j → oc j = 0) ∧ (∀ j, nc j ≤ 3) ∧ (∀ j, kd j < 64 ∧ kd j % 8 ≤ 5) ∧ (∀ j, lo j ≤ 9) ∧ (∀ j, ah j ≤ 9) ∧ (∀ j, j < 8 → nt j = hs j) ∧ (∀ j, hs j < 2 ^ N) ∧ (∀ j, fd j ≤ 5) ∧ (∀ j, fv j ≤ 9) ∧ ag_OG N oc fd fv og
/-- both hold the same units, counts, needs, notes and touches; the component's kinds are the reference's, taken apart; its offers are the reference's, as sets of units -/
def i_Rel (k : Nat) (u : SX) (v : SY) : Prop := ∃ (N P K : Nat) (eb : Int32) (nm vr nv oc nc kd lo ah nt fd fv hs : Nat → Nat) (sg tc og ae : Nat → Int32), u = ((nI N), eb, (nI P), (nI K), (ag_f nm), (ag_f vr), sg, tc, (ag_f nv), (ag_f oc), og, (ag_f nc), (ag_f (ag_kc kd)), (ag_f lo), (ag_f ah), (ag_f (ag_kn kd)), (ag_f (ag_ko kd)), (ag_f nt)) ∧ v = ((nI N), eb, (nI P), (nI K), (ag_f nm), (ag_f vr), sg, (ag_f oc), (ag_f fd), (ag_f fv), (ag_f nc), (ag_f kd), (ag_f lo), (ag_f ah), ae, (ag_f hs), tc) ∧ ag_I N P K nm vr nv oc nc kd lo ah nt fd fv hs og
theorem i_up {k : Nat} {u : SX} {v : SY} (h : i_Rel k u v) : i_Rel (k + 5) u v := h
theorem ag_R {k N P K : Nat} {eb : Int32} {nm vr nv oc nc kd lo ah nt fd fv hs : Nat → Nat} {sg tc og ae : Nat → Int32} (H : ag_I N P K nm vr nv oc nc kd lo ah nt fd fv hs og) : i_Rel k ((nI N), eb, (nI P), (nI K), (ag_f nm), (ag_f vr), sg, tc, (ag_f nv), (ag_f oc), og, (ag_f nc), (ag_f (ag_kc kd)), (ag_f lo), (ag_f ah), (ag_f (ag_kn kd)), (ag_f (ag_ko kd)), (ag_f nt)) ((nI N), eb, (nI P), (nI K), (ag_f nm), (ag_f vr), sg, (ag_f oc), (ag_f fd), (ag_f fv), (ag_f nc), (ag_f kd), (ag_f lo), (ag_f ah), ae, (ag_f hs), tc) := ⟨N, P, K, eb, nm, vr, nv, oc, nc, kd, lo, ah, nt, fd, fv, hs, sg, tc, og, ae, rfl, rfl, H⟩
theorem i_vc0 : wpX_init (fun u => wpY_init (fun v => i_Rel 0 u v)) := by
  have c1 : ag_f (ag_kc fun _ => 0) = fun _ => 0 := funext fun _ => nI_0
  have c2 : ag_f (ag_kn fun _ => 0) = fun _ => 0 := funext fun _ => by show nI (0 / 8 % 4) = 0; decide
  have c3 : ag_f (ag_ko fun _ => 0) = fun _ => 0 := funext fun _ => by show nI (0 / 32) = 0; decide
  refine ⟨0, 0, 0, 0, fun _ => 0, fun _ => 0, fun _ => 0, fun _ => 0, fun _ => 0, fun _ => 0, fun _ => 0, fun _ => 0, fun _ => 0, fun _ => 0, fun _ => 0, fun _ => 0, fun _ => 0, fun _ => 0, fun _ => 0, fun _ => 0, by rw [ag_f0, c1, c2, c3, nI_0], by rw [ag_f0, nI_0], ?_⟩
  refine ⟨by decide, by decide, by decide, fun _ => Nat.zero_lt_succ 4, fun _ => Nat.zero_le 9, fun _ _ => rfl, fun _ => Nat.zero_le 3, fun _ _ => rfl, fun _ => Nat.zero_le 3, fun _ => by show 0 < 64 ∧ 0 % 8 ≤ 5; decide, fun _ => Nat.zero_le 9, fun _ => Nat.zero_le 9, fun _ _ => rfl, fun _ => by show 0 < 2 ^ 0; decide, fun _ => Nat.zero_le 5, fun _ => Nat.zero_le 9, fun c v hc hv b hb => ?_⟩
  exact ⟨fun z => absurd ((b_0 b).symm.trans z) (by decide), fun z => absurd z.1 (by omega)⟩
theorem ag_ix (x : Int32) {n : Nat} (hn : n < 2 ^ 31) : (x < 0 ∨ nI n ≤ x) ∨ ∃ j : Nat, j < n ∧ x = nI j := by
  rcases pk_ix x hn with h | h | h
  · exact Or.inl (Or.inl h)
  · exact Or.inl (Or.inr h)
  · exact Or.inr h
theorem ag_ge {x : Int32} {l : Nat} (hl : l < 2 ^ 31) (h : ¬ x < nI l) : ∃ b : Nat, l ≤ b ∧ b < 2 ^ 31 ∧ x = nI b := by
  by_cases h0 : x < 0
  · exact absurd (Int32.lt_of_lt_of_le h0 (nI_pos' hl)) h
  · obtain ⟨b, hb, rfl⟩ := nI_of h0
    rw [nI_ltI hb hl] at h
    exact ⟨b, by omega, hb, rfl⟩
theorem ag_ne2 {j : Nat} (hj : j < 2 ^ 31) : ¬ nI j = -2 := fun z => nI_pos hj (by rw [z]; decide)
theorem i_vc_environment {k : Nat} {u : SX} {v : SY} (I : i_Rel k u v) (hk : k + 5 ≤ 2560) (v1 : Int32) : wpX_environment (fun r u' => wpY_environment (fun r' v' => r' = r ∧ i_Rel (k + 5) u' v') v v1) u v1 := by
  obtain ⟨N, P, K, eb, nm, vr, nv, oc, nc, kd, lo, ah, nt, fd, fv, hs, sg, tc, og, ae, rfl, rfl, H⟩ := I
  by_cases h0 : v1 < 0
  · exact br_t h0 (br_t h0 ⟨rfl, ag_R H⟩)
  · by_cases h7 : v1 ≤ 7
    · exact br_f h0 (br_t h7 (br_f h0 (br_t h7 ⟨rfl, ag_R H⟩)))
    · exact br_f h0 (br_f h7 (br_f h0 (br_f h7 ⟨rfl, ag_R H⟩)))
theorem i_vc_units {k : Nat} {u : SX} {v : SY} (I : i_Rel k u v) (hk : k + 5 ≤ 2560) : wpX_units (fun r => wpY_units (fun r' => r' = r ∧ i_Rel (k + 5) u v) v) u := by
  obtain ⟨N, P, K, eb, nm, vr, nv, oc, nc, kd, lo, ah, nt, fd, fv, hs, sg, tc, og, ae, rfl, rfl, H⟩ := I
  exact ⟨rfl, ag_R H⟩
theorem i_vc_profile {k : Nat} {u : SX} {v : SY} (I : i_Rel k u v) (hk : k + 5 ≤ 2560) : wpX_profile (fun r => wpY_profile (fun r' => r' = r ∧ i_Rel (k + 5) u v) v) u := by
  obtain ⟨N, P, K, eb, nm, vr, nv, oc, nc, kd, lo, ah, nt, fd, fv, hs, sg, tc, og, ae, rfl, rfl, H⟩ := I
  exact ⟨rfl, ag_R H⟩
theorem i_vc_notes {k : Nat} {u : SX} {v : SY} (I : i_Rel k u v) (hk : k + 5 ≤ 2560) : wpX_notes (fun r => wpY_notes (fun r' => r' = r ∧ i_Rel (k + 5) u v) v) u := by
  obtain ⟨N, P, K, eb, nm, vr, nv, oc, nc, kd, lo, ah, nt, fd, fv, hs, sg, tc, og, ae, rfl, rfl, H⟩ := I
  exact ⟨rfl, ag_R H⟩
theorem i_vc_note {k : Nat} {u : SX} {v : SY} (I : i_Rel k u v) (hk : k + 5 ≤ 2560) (v1 : Int32) : wpX_note (fun r => wpY_note (fun r' => r' = r ∧ i_Rel (k + 5) u v) v v1) u v1 := by
  obtain ⟨N, P, K, eb, nm, vr, nv, oc, nc, kd, lo, ah, nt, fd, fv, hs, sg, tc, og, ae, rfl, rfl, H⟩ := I
  have R : ∀ ae : Nat → Int32, i_Rel (k + 5) ((nI N), eb, (nI P), (nI K), (ag_f nm), (ag_f vr), sg, tc, (ag_f nv), (ag_f oc), og, (ag_f nc), (ag_f (ag_kc kd)), (ag_f lo), (ag_f ah), (ag_f (ag_kn kd)), (ag_f (ag_ko kd)), (ag_f nt)) ((nI N), eb, (nI P), (nI K), (ag_f nm), (ag_f vr), sg, (ag_f oc), (ag_f fd), (ag_f fv), (ag_f nc), (ag_f kd), (ag_f lo), (ag_f ah), ae, (ag_f hs), tc) := fun ae => ag_R H
  obtain ⟨hN, hP, hK, hnm, hvr, hnv, hoc, hoz, hnc, hkd, hlo, hah, hns, hhs, hfd, hfv, hog⟩ := id H
  unfold wpX_note wpY_note
  rcases ag_ix v1 (n := K) (by omega) with hx | ⟨j, hj, rfl⟩
  · exact ag_Xgn_f hx (br_t rfl (br_c (fun _ => ⟨rfl, R ae⟩) (fun z => br_c (fun _ => ⟨rfl, R ae⟩) (fun y => absurd hx (fun w => w.elim z y)))))
  · refine ag_Xgn_t hK hj (br_f (by decide) ⟨pk_in j 8 (by omega), br_f (nI_pos (by omega)) (br_f (nI_ge hj (by omega)) (br_t (nI_le (b := 8) (by omega) (by decide)) ⟨pk_in j 9 (by omega), ?_, R ae⟩))⟩)
    rw [ag_at nt (by omega), ag_at hs (by omega), hns j (by omega)]
theorem i_vc_touched {k : Nat} {u : SX} {v : SY} (I : i_Rel k u v) (hk : k + 5 ≤ 2560) (v1 : Int32) : wpX_touched (fun r => wpY_touched (fun r' => r' = r ∧ i_Rel (k + 5) u v) v v1) u v1 := by
  obtain ⟨N, P, K, eb, nm, vr, nv, oc, nc, kd, lo, ah, nt, fd, fv, hs, sg, tc, og, ae, rfl, rfl, H⟩ := I
  have R : ∀ ae : Nat → Int32, i_Rel (k + 5) ((nI N), eb, (nI P), (nI K), (ag_f nm), (ag_f vr), sg, tc, (ag_f nv), (ag_f oc), og, (ag_f nc), (ag_f (ag_kc kd)), (ag_f lo), (ag_f ah), (ag_f (ag_kn kd)), (ag_f (ag_ko kd)), (ag_f nt)) ((nI N), eb, (nI P), (nI K), (ag_f nm), (ag_f vr), sg, (ag_f oc), (ag_f fd), (ag_f fv), (ag_f nc), (ag_f kd), (ag_f lo), (ag_f ah), ae, (ag_f hs), tc) := fun ae => ag_R H
  obtain ⟨hN, hP, hK, hnm, hvr, hnv, hoc, hoz, hnc, hkd, hlo, hah, hns, hhs, hfd, hfv, hog⟩ := id H
  unfold wpX_touched wpY_touched
  rcases ag_ix v1 (n := N) (by omega) with hx | ⟨j, hj, rfl⟩
  · exact ag_Xgu_f hx (br_t rfl (ag_Ybu_f hx (br_f (by decide) ⟨rfl, R ae⟩)))
  · have hj10 : vp_in (nI j) 10 := pk_in j 10 (by omega)
    exact ag_Xgu_t hN hj (br_f (by decide) ⟨hj10, ag_Ybu_t hN hj (br_t rfl ⟨hj10, rfl, R ae⟩)⟩)
theorem i_vc_sound {k : Nat} {u : SX} {v : SY} (I : i_Rel k u v) (hk : k + 5 ≤ 2560) (v1 : Int32) : wpX_sound (fun r => wpY_sound (fun r' v' => r' = r ∧ i_Rel (k + 5) u v') v v1) u v1 := by
  obtain ⟨N, P, K, eb, nm, vr, nv, oc, nc, kd, lo, ah, nt, fd, fv, hs, sg, tc, og, ae, rfl, rfl, H⟩ := I
  have R : ∀ ae : Nat → Int32, i_Rel (k + 5) ((nI N), eb, (nI P), (nI K), (ag_f nm), (ag_f vr), sg, tc, (ag_f nv), (ag_f oc), og, (ag_f nc), (ag_f (ag_kc kd)), (ag_f lo), (ag_f ah), (ag_f (ag_kn kd)), (ag_f (ag_ko kd)), (ag_f nt)) ((nI N), eb, (nI P), (nI K), (ag_f nm), (ag_f vr), sg, (ag_f oc), (ag_f fd), (ag_f fv), (ag_f nc), (ag_f kd), (ag_f lo), (ag_f ah), ae, (ag_f hs), tc) := fun ae => ag_R H
  obtain ⟨hN, hP, hK, hnm, hvr, hnv, hoc, hoz, hnc, hkd, hlo, hah, hns, hhs, hfd, hfv, hog⟩ := id H
  have hE := ag_pw hN
  unfold wpX_sound wpY_sound
  rcases ag_ix v1 (n := 2 ^ N) (by omega) with hx | ⟨t, ht, rfl⟩
  · exact ag_Xgs_f hN hx (br_t rfl (ag_Ybs_f hN hx (br_f (by decide) ⟨rfl, R ae⟩)))
  · refine ag_Xgs_t hN ht (br_f (by decide) (ag_Xsound (nI t) hN hnm hkd hlo hah hnc (ag_br (fun h1 => ?_) (fun h1 => ?_))))
    · exact ag_Ybs_t hN ht (br_t rfl (ag_Ylook hN hoc hkd hlo hah hfd hfv (fun ae' h' => ag_Ysound (nI t) hN hnm hnc hkd (ag_br (fun h2 => ⟨rfl, R ae'⟩) (fun h2 => absurd ((ag_snd (nI t) hN hnc hkd hah hog h').mp h1) h2)))))
    · exact ag_Ybs_t hN ht (br_t rfl (ag_Ylook hN hoc hkd hlo hah hfd hfv (fun ae' h' => ag_Ysound (nI t) hN hnm hnc hkd (ag_br (fun h2 => absurd ((ag_snd (nI t) hN hnc hkd hah hog h').mpr h2) h1) (fun h2 => ⟨rfl, R ae'⟩)))))
theorem i_vc_cost {k : Nat} {u : SX} {v : SY} (I : i_Rel k u v) (hk : k + 5 ≤ 2560) (v1 : Int32) : wpX_cost (fun r => wpY_cost (fun r' v' => r' = r ∧ i_Rel (k + 5) u v') v v1) u v1 := by
  obtain ⟨N, P, K, eb, nm, vr, nv, oc, nc, kd, lo, ah, nt, fd, fv, hs, sg, tc, og, ae, rfl, rfl, H⟩ := I
  have R : ∀ ae : Nat → Int32, i_Rel (k + 5) ((nI N), eb, (nI P), (nI K), (ag_f nm), (ag_f vr), sg, tc, (ag_f nv), (ag_f oc), og, (ag_f nc), (ag_f (ag_kc kd)), (ag_f lo), (ag_f ah), (ag_f (ag_kn kd)), (ag_f (ag_ko kd)), (ag_f nt)) ((nI N), eb, (nI P), (nI K), (ag_f nm), (ag_f vr), sg, (ag_f oc), (ag_f fd), (ag_f fv), (ag_f nc), (ag_f kd), (ag_f lo), (ag_f ah), ae, (ag_f hs), tc) := fun ae => ag_R H
  obtain ⟨hN, hP, hK, hnm, hvr, hnv, hoc, hoz, hnc, hkd, hlo, hah, hns, hhs, hfd, hfv, hog⟩ := id H
  have hE := ag_pw hN
  unfold wpX_cost wpY_cost
  rcases ag_ix v1 (n := 2 ^ N) (by omega) with hx | ⟨t, ht, rfl⟩
  · exact ag_Xgs_f hN hx (br_t rfl (ag_Ybs_f hN hx (br_f (by decide) ⟨rfl, R ae⟩)))
  · refine ag_Xgs_t hN ht (br_f (by decide) (ag_Xcost (nI t) hN hnm hkd hlo hah hnc ?_))
    exact ag_Ybs_t hN ht (br_t rfl (ag_Ylook hN hoc hkd hlo hah hfd hfv (fun ae' h' => ag_Yprice (nI t) hN hnm hvr hnc hkd ⟨(ag_cst ht hP hN hnm hnv hnc hkd hah hog h').symm, R ae'⟩)))
end
section
/-! the methods that plan and change -/
theorem i_vc_plan {k : Nat} {u : SX} {v : SY} (I : i_Rel k u v) (hk : k + 5 ≤ 2560) (v1 : Int32) (v2 : Int32) : wpX_plan (fun r => wpY_plan (fun r' v' => r' = r ∧ i_Rel (k + 5) u v') v v1 v2) u v1 v2 := by
  obtain ⟨N, P, K, eb, nm, vr, nv, oc, nc, kd, lo, ah, nt, fd, fv, hs, sg, tc, og, ae, rfl, rfl, H⟩ := I
  have R : ∀ ae : Nat → Int32, i_Rel (k + 5) ((nI N), eb, (nI P), (nI K), (ag_f nm), (ag_f vr), sg, tc, (ag_f nv), (ag_f oc), og, (ag_f nc), (ag_f (ag_kc kd)), (ag_f lo), (ag_f ah), (ag_f (ag_kn kd)), (ag_f (ag_ko kd)), (ag_f nt)) ((nI N), eb, (nI P), (nI K), (ag_f nm), (ag_f vr), sg, (ag_f oc), (ag_f fd), (ag_f fv), (ag_f nc), (ag_f kd), (ag_f lo), (ag_f ah), ae, (ag_f hs), tc) := fun ae => ag_R H
  obtain ⟨hN, hP, hK, hnm, hvr, hnv, hoc, hoz, hnc, hkd, hlo, hah, hns, hhs, hfd, hfv, hog⟩ := id H
  have hE := ag_pw hN
  unfold wpX_plan wpY_plan
  rcases ag_ix v1 (n := 2 ^ N) (by omega) with hx | ⟨w, hw, rfl⟩
  · exact ag_Xgs_f hN hx (br_t rfl (ag_Ybs_f hN hx (br_f (by decide) ⟨rfl, R ae⟩)))
  rcases ag_ix v2 (n := 2 ^ N) (by omega) with hx | ⟨b, hb, rfl⟩
  · exact ag_Xgs_t hN hw (br_f (by decide) (ag_Xgs_f hN hx (br_t rfl (ag_Ybs_t hN hw (br_t rfl (ag_Ybs_f hN hx (br_f (by decide) ⟨rfl, R ae⟩)))))))
  refine ag_Xgs_t hN hw (br_f (by decide) (ag_Xgs_t hN hb (br_f (by decide) (ag_Xbest (nI w) (nI b) hN hnm hkd hlo hah hnc ?_))))
  refine ag_Ybs_t hN hw (br_t rfl (ag_Ybs_t hN hb (br_t rfl (ag_Ybest (nI w) (nI b) hN hnm hvr hoc hnc hkd hlo hah hfd hfv (fun ae' h' => ?_)))))
  rw [ag_best (nI w) (nI b) hP hN hnm hnv hnc hkd hah hog h']
  exact ⟨rfl, R ae'⟩
theorem i_vc_planCost {k : Nat} {u : SX} {v : SY} (I : i_Rel k u v) (hk : k + 5 ≤ 2560) (v1 : Int32) (v2 : Int32) : wpX_planCost (fun r => wpY_planCost (fun r' v' => r' = r ∧ i_Rel (k + 5) u v') v v1 v2) u v1 v2 := by
  obtain ⟨N, P, K, eb, nm, vr, nv, oc, nc, kd, lo, ah, nt, fd, fv, hs, sg, tc, og, ae, rfl, rfl, H⟩ := I
  have R : ∀ ae : Nat → Int32, i_Rel (k + 5) ((nI N), eb, (nI P), (nI K), (ag_f nm), (ag_f vr), sg, tc, (ag_f nv), (ag_f oc), og, (ag_f nc), (ag_f (ag_kc kd)), (ag_f lo), (ag_f ah), (ag_f (ag_kn kd)), (ag_f (ag_ko kd)), (ag_f nt)) ((nI N), eb, (nI P), (nI K), (ag_f nm), (ag_f vr), sg, (ag_f oc), (ag_f fd), (ag_f fv), (ag_f nc), (ag_f kd), (ag_f lo), (ag_f ah), ae, (ag_f hs), tc) := fun ae => ag_R H
  obtain ⟨hN, hP, hK, hnm, hvr, hnv, hoc, hoz, hnc, hkd, hlo, hah, hns, hhs, hfd, hfv, hog⟩ := id H
  have hE := ag_pw hN
  unfold wpX_planCost wpY_planCost
  rcases ag_ix v1 (n := 2 ^ N) (by omega) with hx | ⟨w, hw, rfl⟩
  · exact ag_Xgs_f hN hx (br_t rfl (ag_Ybs_f hN hx (br_f (by decide) ⟨rfl, R ae⟩)))
  rcases ag_ix v2 (n := 2 ^ N) (by omega) with hx | ⟨b, hb, rfl⟩
  · exact ag_Xgs_t hN hw (br_f (by decide) (ag_Xgs_f hN hx (br_t rfl (ag_Ybs_t hN hw (br_t rfl (ag_Ybs_f hN hx (br_f (by decide) ⟨rfl, R ae⟩)))))))
  rcases ag_Bv (ok := ag_ok (ag_XS N eb nm sg og nc kd lo ah) (nI w) (nI b)) (ct := fun i => ag_XC N P eb nm vr nv og nc kd lo ah (nI i)) (2 ^ N) with e | ⟨j, hj, e⟩
  · refine ag_Xgs_t hN hw (br_f (by decide) (ag_Xgs_t hN hb (br_f (by decide) (ag_Xbest (nI w) (nI b) hN hnm hkd hlo hah hnc (br_t e ?_)))))
    refine ag_Ybs_t hN hw (br_t rfl (ag_Ybs_t hN hb (br_t rfl (ag_Ybest (nI w) (nI b) hN hnm hvr hoc hnc hkd hlo hah hfd hfv (fun ae' h' => ?_)))))
    rw [ag_best (nI w) (nI b) hP hN hnm hnv hnc hkd hah hog h', e]
    exact br_f (by decide) ⟨rfl, R ae'⟩
  · refine ag_Xgs_t hN hw (br_f (by decide) (ag_Xgs_t hN hb (br_f (by decide) (ag_Xbest (nI w) (nI b) hN hnm hkd hlo hah hnc ?_))))
    rw [e]
    refine br_f (ag_ne2 (by omega)) (ag_Xcost (nI j) hN hnm hkd hlo hah hnc ?_)
    refine ag_Ybs_t hN hw (br_t rfl (ag_Ybs_t hN hb (br_t rfl (ag_Ybest (nI w) (nI b) hN hnm hvr hoc hnc hkd hlo hah hfd hfv (fun ae' h' => ?_)))))
    rw [ag_best (nI w) (nI b) hP hN hnm hnv hnc hkd hah hog h', e]
    exact br_t (nI_pos' (by omega)) (ag_Yprice (nI j) hN hnm hvr hnc hkd ⟨(ag_cst hj hP hN hnm hnv hnc hkd hah hog h').symm, R ae'⟩)
theorem i_vc_excess {k : Nat} {u : SX} {v : SY} (I : i_Rel k u v) (hk : k + 5 ≤ 2560) (v1 : Int32) (v2 : Int32) : wpX_excess (fun r => wpY_excess (fun r' v' => r' = r ∧ i_Rel (k + 5) u v') v v1 v2) u v1 v2 := by
  obtain ⟨N, P, K, eb, nm, vr, nv, oc, nc, kd, lo, ah, nt, fd, fv, hs, sg, tc, og, ae, rfl, rfl, H⟩ := I
  have R : ∀ ae : Nat → Int32, i_Rel (k + 5) ((nI N), eb, (nI P), (nI K), (ag_f nm), (ag_f vr), sg, tc, (ag_f nv), (ag_f oc), og, (ag_f nc), (ag_f (ag_kc kd)), (ag_f lo), (ag_f ah), (ag_f (ag_kn kd)), (ag_f (ag_ko kd)), (ag_f nt)) ((nI N), eb, (nI P), (nI K), (ag_f nm), (ag_f vr), sg, (ag_f oc), (ag_f fd), (ag_f fv), (ag_f nc), (ag_f kd), (ag_f lo), (ag_f ah), ae, (ag_f hs), tc) := fun ae => ag_R H
  obtain ⟨hN, hP, hK, hnm, hvr, hnv, hoc, hoz, hnc, hkd, hlo, hah, hns, hhs, hfd, hfv, hog⟩ := id H
  have hE := ag_pw hN
  have hE0 : 0 < 2 ^ N := Nat.two_pow_pos N
  unfold wpX_excess wpY_excess
  rcases ag_ix v1 (n := 2 ^ N) (by omega) with hx | ⟨w, hw, rfl⟩
  · exact ag_Xgs_f hN hx (br_t rfl (ag_Ybs_f hN hx (br_f (by decide) ⟨rfl, R ae⟩)))
  rcases ag_ix v2 (n := 2 ^ N) (by omega) with hx | ⟨b, hb, rfl⟩
  · exact ag_Xgs_t hN hw (br_f (by decide) (ag_Xgs_f hN hx (br_t rfl (ag_Ybs_t hN hw (br_t rfl (ag_Ybs_f hN hx (br_f (by decide) ⟨rfl, R ae⟩)))))))
  refine ag_Xgs_t hN hw (br_f (by decide) (ag_Xgs_t hN hb (br_f (by decide) (ag_Xsize (nI w) (nm_r (ag_shl hN) ⟨2 ^ N - 1 + 1, ?_⟩)))))
  rw [← ag_E1 (N := N) (eb := eb) (nm := nm) (sg := sg) (og := og) (nc := nc) (kd := kd) (lo := lo) (ah := ah) (nI w) (nI b)]
  refine ag_Xexcess_go (nI w) (nI b) hN hnm hkd hlo hah hnc ?_ (2 ^ N - 1) 1 (by omega)
  refine ag_Ybs_t hN hw (br_t rfl (ag_Ybs_t hN hb (br_t rfl (ag_Ylook hN hoc hkd hlo hah hfd hfv (fun ae' h' => ⟨2 ^ N + 1, ag_Yexcess_go (nI w) (nI b) hN hnm hnc hkd ?_ (2 ^ N) 0 (by omega)⟩)))))
  exact ⟨ag_exc (nI w) (nI b) hN hnc hkd hah hog h', R ae'⟩
theorem ag_chg {k N P K j : Nat} {eb : Int32} {nm vr nv oc nc kd lo ah nt fd fv hs : Nat → Nat} {sg tc og ae : Nat → Int32} (H : ag_I N P K nm vr nv oc nc kd lo ah nt fd fv hs og) (hj : j < 2 ^ N) : nI (ag_C (ag_c (nI P) (nI j)) 20) = nI (ag_sz (nI P ^^^ nI j)) ∧ i_Rel k ((nI N), eb, (nI j), (nI (ag_nK K)), (ag_f nm), (ag_f vr), sg, (ag_G (ag_c (nI P) (nI j)) (ag_sz (nI P ^^^ nI j)) 1 tc 20), (ag_f nv), (ag_f oc), og, (ag_f nc), (ag_f (ag_kc kd)), (ag_f lo), (ag_f ah), (ag_f (ag_kn kd)), (ag_f (ag_ko kd)), (ag_f (ag_nN nt K j))) ((nI N), eb, (nI j), (nI (ag_nK K)), (ag_f nm), (ag_f vr), sg, (ag_f oc), (ag_f fd), (ag_f fv), (ag_f nc), (ag_f kd), (ag_f lo), (ag_f ah), ae, (ag_f (ag_hN hs K j)), (ag_G (ag_c (nI P) (nI j)) 20 1 tc 20)) := by
  obtain ⟨hN, hP, hK, hnm, hvr, hnv, hoc, hoz, hnc, hkd, hlo, hah, hns, hhs, hfd, hfv, hog⟩ := id H
  have hz := ag_szc (nI P) (nI j)
  have hl := ag_Cle (ag_c (nI P) (nI j)) 20
  rw [ag_Gm (tm := 1) (a := tc) (c := ag_c (nI P) (nI j)) (m := 20) (m' := ag_sz (nI P ^^^ nI j)) hl (by omega) 20 (by omega)]
  exact ⟨by rw [hz], ag_R ⟨hN, hj, ag_nK8 hK, hnm, hvr, hnv, hoc, hoz, hnc, hkd, hlo, hah, ag_nNh hK hns, ag_hNb hhs hj, hfd, hfv, hog⟩⟩
theorem i_vc_apply {k : Nat} {u : SX} {v : SY} (I : i_Rel k u v) (hk : k + 5 ≤ 2560) (v1 : Int32) (v2 : Int32) : wpX_apply (fun r u' => wpY_apply (fun r' v' => r' = r ∧ i_Rel (k + 5) u' v') v v1 v2) u v1 v2 := by
  obtain ⟨N, P, K, eb, nm, vr, nv, oc, nc, kd, lo, ah, nt, fd, fv, hs, sg, tc, og, ae, rfl, rfl, H⟩ := I
  have R : ∀ ae : Nat → Int32, i_Rel (k + 5) ((nI N), eb, (nI P), (nI K), (ag_f nm), (ag_f vr), sg, tc, (ag_f nv), (ag_f oc), og, (ag_f nc), (ag_f (ag_kc kd)), (ag_f lo), (ag_f ah), (ag_f (ag_kn kd)), (ag_f (ag_ko kd)), (ag_f nt)) ((nI N), eb, (nI P), (nI K), (ag_f nm), (ag_f vr), sg, (ag_f oc), (ag_f fd), (ag_f fv), (ag_f nc), (ag_f kd), (ag_f lo), (ag_f ah), ae, (ag_f hs), tc) := fun ae => ag_R H
  obtain ⟨hN, hP, hK, hnm, hvr, hnv, hoc, hoz, hnc, hkd, hlo, hah, hns, hhs, hfd, hfv, hog⟩ := id H
  have hE := ag_pw hN
  unfold wpX_apply wpY_apply
  rcases ag_ix v1 (n := 2 ^ N) (by omega) with hx | ⟨w, hw, rfl⟩
  · exact ag_Xgs_f hN hx (br_t rfl (ag_Ybs_f hN hx (br_f (by decide) ⟨rfl, R ae⟩)))
  rcases ag_ix v2 (n := 2 ^ N) (by omega) with hx | ⟨b, hb, rfl⟩
  · exact ag_Xgs_t hN hw (br_f (by decide) (ag_Xgs_f hN hx (br_t rfl (ag_Ybs_t hN hw (br_t rfl (ag_Ybs_f hN hx (br_f (by decide) ⟨rfl, R ae⟩)))))))
  rcases ag_Bv (ok := ag_ok (ag_XS N eb nm sg og nc kd lo ah) (nI w) (nI b)) (ct := fun i => ag_XC N P eb nm vr nv og nc kd lo ah (nI i)) (2 ^ N) with e | ⟨j, hj, e⟩
  · refine ag_Xgs_t hN hw (br_f (by decide) (ag_Xgs_t hN hb (br_f (by decide) (ag_Xbest (nI w) (nI b) hN hnm hkd hlo hah hnc (br_t e ?_)))))
    refine ag_Ybs_t hN hw (br_t rfl (ag_Ybs_t hN hb (br_t rfl (ag_Ybest (nI w) (nI b) hN hnm hvr hoc hnc hkd hlo hah hfd hfv (fun ae' h' => ?_)))))
    rw [ag_best (nI w) (nI b) hP hN hnm hnv hnc hkd hah hog h', e]
    exact br_f (by decide) ⟨rfl, R ae'⟩
  · refine ag_Xgs_t hN hw (br_f (by decide) (ag_Xgs_t hN hb (br_f (by decide) (ag_Xbest (nI w) (nI b) hN hnm hkd hlo hah hnc ?_))))
    rw [e]
    refine br_f (ag_ne2 (by omega)) (ag_Xchange j hK ?_)
    refine ag_Ybs_t hN hw (br_t rfl (ag_Ybs_t hN hb (br_t rfl (ag_Ybest (nI w) (nI b) hN hnm hvr hoc hnc hkd hlo hah hfd hfv (fun ae' h' => ?_)))))
    rw [ag_best (nI w) (nI b) hP hN hnm hnv hnc hkd hah hog h', e]
    exact br_t (nI_pos' (by omega)) (ag_Ychange j hK (ag_chg H hj))
theorem i_vc_revert {k : Nat} {u : SX} {v : SY} (I : i_Rel k u v) (hk : k + 5 ≤ 2560) (v1 : Int32) : wpX_revert (fun r u' => wpY_revert (fun r' v' => r' = r ∧ i_Rel (k + 5) u' v') v v1) u v1 := by
  obtain ⟨N, P, K, eb, nm, vr, nv, oc, nc, kd, lo, ah, nt, fd, fv, hs, sg, tc, og, ae, rfl, rfl, H⟩ := I
  have R : ∀ ae : Nat → Int32, i_Rel (k + 5) ((nI N), eb, (nI P), (nI K), (ag_f nm), (ag_f vr), sg, tc, (ag_f nv), (ag_f oc), og, (ag_f nc), (ag_f (ag_kc kd)), (ag_f lo), (ag_f ah), (ag_f (ag_kn kd)), (ag_f (ag_ko kd)), (ag_f nt)) ((nI N), eb, (nI P), (nI K), (ag_f nm), (ag_f vr), sg, (ag_f oc), (ag_f fd), (ag_f fv), (ag_f nc), (ag_f kd), (ag_f lo), (ag_f ah), ae, (ag_f hs), tc) := fun ae => ag_R H
  obtain ⟨hN, hP, hK, hnm, hvr, hnv, hoc, hoz, hnc, hkd, hlo, hah, hns, hhs, hfd, hfv, hog⟩ := id H
  unfold wpX_revert wpY_revert
  rcases ag_ix v1 (n := K) (by omega) with hx | ⟨j, hj, rfl⟩
  · exact ag_Xgn_f hx (br_t rfl (br_c (fun _ => ⟨rfl, R ae⟩) (fun z => br_c (fun _ => ⟨rfl, R ae⟩) (fun y => absurd hx (fun w => w.elim z y)))))
  · refine ag_Xgn_t hK hj (br_f (by decide) ⟨pk_in j 8 (by omega), ?_⟩)
    rw [ag_at nt (by omega), hns j (by omega)]
    refine ag_Xchange (hs j) hK (br_f (nI_pos (by omega)) (br_f (nI_ge hj (by omega)) (br_t (nI_le (b := 8) (by omega) (by decide)) ⟨pk_in j 9 (by omega), ?_⟩)))
    rw [ag_at hs (by omega)]
    exact ag_Ychange (hs j) hK (ag_chg H (hhs j))
theorem i_vc_fail {k : Nat} {u : SX} {v : SY} (I : i_Rel k u v) (hk : k + 5 ≤ 2560) (v1 : Int32) (v2 : Int32) (v3 : Int32) : wpX_fail (fun r u' => wpY_fail (fun r' v' => r' = r ∧ i_Rel (k + 5) u' v') v v1 v2 v3) u v1 v2 v3 := by
  obtain ⟨N, P, K, eb, nm, vr, nv, oc, nc, kd, lo, ah, nt, fd, fv, hs, sg, tc, og, ae, rfl, rfl, H⟩ := I
  have R : ∀ ae : Nat → Int32, i_Rel (k + 5) ((nI N), eb, (nI P), (nI K), (ag_f nm), (ag_f vr), sg, tc, (ag_f nv), (ag_f oc), og, (ag_f nc), (ag_f (ag_kc kd)), (ag_f lo), (ag_f ah), (ag_f (ag_kn kd)), (ag_f (ag_ko kd)), (ag_f nt)) ((nI N), eb, (nI P), (nI K), (ag_f nm), (ag_f vr), sg, (ag_f oc), (ag_f fd), (ag_f fv), (ag_f nc), (ag_f kd), (ag_f lo), (ag_f ah), ae, (ag_f hs), tc) := fun ae => ag_R H
  obtain ⟨hN, hP, hK, hnm, hvr, hnv, hoc, hoz, hnc, hkd, hlo, hah, hns, hhs, hfd, hfv, hog⟩ := id H
  have hE := ag_pw hN
  unfold wpX_fail wpY_fail
  rcases ag_ix v1 (n := 2 ^ N) (by omega) with hx | ⟨w, hw, rfl⟩
  · exact ag_Xgs_f hN hx (br_t rfl (ag_Ybs_f hN hx (br_f (by decide) ⟨rfl, R ae⟩)))
  rcases ag_ix v2 (n := 2 ^ N) (by omega) with hx | ⟨b, hb, rfl⟩
  · exact ag_Xgs_t hN hw (br_f (by decide) (ag_Xgs_f hN hx (br_t rfl (ag_Ybs_t hN hw (br_t rfl (ag_Ybs_f hN hx (br_f (by decide) ⟨rfl, R ae⟩)))))))
  rcases ag_Bv (ok := ag_ok (ag_XS N eb nm sg og nc kd lo ah) (nI w) (nI b)) (ct := fun i => ag_XC N P eb nm vr nv og nc kd lo ah (nI i)) (2 ^ N) with e | ⟨j, hj, e⟩
  · refine ag_Xgs_t hN hw (br_f (by decide) (ag_Xgs_t hN hb (br_f (by decide) (ag_Xbest (nI w) (nI b) hN hnm hkd hlo hah hnc (br_t e ?_)))))
    refine ag_Ybs_t hN hw (br_t rfl (ag_Ybs_t hN hb (br_t rfl (ag_Ybest (nI w) (nI b) hN hnm hvr hoc hnc hkd hlo hah hfd hfv (fun ae' h' => ?_)))))
    rw [ag_best (nI w) (nI b) hP hN hnm hnv hnc hkd hah hog h', e]
    exact br_f (by decide) ⟨rfl, R ae'⟩
  · refine ag_Xgs_t hN hw (br_f (by decide) (ag_Xgs_t hN hb (br_f (by decide) (ag_Xbest (nI w) (nI b) hN hnm hkd hlo hah hnc ?_))))
    rw [e]
    have hz : ag_sz (nI P ^^^ nI j) ≤ 10 := ag_Cle _ 10
    have ex : nI j ^^^ nI P = nI P ^^^ nI j := Int32.xor_comm _ _
    by_cases h3 : v3 < 0
    · refine br_f (ag_ne2 (by omega)) (br_t h3 ?_)
      refine ag_Ybs_t hN hw (br_t rfl (ag_Ybs_t hN hb (br_t rfl (ag_Ybest (nI w) (nI b) hN hnm hvr hoc hnc hkd hlo hah hfd hfv (fun ae' h' => ?_)))))
      rw [ag_best (nI w) (nI b) hP hN hnm hnv hnc hkd hah hog h', e]
      exact br_t (nI_pos' (by omega)) (ag_Ysize _ (br_t h3 ⟨rfl, R ae'⟩))
    · obtain ⟨q, hq, rfl⟩ := nI_of h3
      by_cases hqs : q < ag_sz (nI P ^^^ nI j)
      · refine br_f (ag_ne2 (by omega)) (br_f h3 (ag_Xsize _ (br_t (nI_lt hqs (by omega)) (ag_Xtouch (nI j) q 2 (by omega) ?_))))
        refine ag_Ybs_t hN hw (br_t rfl (ag_Ybs_t hN hb (br_t rfl (ag_Ybest (nI w) (nI b) hN hnm hvr hoc hnc hkd hlo hah hfd hfv (fun ae' h' => ?_)))))
        rw [ag_best (nI w) (nI b) hP hN hnm hnv hnc hkd hah hog h', e]
        refine br_t (nI_pos' (by omega)) (ag_Ysize _ (br_f h3 (br_t ?_ (ag_Ystep (nI j) q 2 (by omega) ⟨rfl, ag_R H⟩))))
        rw [ex]
        exact nI_lt hqs (by omega)
      · refine br_f (ag_ne2 (by omega)) (br_f h3 (ag_Xsize _ (br_f (nI_nlt (by omega) hq) ?_)))
        refine ag_Ybs_t hN hw (br_t rfl (ag_Ybs_t hN hb (br_t rfl (ag_Ybest (nI w) (nI b) hN hnm hvr hoc hnc hkd hlo hah hfd hfv (fun ae' h' => ?_)))))
        rw [ag_best (nI w) (nI b) hP hN hnm hnv hnc hkd hah hog h', e]
        refine br_t (nI_pos' (by omega)) (ag_Ysize _ (br_f h3 (br_f ?_ ⟨rfl, R ae'⟩)))
        rw [ex]
        exact nI_nlt (by omega) hq
end
section
/-! the methods that build: unit, offer, need -/
theorem ag_upb {N P : Nat} (h : P < 2 ^ N) : P < 2 ^ (N + 1) := Nat.lt_of_lt_of_le h (Nat.pow_le_pow_right (by decide) (by omega))
theorem ag_Iu {N P K a b : Nat} {nm vr nv nw oc nc kd lo ah nt fd fv hs : Nat → Nat} {og : Nat → Int32} (H : ag_I N P K nm vr nv oc nc kd lo ah nt fd fv hs og) (h10 : N < 10) (ha : a < 5) (hb : b ≤ 9) (hw : ∀ c, c < 5 → nw c = if a = c then (if b ≤ nv c then nv c else b) else nv c) : ag_I (N + 1) P K (ag_u nm N a) (ag_u vr N b) nw oc nc kd lo ah nt fd fv hs og := by
  obtain ⟨hN, hP, hK, hnm, hvr, hnv, hoc, hoz, hnc, hkd, hlo, hah, hns, hhs, hfd, hfv, hog⟩ := id H
  refine ⟨by omega, ag_upb hP, hK, fun j => ?_, ag_ub hvr hb, fun c hc => ?_, hoc, fun j hj => hoz j (by omega), hnc, hkd, hlo, hah, hns, fun j => ag_upb (hhs j), hfd, hfv, ag_OGu hoz hog⟩
  · unfold ag_u
    by_cases e : j = N
    · rw [if_pos e]; exact ha
    · rw [if_neg e]; exact hnm j
  · rw [ag_mx, ag_us, ag_us, ag_mxu N (Nat.le_refl N), hw c hc, hnv c hc]
theorem ag_U104 {post : Int32 → SX → Prop} {N P K a b : Nat} {eb : Int32} {nm vr nv oc nc kd lo ah nt : Nat → Nat} {sg tc og : Nat → Int32} (z : Int32) (ha : a < 5) (hb : b ≤ 9) (h10 : N < 10) (hnv9 : ∀ c, c < 5 → nv c ≤ 9) (h : ∀ nw : Nat → Nat, (∀ c, c < 5 → nw c = if a = c then (if b ≤ nv c then nv c else b) else nv c) → post (nI N) ((nI (N + 1)), eb, (nI P), (nI K), (ag_f nm), (ag_f vr), (upd sg N (vp_nar .boolean z)), tc, (ag_f nw), (ag_f oc), og, (ag_f nc), (ag_f (ag_kc kd)), (ag_f lo), (ag_f ah), (ag_f (ag_kn kd)), (ag_f (ag_ko kd)), (ag_f nt))) : wX_unit_86 post (nI a) (nI b) (nI N) z (nI N) (nI N) eb (nI P) (nI K) (ag_f nm) (ag_f vr) sg tc (ag_f nv) (ag_f oc) og (ag_f nc) (ag_f (ag_kc kd)) (ag_f lo) (ag_f ah) (ag_f (ag_kn kd)) (ag_f (ag_ko kd)) (ag_f nt) := by
  unfold wX_unit_86
  have ha5 : vp_in (nI a) 5 := pk_in a 5 ha
  have n9 := hnv9 a ha
  refine ⟨pk_in N 10 h10, nm_r (by rw [nI_clamp (by omega)]) ⟨ha5, pk_le b (nv a) (fun e => ?_) (fun e => ⟨ha5, nm_r (by rw [nI_clamp (by omega), ag_fu]) ?_⟩) rfl (ag_at nv (by omega))⟩⟩
  · refine nm_r (nI_1 N) (h nv (fun c hc => ?_))
    by_cases ec : a = c
    · rw [if_pos ec, if_pos (by rw [← ec]; exact e)]
    · rw [if_neg ec]
  · refine nm_r (nI_1 N) (h (ag_u nv a b) (fun c hc => ?_))
    by_cases ec : a = c
    · rw [if_pos ec, if_neg (by rw [← ec]; omega), ← ec, ag_us]
    · rw [if_neg ec, ag_un (fun y => ec y.symm)]
theorem i_vc_unit {k : Nat} {u : SX} {v : SY} (I : i_Rel k u v) (hk : k + 5 ≤ 2560) (v1 : Int32) (v2 : Int32) (v3 : Int32) : wpX_unit (fun r u' => wpY_unit (fun r' v' => r' = r ∧ i_Rel (k + 5) u' v') v v1 v2 v3) u v1 v2 v3 := by
  obtain ⟨N, P, K, eb, nm, vr, nv, oc, nc, kd, lo, ah, nt, fd, fv, hs, sg, tc, og, ae, rfl, rfl, H⟩ := I
  have R : ∀ ae : Nat → Int32, i_Rel (k + 5) ((nI N), eb, (nI P), (nI K), (ag_f nm), (ag_f vr), sg, tc, (ag_f nv), (ag_f oc), og, (ag_f nc), (ag_f (ag_kc kd)), (ag_f lo), (ag_f ah), (ag_f (ag_kn kd)), (ag_f (ag_ko kd)), (ag_f nt)) ((nI N), eb, (nI P), (nI K), (ag_f nm), (ag_f vr), sg, (ag_f oc), (ag_f fd), (ag_f fv), (ag_f nc), (ag_f kd), (ag_f lo), (ag_f ah), ae, (ag_f hs), tc) := fun ae => ag_R H
  obtain ⟨hN, hP, hK, hnm, hvr, hnv, hoc, hoz, hnc, hkd, hlo, hah, hns, hhs, hfd, hfv, hog⟩ := id H
  unfold wpX_unit wpY_unit
  by_cases a0 : v1 < 0
  · exact br_t a0 (br_t a0 ⟨rfl, R ae⟩)
  obtain ⟨a, ha, rfl⟩ := nI_of a0
  by_cases a5 : a < 5
  rotate_left
  · exact br_f a0 (br_f (nI_nlt (b := 5) (by omega) ha) (br_f a0 (br_f (nI_ge (a := 4) (by omega) ha) ⟨rfl, R ae⟩)))
  have xa : nI a < 5 := nI_lt (b := 5) a5 (by decide)
  have ya : nI a ≤ 4 := nI_le (b := 4) (by omega) (by decide)
  by_cases g1 : v2 < 1
  · exact br_f a0 (br_t xa (br_t g1 (br_f a0 (br_t ya (br_t g1 ⟨rfl, R ae⟩)))))
  obtain ⟨b, hb1, hb, rfl⟩ := ag_ge (l := 1) (by decide) g1
  by_cases b9 : b ≤ 9
  rotate_left
  · have xb : ¬ nI b ≤ 9 := nI_ge (a := 9) (by omega) hb
    exact br_f a0 (br_t xa (br_f g1 (br_f xb (br_f a0 (br_t ya (br_f g1 (br_f xb ⟨rfl, R ae⟩)))))))
  have xb : nI b ≤ 9 := nI_le (b := 9) b9 (by decide)
  refine br_f a0 (br_t xa (br_f g1 (br_t xb (ag_Xlisted (by omega) (by omega) hN hnm hvr (ag_br (fun hL => ?_) (fun hL => ?_))))))
  · exact br_f a0 (br_t ya (br_f g1 (br_t xb ⟨N + 1, ag_Y28_go v3 (by omega) (by omega) hN hnm hvr (fun _ => ⟨rfl, R ae⟩) (fun z => absurd hL z) N 0 (by omega) (fun j hj => absurd hj (by omega))⟩)))
  by_cases h10 : N < 10
  rotate_left
  · refine br_f (nI_nlt (b := 10) (by omega) (by omega)) (br_f a0 (br_t ya (br_f g1 (br_t xb ⟨N + 1, ag_Y28_go v3 (by omega) (by omega) hN hnm hvr (fun z => absurd z hL) (fun _ => ?_) N 0 (by omega) (fun j hj => absurd hj (by omega))⟩))))
    unfold wY_unit_75
    exact br_f (nI_ge (a := 9) (by omega) (by omega)) ⟨rfl, R ae⟩
  have hN10 : vp_in (nI N) 10 := pk_in N 10 h10
  have en : upd (ag_f nm) (nI N).toNatClampNeg (nI a) = ag_f (ag_u nm N a) := by rw [nI_clamp (by omega), ag_fu]
  have ev : upd (ag_f vr) (nI N).toNatClampNeg (nI b) = ag_f (ag_u vr N b) := by rw [nI_clamp (by omega), ag_fu]
  have hnv9 : ∀ c, c < 5 → nv c ≤ 9 := fun c hc => by rw [hnv c hc]; exact ag_mx9 hvr N
  refine br_t (nI_lt (b := 10) h10 (by decide)) ⟨hN10, nm_r en ⟨hN10, nm_r ev ?_⟩⟩
  by_cases z3 : v3 = 0
  · refine br_t z3 (ag_U104 0 a5 b9 h10 hnv9 (fun nw hw => ?_))
    refine br_f a0 (br_t ya (br_f g1 (br_t xb ⟨N + 1, ag_Y28_go v3 (by omega) (by omega) hN hnm hvr (fun z => absurd z hL) (fun _ => ?_) N 0 (by omega) (fun j hj => absurd hj (by omega))⟩)))
    unfold wY_unit_75
    refine br_t (nI_le (b := 9) (by omega) (by decide)) ⟨hN10, nm_r en ⟨hN10, nm_r ev (br_t z3 ?_)⟩⟩
    unfold wY_unit_122
    exact ⟨hN10, nm_r (by rw [nI_clamp (by omega)]) (nm_r (nI_1 N) ⟨rfl, ag_R (ag_Iu H h10 a5 b9 hw)⟩)⟩
  · refine br_f z3 (ag_U104 1 a5 b9 h10 hnv9 (fun nw hw => ?_))
    refine br_f a0 (br_t ya (br_f g1 (br_t xb ⟨N + 1, ag_Y28_go v3 (by omega) (by omega) hN hnm hvr (fun z => absurd z hL) (fun _ => ?_) N 0 (by omega) (fun j hj => absurd hj (by omega))⟩)))
    unfold wY_unit_75
    refine br_t (nI_le (b := 9) (by omega) (by decide)) ⟨hN10, nm_r en ⟨hN10, nm_r ev (br_f z3 ?_)⟩⟩
    unfold wY_unit_122
    exact ⟨hN10, nm_r (by rw [nI_clamp (by omega)]) (nm_r (nI_1 N) ⟨rfl, ag_R (ag_Iu H h10 a5 b9 hw)⟩)⟩
theorem i_vc_offer {k : Nat} {u : SX} {v : SY} (I : i_Rel k u v) (hk : k + 5 ≤ 2560) (v1 : Int32) (v2 : Int32) (v3 : Int32) : wpX_offer (fun r u' => wpY_offer (fun r' v' => r' = r ∧ i_Rel (k + 5) u' v') v v1 v2 v3) u v1 v2 v3 := by
  obtain ⟨N, P, K, eb, nm, vr, nv, oc, nc, kd, lo, ah, nt, fd, fv, hs, sg, tc, og, ae, rfl, rfl, H⟩ := I
  have R : ∀ ae : Nat → Int32, i_Rel (k + 5) ((nI N), eb, (nI P), (nI K), (ag_f nm), (ag_f vr), sg, tc, (ag_f nv), (ag_f oc), og, (ag_f nc), (ag_f (ag_kc kd)), (ag_f lo), (ag_f ah), (ag_f (ag_kn kd)), (ag_f (ag_ko kd)), (ag_f nt)) ((nI N), eb, (nI P), (nI K), (ag_f nm), (ag_f vr), sg, (ag_f oc), (ag_f fd), (ag_f fv), (ag_f nc), (ag_f kd), (ag_f lo), (ag_f ah), ae, (ag_f hs), tc) := fun ae => ag_R H
  obtain ⟨hN, hP, hK, hnm, hvr, hnv, hoc, hoz, hnc, hkd, hlo, hah, hns, hhs, hfd, hfv, hog⟩ := id H
  unfold wpX_offer wpY_offer
  rcases ag_ix v1 (n := N) (by omega) with hx | ⟨u, hu, rfl⟩
  · exact ag_Xgu_f hx (br_t rfl (ag_Ybu_f hx (br_f (by decide) ⟨rfl, R ae⟩)))
  by_cases c0 : v2 < 0
  · exact ag_Xgu_t hN hu (br_f (by decide) (br_t c0 (ag_Ybu_t hN hu (br_t rfl (br_t c0 ⟨rfl, R ae⟩)))))
  obtain ⟨c, hc, rfl⟩ := nI_of c0
  by_cases c6 : c < 6
  rotate_left
  · exact ag_Xgu_t hN hu (br_f (by decide) (br_f c0 (br_f (nI_nlt (b := 6) (by omega) hc) (ag_Ybu_t hN hu (br_t rfl (br_f c0 (br_f (nI_ge (a := 5) (by omega) hc) ⟨rfl, R ae⟩)))))))
  by_cases g1 : v3 < 1
  · exact ag_Xgu_t hN hu (br_f (by decide) (br_f c0 (br_t (nI_lt (b := 6) c6 (by decide)) (br_t g1 (ag_Ybu_t hN hu (br_t rfl (br_f c0 (br_t (nI_le (b := 5) (by omega) (by decide)) (br_t g1 ⟨rfl, R ae⟩)))))))))
  obtain ⟨x, hx1, hx, rfl⟩ := ag_ge (l := 1) (by decide) g1
  by_cases v9 : x ≤ 9
  rotate_left
  · exact ag_Xgu_t hN hu (br_f (by decide) (br_f c0 (br_t (nI_lt (b := 6) c6 (by decide)) (br_f g1 (br_f (nI_ge (a := 9) (by omega) hx) (ag_Ybu_t hN hu (br_t rfl (br_f c0 (br_t (nI_le (b := 5) (by omega) (by decide)) (br_f g1 (br_f (nI_ge (a := 9) (by omega) hx) ⟨rfl, R ae⟩)))))))))))
  have hu10 : vp_in (nI u) 10 := pk_in u 10 (by omega)
  have o3 := hoc u
  have eo : ag_f oc (nI u).toNatClampNeg = nI (oc u) := ag_at oc (by omega)
  by_cases k3 : oc u < 3
  rotate_left
  · exact ag_Xgu_t hN hu (br_f (by decide) (br_f c0 (br_t (nI_lt (b := 6) c6 (by decide)) (br_f g1 (br_t (nI_le (b := 9) v9 (by decide)) ⟨hu10, br_f (by rw [eo]; exact nI_nlt (b := 3) (by omega) (by omega)) (ag_Ybu_t hN hu (br_t rfl (br_f c0 (br_t (nI_le (b := 5) (by omega) (by decide)) (br_f g1 (br_t (nI_le (b := 9) v9 (by decide)) ⟨hu10, nm_r eo (br_f (nI_ge (a := 2) (by omega) (by omega)) ⟨rfl, R ae⟩)⟩))))))⟩)))))
  have e10 : nI c * 10 + nI x = nI (c * 10 + x) := by
    rw [show nI c * 10 = nI (c * 10) from pk_mul c 10, nI_add]
  have i60 : vp_in (nI c * 10 + nI x) 60 := by
    rw [e10]
    exact pk_in (c * 10 + x) 60 (by omega)
  have ep : 3 * nI u + nI (oc u) = nI (3 * u + oc u) := by
    rw [show 3 * nI u = nI (3 * u) from pk_mul 3 u, nI_add]
  have i30 : vp_in (3 * nI u + nI (oc u)) 30 := by
    rw [ep]
    exact pk_in (3 * u + oc u) 30 (by omega)
  have eog : upd og (nI c * 10 + nI x).toNatClampNeg (og (nI c * 10 + nI x).toNatClampNeg ||| ((1 : Int32) <<< (nI u &&& 31))) = upd og (c * 10 + x) (og (c * 10 + x) ||| ((1 : Int32) <<< (nI u &&& 31))) := by rw [e10, nI_clamp (by omega)]
  have eoc : upd (ag_f oc) (nI u).toNatClampNeg (ag_f oc (nI u).toNatClampNeg + 1) = ag_f (ag_u oc u (oc u + 1)) := by rw [eo, nI_clamp (by omega), nI_1, ag_fu]
  have eoc' : upd (ag_f oc) (nI u).toNatClampNeg (nI (oc u) + 1) = ag_f (ag_u oc u (oc u + 1)) := by rw [nI_clamp (by omega), nI_1, ag_fu]
  have efd : upd (ag_f fd) (3 * nI u + nI (oc u)).toNatClampNeg (nI c) = ag_f (ag_u fd (3 * u + oc u) c) := by rw [ep, nI_clamp (by omega), ag_fu]
  have efv : upd (ag_f fv) (3 * nI u + nI (oc u)).toNatClampNeg (nI x) = ag_f (ag_u fv (3 * u + oc u) x) := by rw [ep, nI_clamp (by omega), ag_fu]
  have er : nI (oc u) + 1 = ag_f (ag_u oc u (oc u + 1)) (nI u).toNatClampNeg := by rw [ag_at _ (by omega), ag_us, nI_1]
  have H' : ag_I N P K nm vr nv (ag_u oc u (oc u + 1)) nc kd lo ah nt (ag_u fd (3 * u + oc u) c) (ag_u fv (3 * u + oc u) x) hs (upd og (c * 10 + x) (og (c * 10 + x) ||| ((1 : Int32) <<< (nI u &&& 31)))) := by
    refine ⟨hN, hP, hK, hnm, hvr, hnv, ag_ub hoc (by omega), fun j hj => ?_, hnc, hkd, hlo, hah, hns, hhs, ag_ub hfd (by omega), ag_ub hfv (by omega), ag_OGo hN hu rfl k3 c6 (by omega) hog⟩
    rw [ag_un (by omega)]
    exact hoz j hj
  refine ag_Xgu_t hN hu (br_f (by decide) (br_f c0 (br_t (nI_lt (b := 6) c6 (by decide)) (br_f g1 (br_t (nI_le (b := 9) v9 (by decide)) ⟨hu10, br_t (by rw [eo]; exact nI_lt (b := 3) k3 (by decide)) ⟨i60, i60, nm_r eog ⟨hu10, hu10, nm_r eoc ⟨hu10, ?_⟩⟩⟩⟩)))))
  exact ag_Ybu_t hN hu (br_t rfl (br_f c0 (br_t (nI_le (b := 5) (by omega) (by decide)) (br_f g1 (br_t (nI_le (b := 9) v9 (by decide)) ⟨hu10, nm_r eo (br_t (nI_le (b := 2) (by omega) (by decide)) ⟨i30, nm_r efd ⟨i30, nm_r efv ⟨hu10, nm_r eoc' ⟨er, ag_R H'⟩⟩⟩⟩)⟩)))))
theorem ag_N119 {post : Int32 → SX → Prop} {N P K u p q l h x : Nat} {eb : Int32} {nm vr nv oc nc kd lo ah nt : Nat → Nat} {sg tc og ko : Nat → Int32} (z : Int32) (hu : u < 10) (hp : p < 30) (hz : vp_nar .boolean z = nI q) (hx : nc u = x) (hx3 : x < 3) (hh : post (nI (x + 1)) ((nI N), eb, (nI P), (nI K), (ag_f nm), (ag_f vr), sg, tc, (ag_f nv), (ag_f oc), og, (ag_f (ag_u nc u (x + 1))), (ag_f (ag_kc kd)), (ag_f (ag_u lo p l)), (ag_f (ag_u ah p h)), (ag_f (ag_kn kd)), (upd ko p (nI q)), (ag_f nt))) : wX_need_119 post (nI u) (nI l) (nI h) (nI p) z (nI p) (nI N) eb (nI P) (nI K) (ag_f nm) (ag_f vr) sg tc (ag_f nv) (ag_f oc) og (ag_f nc) (ag_f (ag_kc kd)) (ag_f lo) (ag_f ah) (ag_f (ag_kn kd)) ko (ag_f nt) := by
  unfold wX_need_119
  have hu10 : vp_in (nI u) 10 := pk_in u 10 hu
  have hp30 : vp_in (nI p) 30 := pk_in p 30 hp
  have en : upd (ag_f nc) (nI u).toNatClampNeg (ag_f nc (nI u).toNatClampNeg + 1) = ag_f (ag_u nc u (x + 1)) := by rw [ag_at nc (by omega), nI_clamp (by omega), nI_1, ag_fu, hx]
  refine ⟨hp30, nm_r (by rw [nI_clamp (by omega), hz]) ⟨hp30, nm_r (by rw [nI_clamp (by omega), ag_fu]) ⟨hp30, nm_r (by rw [nI_clamp (by omega), ag_fu]) ⟨hu10, hu10, nm_r en ⟨hu10, ?_⟩⟩⟩⟩⟩
  rw [ag_at _ (by omega), ag_us]
  exact hh
theorem i_vc_need {k : Nat} {u : SX} {v : SY} (I : i_Rel k u v) (hk : k + 5 ≤ 2560) (v1 : Int32) (v2 : Int32) (v3 : Int32) (v4 : Int32) : wpX_need (fun r u' => wpY_need (fun r' v' => r' = r ∧ i_Rel (k + 5) u' v') v v1 v2 v3 v4) u v1 v2 v3 v4 := by
  obtain ⟨N, P, K, eb, nm, vr, nv, oc, nc, kd, lo, ah, nt, fd, fv, hs, sg, tc, og, ae, rfl, rfl, H⟩ := I
  have R : ∀ ae : Nat → Int32, i_Rel (k + 5) ((nI N), eb, (nI P), (nI K), (ag_f nm), (ag_f vr), sg, tc, (ag_f nv), (ag_f oc), og, (ag_f nc), (ag_f (ag_kc kd)), (ag_f lo), (ag_f ah), (ag_f (ag_kn kd)), (ag_f (ag_ko kd)), (ag_f nt)) ((nI N), eb, (nI P), (nI K), (ag_f nm), (ag_f vr), sg, (ag_f oc), (ag_f fd), (ag_f fv), (ag_f nc), (ag_f kd), (ag_f lo), (ag_f ah), ae, (ag_f hs), tc) := fun ae => ag_R H
  obtain ⟨hN, hP, hK, hnm, hvr, hnv, hoc, hoz, hnc, hkd, hlo, hah, hns, hhs, hfd, hfv, hog⟩ := id H
  unfold wpX_need wpY_need
  rcases ag_ix v1 (n := N) (by omega) with hx | ⟨u, hu, rfl⟩
  · exact ag_Xgu_f hx (br_t rfl (ag_Ybu_f hx (br_f (by decide) ⟨rfl, R ae⟩)))
  by_cases c0 : v2 < 0
  · exact ag_Xgu_t hN hu (br_f (by decide) (br_t c0 (ag_Ybu_t hN hu (br_t rfl (br_t c0 ⟨rfl, R ae⟩)))))
  obtain ⟨c, hc, rfl⟩ := nI_of c0
  by_cases c63 : 63 < c
  · have z : (63 : Int32) < nI c := nI_lt (a := 63) c63 hc
    exact ag_Xgu_t hN hu (br_f (by decide) (br_f c0 (br_t z (ag_Ybu_t hN hu (br_t rfl (br_f c0 (br_t z ⟨rfl, R ae⟩)))))))
  have z63 : ¬ (63 : Int32) < nI c := nI_nlt (a := 63) (by omega) (by decide)
  have x7 : nI c &&& 7 = nI (c % 8) := pk_andN (by omega) 3 (by decide)
  have y7 : nI c - nI c / 8 * 8 = nI (c % 8) := ag_m8 (by omega)
  by_cases c6 : c % 8 < 6
  rotate_left
  · exact ag_Xgu_t hN hu (br_f (by decide) (br_f c0 (br_f z63 (br_f (by rw [x7]; exact nI_nlt (b := 6) (by omega) (by omega)) (ag_Ybu_t hN hu (br_t rfl (br_f c0 (br_f z63 ⟨by decide, br_f (by rw [y7]; exact nI_ge (a := 5) (by omega) (by omega)) ⟨rfl, R ae⟩⟩))))))))
  have xc : (nI c &&& 7) < 6 := by rw [x7]; exact nI_lt (b := 6) c6 (by decide)
  have yc : (nI c - nI c / 8 * 8) ≤ 5 := by rw [y7]; exact nI_le (b := 5) (by omega) (by decide)
  by_cases g1 : v3 < 1
  · exact ag_Xgu_t hN hu (br_f (by decide) (br_f c0 (br_f z63 (br_t xc (br_t g1 (ag_Ybu_t hN hu (br_t rfl (br_f c0 (br_f z63 ⟨by decide, br_t yc (br_t g1 ⟨rfl, R ae⟩)⟩)))))))))
  obtain ⟨l, hl1, hl, rfl⟩ := ag_ge (l := 1) (by decide) g1
  by_cases g2 : v4 < nI l
  · exact ag_Xgu_t hN hu (br_f (by decide) (br_f c0 (br_f z63 (br_t xc (br_f g1 (br_t g2 (ag_Ybu_t hN hu (br_t rfl (br_f c0 (br_f z63 ⟨by decide, br_t yc (br_f g1 (br_t g2 ⟨rfl, R ae⟩))⟩))))))))))
  obtain ⟨h, hh1, hh, rfl⟩ := ag_ge hl g2
  by_cases h9 : h ≤ 9
  rotate_left
  · have x9 : ¬ nI h ≤ 9 := nI_ge (a := 9) (by omega) hh
    exact ag_Xgu_t hN hu (br_f (by decide) (br_f c0 (br_f z63 (br_t xc (br_f g1 (br_f g2 (br_f x9 (ag_Ybu_t hN hu (br_t rfl (br_f c0 (br_f z63 ⟨by decide, br_t yc (br_f g1 (br_f g2 (br_f x9 ⟨rfl, R ae⟩)))⟩)))))))))))
  have x9 : nI h ≤ 9 := nI_le (b := 9) h9 (by decide)
  have hu10 : vp_in (nI u) 10 := pk_in u 10 (by omega)
  have n3 := hnc u
  have en : ag_f nc (nI u).toNatClampNeg = nI (nc u) := ag_at nc (by omega)
  by_cases k3 : nc u < 3
  rotate_left
  · exact ag_Xgu_t hN hu (br_f (by decide) (br_f c0 (br_f z63 (br_t xc (br_f g1 (br_f g2 (br_t x9 ⟨hu10, br_f (by rw [en]; exact nI_nlt (b := 3) (by omega) (by omega)) (ag_Ybu_t hN hu (br_t rfl (br_f c0 (br_f z63 ⟨by decide, br_t yc (br_f g1 (br_f g2 (br_t x9 ⟨hu10, nm_r en (br_f (nI_ge (a := 2) (by omega) (by omega)) ⟨rfl, R ae⟩)⟩)))⟩))))⟩)))))))
  have hp : 3 * u + nc u < 30 := by omega
  have epx : nI u * 3 + ag_f nc (nI u).toNatClampNeg = nI (3 * u + nc u) := by
    rw [en, show nI u * 3 = nI (u * 3) from pk_mul u 3, nI_add, Nat.mul_comm]
  have epy : 3 * nI u + nI (nc u) = nI (3 * u + nc u) := by
    rw [show 3 * nI u = nI (3 * u) from pk_mul 3 u, nI_add]
  have i30 : vp_in (nI (3 * u + nc u)) 30 := pk_in (3 * u + nc u) 30 hp
  have y30 : vp_in (3 * nI u + nI (nc u)) 30 := by
    rw [epy]
    exact i30
  have ecap : upd (ag_f (ag_kc kd)) (nI (3 * u + nc u)).toNatClampNeg (nI c &&& 7) = ag_f (ag_kc (ag_u kd (3 * u + nc u) c)) := by rw [nI_clamp (by omega), x7, ag_fu, ag_kcu]
  have e3 : (nI c >>> ((3 : Int32) &&& 31)) &&& 3 = nI (c / 8 % 4) := by
    rw [pk_shrN hc _ 3 (by decide)]
    exact pk_andN (by have := Nat.div_le_self c (2 ^ 3); omega) 2 (by decide)
  have econ : upd (ag_f (ag_kn kd)) (nI (3 * u + nc u)).toNatClampNeg ((nI c >>> ((3 : Int32) &&& 31)) &&& 3) = ag_f (ag_kn (ag_u kd (3 * u + nc u) c)) := by rw [nI_clamp (by omega), e3, ag_fu, ag_knu]
  have e5 : nI c >>> ((5 : Int32) &&& 31) = nI (c / 32) := pk_shrN hc _ 5 (by decide)
  have eopt : upd (ag_f (ag_ko kd)) (3 * u + nc u) (nI (c / 32)) = ag_f (ag_ko (ag_u kd (3 * u + nc u) c)) := by rw [ag_fu, ag_kou]
  have H' : ag_I N P K nm vr nv oc (ag_u nc u (nc u + 1)) (ag_u kd (3 * u + nc u) c) (ag_u lo (3 * u + nc u) l) (ag_u ah (3 * u + nc u) h) nt fd fv hs og := by
    refine ⟨hN, hP, hK, hnm, hvr, hnv, hoc, hoz, ag_ub hnc (by omega), fun j => ?_, ag_ub hlo (by omega), ag_ub hah (by omega), hns, hhs, hfd, hfv, hog⟩
    by_cases e : j = 3 * u + nc u
    · rw [e, ag_us]
      exact ⟨by omega, by omega⟩
    · rw [ag_un e]
      exact hkd j
  have Y : wpY_need (fun r' v' => r' = nI (nc u + 1) ∧ i_Rel (k + 5) ((nI N), eb, (nI P), (nI K), (ag_f nm), (ag_f vr), sg, tc, (ag_f nv), (ag_f oc), og, (ag_f (ag_u nc u (nc u + 1))), (ag_f (ag_kc (ag_u kd (3 * u + nc u) c))), (ag_f (ag_u lo (3 * u + nc u) l)), (ag_f (ag_u ah (3 * u + nc u) h)), (ag_f (ag_kn (ag_u kd (3 * u + nc u) c))), (ag_f (ag_ko (ag_u kd (3 * u + nc u) c))), (ag_f nt)) v') ((nI N), eb, (nI P), (nI K), (ag_f nm), (ag_f vr), sg, (ag_f oc), (ag_f fd), (ag_f fv), (ag_f nc), (ag_f kd), (ag_f lo), (ag_f ah), ae, (ag_f hs), tc) (nI u) (nI c) (nI l) (nI h) := by
    unfold wpY_need
    refine ag_Ybu_t hN hu (br_t rfl (br_f c0 (br_f z63 ⟨by decide, br_t yc (br_f g1 (br_f g2 (br_t x9 ⟨hu10, nm_r en (br_t (nI_le (b := 2) (by omega) (by decide)) ⟨y30, nm_r ?_ ⟨y30, nm_r ?_ ⟨y30, nm_r ?_ ⟨hu10, nm_r ?_ ⟨nI_1 _, ag_R H'⟩⟩⟩⟩⟩)⟩)))⟩)))
    · rw [epy, nI_clamp (by omega), ag_fu]
    · rw [epy, nI_clamp (by omega), ag_fu]
    · rw [epy, nI_clamp (by omega), ag_fu]
    · rw [nI_clamp (by omega), nI_1, ag_fu]
  rw [← eopt] at Y
  refine ag_Xgu_t hN hu (br_f (by decide) (br_f c0 (br_f z63 (br_t xc (br_f g1 (br_f g2 (br_t x9 ⟨hu10, br_t (by rw [en]; exact nI_lt (b := 3) k3 (by decide)) ⟨hu10, nm_r epx ⟨i30, nm_r ecap ⟨i30, nm_r econ ?_⟩⟩⟩⟩)))))))
  by_cases c32 : c / 32 = 1
  · refine br_t (by rw [e5, c32]; rfl) (ag_N119 (q := c / 32) 1 (by omega) hp (by rw [c32]; rfl) rfl k3 Y)
  · refine br_f (fun z => c32 ?_) (ag_N119 (q := c / 32) 0 (by omega) hp (by rw [show c / 32 = 0 by omega]; rfl) rfl k3 Y)
    rw [e5] at z
    exact (nI_eq (b := 1) (by omega) (by decide)).mp z
end
