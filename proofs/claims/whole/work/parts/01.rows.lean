/-! rows pasted from kit/rows (PURE-ROWS, BITS) -/
theorem pk_us {f : Nat → Int32} {k : Nat} {x : Int32} : upd f k x k = x := if_pos rfl
theorem pk_un {f : Nat → Int32} {k j : Nat} {x : Int32} (h : j ≠ k) : upd f k x j = f j := if_neg h
theorem pk_sub {a b : Nat} (h : b ≤ a) : nI a - nI b = nI (a - b) := by
  obtain ⟨c, rfl⟩ : ∃ c, a = c + b := ⟨a - b, by omega⟩
  rw [← nI_add, Int32.add_sub_cancel, Nat.add_sub_cancel]
theorem pk_m1 (n : Nat) : nI (n + 1) + (-1) = nI n := by
  rw [← nI_1, Int32.add_assoc, show (1 : Int32) + (-1) = 0 from rfl, Int32.add_zero]
theorem pk_mul (a b : Nat) : nI a * nI b = nI (a * b) := (Int32.ofNat_mul a b).symm
theorem pk_div {a d : Nat} (ha : a < 2 ^ 31) (h0 : 0 < d) (hd : d < 2 ^ 31) : nI a / nI d = nI (a / d) := by
  apply Int32.toInt_inj.mp
  rw [lg_idiv_nonneg (by rw [nI_toInt ha]; omega) (by rw [nI_toInt hd]; omega), nI_toInt ha, nI_toInt hd, nI_toInt (Nat.lt_of_le_of_lt (Nat.div_le_self a d) ha)]
  first | rfl | exact (Int.natCast_ediv _ _).symm
theorem pk_rem {a d : Nat} (ha : a < 2 ^ 31) (h0 : 0 < d) (hd : d < 2 ^ 31) : nI a - nI a / nI d * nI d = nI (a % d) := by
  rw [pk_div ha h0 hd, pk_mul, pk_sub (Nat.div_mul_le_self a d)]
  exact congrArg nI (by have := Nat.div_add_mod' a d; omega)
theorem pk_sub_toInt {a b : Nat} (ha : a < 2 ^ 30) (hb : b < 2 ^ 30) : (nI a - nI b).toInt = (a : Int) - b := by
  rw [Int32.toInt_sub, nI_toInt (by omega), nI_toInt (by omega)]
  exact Int.bmod_eq_of_le (by omega) (by omega)
theorem pk_sneg {a b : Nat} (hb : b < 2 ^ 30) (h : a < b) : nI a - nI b < 0 := by
  rw [Int32.lt_iff_toInt_lt, pk_sub_toInt (by omega) hb, show (0 : Int32).toInt = 0 from by decide]
  omega
theorem pk_ix (x : Int32) {n : Nat} (hn : n < 2 ^ 31) : x < 0 ∨ nI n ≤ x ∨ ∃ j : Nat, j < n ∧ x = nI j := by
  by_cases h : x < 0
  · exact Or.inl h
  · obtain ⟨j, hj, rfl⟩ := nI_of h
    by_cases h2 : j < n
    · exact Or.inr (Or.inr ⟨j, h2, rfl⟩)
    · exact Or.inr (Or.inl (nI_le (by omega) hj))
theorem pk_le {x y : Int32} {A B : Prop} (a b : Nat) (f : a ≤ b → A) (g : b < a → B) (hx : x = nI a := by rfl) (hy : y = nI b := by rfl) (ha : a < 2 ^ 31 := by omega) (hb : b < 2 ^ 31 := by omega) : (x ≤ y → A) ∧ (¬ x ≤ y → B) := by
  subst hx hy
  rw [nI_leI ha hb]
  exact ⟨f, fun z => g (by omega)⟩
theorem pk_lt {x y : Int32} {A B : Prop} (a b : Nat) (f : a < b → A) (g : b ≤ a → B) (hx : x = nI a := by rfl) (hy : y = nI b := by rfl) (ha : a < 2 ^ 31 := by omega) (hb : b < 2 ^ 31 := by omega) : (x < y → A) ∧ (¬ x < y → B) := by
  subst hx hy
  rw [nI_ltI ha hb]
  exact ⟨f, fun z => g (by omega)⟩
theorem pk_eq {x y : Int32} {A B : Prop} (a b : Nat) (f : a = b → A) (g : a ≠ b → B) (hx : x = nI a := by rfl) (hy : y = nI b := by rfl) (ha : a < 2 ^ 31 := by omega) (hb : b < 2 ^ 31 := by omega) : (x = y → A) ∧ (¬ x = y → B) := by
  subst hx hy
  rw [nI_eq ha hb]
  exact ⟨f, g⟩
theorem pk_in {x : Int32} (n N : Nat) (h : n < N) (hx : x = nI n := by rfl) (hN : N < 2 ^ 31 := by omega) : vp_in x N := by
  subst hx
  exact vp_in_nI h hN
theorem pk_cl {x : Int32} (n : Nat) (hx : x = nI n := by rfl) (h : n < 2 ^ 31 := by omega) : x.toNatClampNeg = n := by
  subst hx
  exact nI_clamp h
theorem pk_tn {n : Nat} (h : n < 2 ^ 32) : (nI n).toBitVec.toNat = n := Nat.mod_eq_of_lt h
theorem pk_and (x : Int32) {m : Int32} (k : Nat) (hm : m.toBitVec.toNat = 2 ^ k - 1) : x &&& m = nI (x.toBitVec.toNat % 2 ^ k) := by
  apply Int32.toBitVec_inj.mp
  apply BitVec.eq_of_toNat_eq
  rw [Int32.toBitVec_and, BitVec.toNat_and, hm, Nat.and_two_pow_sub_one_eq_mod]
  show _ = (BitVec.ofNat 32 _).toNat
  rw [BitVec.toNat_ofNat]
  exact (Nat.mod_eq_of_lt (Nat.lt_of_le_of_lt (Nat.mod_le _ _) x.toBitVec.isLt)).symm
theorem pk_andN {n : Nat} (h : n < 2 ^ 32) {m : Int32} (k : Nat) (hm : m.toBitVec.toNat = 2 ^ k - 1) : nI n &&& m = nI (n % 2 ^ k) := by
  rw [pk_and _ k hm, pk_tn h]
theorem pk_andE (x : Int32) {m : Int32} (k : Nat) (hm : m.toBitVec.toNat = 2 ^ k - 1) : ∃ j : Nat, j < 2 ^ k ∧ x &&& m = nI j := ⟨_, Nat.mod_lt _ (Nat.two_pow_pos k), pk_and x k hm⟩
theorem pk_andIn (x : Int32) {m : Int32} (k : Nat) (hm : m.toBitVec.toNat = 2 ^ k - 1) (hk : k ≤ 30) : vp_in (x &&& m) (2 ^ k) := by
  obtain ⟨j, hj, e⟩ := pk_andE x k hm
  rw [e]
  exact vp_in_nI hj (Nat.lt_of_le_of_lt (Nat.pow_le_pow_right (by decide) hk) (by decide))
theorem pk_shl (a s : Int32) (k : Nat) (hs : (s.toBitVec.smod 32).toNat = k) : (a <<< s).toBitVec.toNat = a.toBitVec.toNat * 2 ^ k % 2 ^ 32 := by
  show (a.toBitVec <<< (s.toBitVec.smod 32).toNat).toNat = _
  rw [hs, BitVec.toNat_shiftLeft, Nat.shiftLeft_eq]
theorem pk_shlN {n : Nat} (s : Int32) (k : Nat) (hs : (s.toBitVec.smod 32).toNat = k) (h : n * 2 ^ k < 2 ^ 32) : nI n <<< s = nI (n * 2 ^ k) := by
  apply Int32.toBitVec_inj.mp
  apply BitVec.eq_of_toNat_eq
  have hn : n < 2 ^ 32 := Nat.lt_of_le_of_lt (Nat.le_mul_of_pos_right n (Nat.two_pow_pos k)) h
  rw [pk_shl _ _ k hs, pk_tn hn, pk_tn h, Nat.mod_eq_of_lt h]
theorem pk_shr (a s : Int32) (k : Nat) (hs : (s.toBitVec.smod 32).toNat = k) : (a >>> s).toInt = a.toInt >>> k := by
  show (a.toBitVec.sshiftRight (s.toBitVec.smod 32).toNat).toInt = _
  rw [hs, BitVec.toInt_sshiftRight]
  rfl
theorem pk_shrN {n : Nat} (h : n < 2 ^ 31) (s : Int32) (k : Nat) (hs : (s.toBitVec.smod 32).toNat = k) : nI n >>> s = nI (n / 2 ^ k) := by
  apply Int32.toInt_inj.mp
  have h2 : n / 2 ^ k ≤ n := Nat.div_le_self _ _
  rw [pk_shr _ _ k hs, nI_toInt h, nI_toInt (by omega), Int.shiftRight_eq_div_pow]
  rfl
/-! ===== Int32 by its bits: bt x i ===== -/
def bt (x : Int32) (i : Nat) : Bool := x.toBitVec.getLsbD i
theorem b_ext {x y : Int32} (h : ∀ i, i < 32 → bt x i = bt y i) : x = y := Int32.toBitVec_inj.mp (BitVec.eq_of_getLsbD_eq (fun i hi => h i hi))
theorem b_or (x y : Int32) (i : Nat) : bt (x ||| y) i = (bt x i || bt y i) := by unfold bt; rw [Int32.toBitVec_or, BitVec.getLsbD_or]
theorem b_and (x y : Int32) (i : Nat) : bt (x &&& y) i = (bt x i && bt y i) := by unfold bt; rw [Int32.toBitVec_and, BitVec.getLsbD_and]
theorem b_xor (x y : Int32) (i : Nat) : bt (x ^^^ y) i = (bt x i ^^ bt y i) := by unfold bt; rw [Int32.toBitVec_xor, BitVec.getLsbD_xor]
theorem b_big {x : Int32} {i : Nat} (h : 32 ≤ i) : bt x i = false := BitVec.getLsbD_of_ge _ _ h
theorem b_255 (i : Nat) : bt 255 i = decide (i < 8) := by
  rcases Nat.lt_or_ge i 32 with h | h
  · exact (by decide +kernel : ∀ i, i < 32 → bt 255 i = decide (i < 8)) i h
  · rw [b_big h, decide_eq_false (by omega)]
theorem b_65535 (i : Nat) : bt 65535 i = decide (i < 16) := by
  rcases Nat.lt_or_ge i 32 with h | h
  · exact (by decide +kernel : ∀ i, i < 32 → bt 65535 i = decide (i < 16)) i h
  · rw [b_big h, decide_eq_false (by omega)]
theorem b_m1 : ∀ i, i < 32 → bt (-1) i = true := by decide +kernel
theorem b_0 (i : Nat) : bt 0 i = false := BitVec.getLsbD_zero
theorem s_l : ∀ n, n < 32 → ((nI n &&& 31).toBitVec.smod 32).toNat = n := by decide +kernel
theorem s_u : ∀ n, n < 32 → (((nI n).toUInt32 &&& Int32.toUInt32 31).toBitVec % 32).toNat = n := by decide +kernel
theorem b_shl (n : Nat) (hn : n < 32) (x : Int32) {i : Nat} (hi : i < 32) : bt (x <<< (nI n &&& 31)) i = (decide (n ≤ i) && bt x (i - n)) := by
  unfold bt
  rw [Int32.toBitVec_shiftLeft]
  show (x.toBitVec <<< ((nI n &&& 31).toBitVec.smod 32).toNat).getLsbD i = _
  rw [s_l n hn, BitVec.getLsbD_shiftLeft]
  rcases Nat.lt_or_ge i n with h | h
  · simp [h, Nat.not_le.mpr h]
  · simp [hi, h, Nat.not_lt.mpr h]
theorem b_ushr (n : Nat) (hn : n < 32) (x : Int32) (i : Nat) : bt ((x.toUInt32 >>> ((nI n).toUInt32 &&& Int32.toUInt32 31)).toInt32) i = bt x (n + i) := by
  show (x.toUInt32 >>> ((nI n).toUInt32 &&& Int32.toUInt32 31)).toBitVec.getLsbD i = x.toUInt32.toBitVec.getLsbD (n + i)
  rw [UInt32.toBitVec_shiftRight]
  show (x.toUInt32.toBitVec >>> (((nI n).toUInt32 &&& Int32.toUInt32 31).toBitVec % 32).toNat).getLsbD i = _
  rw [s_u n hn, BitVec.getLsbD_ushiftRight]
theorem b_sshr (n : Nat) (hn : n < 32) (x : Int32) {i : Nat} (hi : i < 32) : bt (x >>> (nI n &&& 31)) i = if n + i < 32 then bt x (n + i) else bt x 31 := by
  unfold bt
  rw [Int32.toBitVec_shiftRight]
  show (x.toBitVec.sshiftRight ((nI n &&& 31).toBitVec.smod 32).toNat).getLsbD i = _
  rw [s_l n hn, BitVec.getLsbD_sshiftRight, BitVec.msb_eq_getLsbD_last]
  simp [hi]
theorem b_shl8 (x : Int32) {i : Nat} (hi : i < 32) : bt (x <<< ((8 : Int32) &&& 31)) i = (decide (8 ≤ i) && bt x (i - 8)) := b_shl 8 (by omega) x hi
theorem b_shl16 (x : Int32) {i : Nat} (hi : i < 32) : bt (x <<< ((16 : Int32) &&& 31)) i = (decide (16 ≤ i) && bt x (i - 16)) := b_shl 16 (by omega) x hi
theorem b_shl24 (x : Int32) {i : Nat} (hi : i < 32) : bt (x <<< ((24 : Int32) &&& 31)) i = (decide (24 ≤ i) && bt x (i - 24)) := b_shl 24 (by omega) x hi
theorem b_sshr8 (x : Int32) {i : Nat} (hi : i < 32) : bt (x >>> ((8 : Int32) &&& 31)) i = if 8 + i < 32 then bt x (8 + i) else bt x 31 := b_sshr 8 (by omega) x hi
/-! the arrays by naturals; a truth as a number; bits; sums -/
def ag_f (g : Nat → Nat) : Nat → Int32 := fun j => nI (g j)
def ag_u (g : Nat → Nat) (i x : Nat) : Nat → Nat := fun j => if j = i then x else g j
def ag_kc (kd : Nat → Nat) : Nat → Nat := fun j => kd j % 8
def ag_kn (kd : Nat → Nat) : Nat → Nat := fun j => kd j / 8 % 4
def ag_ko (kd : Nat → Nat) : Nat → Nat := fun j => kd j / 32
theorem ag_us {g : Nat → Nat} {i x : Nat} : ag_u g i x i = x := if_pos rfl
theorem ag_un {g : Nat → Nat} {i x j : Nat} (h : j ≠ i) : ag_u g i x j = g j := if_neg h
theorem ag_fu (g : Nat → Nat) (i x : Nat) : upd (ag_f g) i (nI x) = ag_f (ag_u g i x) := by
  funext j
  unfold upd ag_f ag_u
  by_cases h : j = i
  · rw [if_pos h, if_pos h]
  · rw [if_neg h, if_neg h]
theorem ag_f0 : ag_f (fun _ => 0) = fun _ => 0 := funext fun _ => nI_0
theorem ag_at (g : Nat → Nat) {j : Nat} (h : j < 2 ^ 31) : ag_f g (nI j).toNatClampNeg = nI (g j) := by
  rw [nI_clamp h]
  rfl
theorem ag_kcu (kd : Nat → Nat) (i x : Nat) : ag_u (ag_kc kd) i (x % 8) = ag_kc (ag_u kd i x) := by
  funext j
  unfold ag_kc ag_u
  by_cases h : j = i
  · rw [if_pos h, if_pos h]
  · rw [if_neg h, if_neg h]
theorem ag_knu (kd : Nat → Nat) (i x : Nat) : ag_u (ag_kn kd) i (x / 8 % 4) = ag_kn (ag_u kd i x) := by
  funext j
  unfold ag_kn ag_u
  by_cases h : j = i
  · rw [if_pos h, if_pos h]
  · rw [if_neg h, if_neg h]
theorem ag_kou (kd : Nat → Nat) (i x : Nat) : ag_u (ag_ko kd) i (x / 32) = ag_ko (ag_u kd i x) := by
  funext j
  unfold ag_ko ag_u
  by_cases h : j = i
  · rw [if_pos h, if_pos h]
  · rw [if_neg h, if_neg h]
noncomputable def ag_v (p : Prop) : Int32 := @ite Int32 p (Classical.propDecidable p) 1 0
theorem ag_vt {p : Prop} (h : p) : ag_v p = 1 := by unfold ag_v; exact if_pos h
theorem ag_vf {p : Prop} (h : ¬ p) : ag_v p = 0 := by unfold ag_v; exact if_neg h
theorem ag_v0 {p : Prop} : ag_v p = 0 ↔ ¬ p := by
  by_cases h : p
  · rw [ag_vt h]
    exact ⟨fun z => absurd z (by decide), fun z => absurd h z⟩
  · exact ⟨fun _ => h, fun _ => ag_vf h⟩
theorem ag_pt (post : Int32 → Prop) {p : Prop} (h : post (ag_v p)) (hp : p) : post 1 := by
  rw [ag_vt hp] at h
  exact h
theorem ag_pf (post : Int32 → Prop) {p : Prop} (h : post (ag_v p)) (hp : ¬ p) : post 0 := by
  rw [ag_vf hp] at h
  exact h
theorem ag_vi {p q : Prop} (h : p ↔ q) : ag_v p = ag_v q := by rw [propext h]
theorem ag_br {p A B : Prop} (a : p → B) (b : ¬ p → A) : (ag_v p = 0 → A) ∧ (¬ ag_v p = 0 → B) :=
  ⟨fun z => b (ag_v0.mp z), fun z => Classical.byContradiction fun nb => z (ag_v0.mpr fun hp => nb (a hp))⟩
theorem ag_bit (x : Int32) {u : Nat} (hu : u < 31) : (x >>> (nI u &&& 31)) &&& 1 = ag_v (bt x u = true) := by
  have h1 : ∀ i, i < 32 → bt 1 i = decide (i = 0) := by decide +kernel
  apply b_ext
  intro i hi
  rw [b_and, b_sshr u (by omega) x hi, h1 i hi]
  by_cases h0 : i = 0
  · subst h0
    rw [if_pos (by omega), Nat.add_zero]
    cases hb : bt x u with
    | true => rw [ag_vt rfl, h1 0 hi]; rfl
    | false => rw [ag_vf (by decide), b_0]; rfl
  · rw [decide_eq_false h0, Bool.and_false]
    cases hb : bt x u with
    | true => rw [ag_vt rfl, h1 i hi, decide_eq_false h0]
    | false => rw [ag_vf (by decide), b_0]
theorem ag_hold (x : Int32) {u : Nat} (hu : u < 31) : (x >>> (nI u &&& 31)) &&& 1 = 1 ↔ bt x u = true := by
  rw [ag_bit x hu]
  by_cases h : bt x u = true
  · rw [ag_vt h]
    exact ⟨fun _ => h, fun _ => rfl⟩
  · rw [ag_vf h]
    exact ⟨fun z => absurd z (by decide), fun z => absurd z h⟩
theorem ag_btN (s : Nat) {u : Nat} (hu : u < 32) : bt (nI s) u = s.testBit u := by
  show (BitVec.ofNat 32 s).getLsbD u = _
  rw [BitVec.getLsbD_ofNat, decide_eq_true hu, Bool.true_and]
theorem ag_btF {s N u : Nat} (hs : s < 2 ^ N) (hu : N ≤ u) (h : u < 32) : bt (nI s) u = false := by
  rw [ag_btN s h]
  exact Nat.testBit_lt_two_pow (Nat.lt_of_lt_of_le hs (Nat.pow_le_pow_right (by decide) hu))
theorem ag_shl {N : Nat} (h : N ≤ 10) : (1 : Int32) <<< (nI N &&& 31) = nI (2 ^ N) := (by decide +kernel : ∀ N, N < 11 → (1 : Int32) <<< (nI N &&& 31) = nI (2 ^ N)) N (by omega)
theorem ag_pw {N : Nat} (h : N ≤ 10) : 2 ^ N ≤ 1024 := Nat.pow_le_pow_right (n := 2) (by decide) h
theorem ag_one {b i : Nat} (hb : b < 10) (hi : i < 32) : bt ((1 : Int32) <<< (nI b &&& 31)) i = decide (b = i) := (by decide +kernel : ∀ b, b < 10 → ∀ i, i < 32 → bt ((1 : Int32) <<< (nI b &&& 31)) i = decide (b = i)) b hb i hi
theorem ag_z (x : Int32) : x = 0 ↔ ∀ i, i < 32 → bt x i = false :=
  ⟨fun h i _ => by rw [h, b_0], fun h => b_ext fun i hi => by rw [h i hi, b_0]⟩
theorem ag_andz (x y : Int32) : x &&& y = 0 ↔ ∀ i, i < 32 → ¬ (bt x i = true ∧ bt y i = true) := by
  rw [ag_z]
  constructor
  · intro h i hi hh
    have := h i hi
    rw [b_and, hh.1, hh.2] at this
    exact absurd this (by decide)
  · intro h i hi
    rw [b_and]
    have := h i hi
    cases hx : bt x i <;> cases hy : bt y i
    · rfl
    · rfl
    · rfl
    · exact absurd ⟨hx, hy⟩ this
theorem ag_diff (x y : Int32) {i : Nat} (hi : i < 32) : bt (x &&& (y ^^^ (-1))) i = true ↔ (bt x i = true ∧ ¬ bt y i = true) := by
  rw [b_and, b_xor, b_m1 i hi]
  cases bt x i <;> cases bt y i <;> decide
def ag_S (f : Nat → Int32) : Nat → Int32
  | 0 => 0
  | n + 1 => ag_S f n + f n
theorem ag_Sc {f g : Nat → Int32} : ∀ n, (∀ i, i < n → f i = g i) → ag_S f n = ag_S g n := by
  intro n
  induction n with
  | zero => intro _; rfl
  | succ n ih =>
    intro h
    show ag_S f n + f n = ag_S g n + g n
    rw [ih (fun i hi => h i (by omega)), h n (by omega)]
theorem ag_Sadd (f g : Nat → Int32) : ∀ n, ag_S (fun i => f i + g i) n = ag_S f n + ag_S g n := by
  intro n
  induction n with
  | zero => rfl
  | succ n ih =>
    show ag_S (fun i => f i + g i) n + (f n + g n) = (ag_S f n + f n) + (ag_S g n + g n)
    rw [ih]
    grind
theorem ag_Smul (c : Int32) (f : Nat → Int32) : ∀ n, ag_S (fun i => c * f i) n = c * ag_S f n := by
  intro n
  induction n with
  | zero => show (0 : Int32) = c * 0; rw [Int32.mul_zero]
  | succ n ih =>
    show ag_S (fun i => c * f i) n + c * f n = c * (ag_S f n + f n)
    rw [ih]
    grind
theorem ag_Scut {f : Nat → Int32} {m : Nat} : ∀ n, m ≤ n → (∀ i, m ≤ i → i < n → f i = 0) → ag_S f n = ag_S f m := by
  intro n
  induction n with
  | zero => intro h _; rw [Nat.le_zero.mp h]
  | succ n ih =>
    intro h hz
    by_cases e : m = n + 1
    · rw [e]
    · show ag_S f n + f n = _
      rw [ih (by omega) (fun i h1 h2 => hz i h1 (by omega)), hz n (by omega) (by omega), Int32.add_zero]
theorem ag_S3 (g : Nat → Int32) : ∀ n, ag_S g (3 * n) = ag_S (fun u => g (3 * u) + g (3 * u + 1) + g (3 * u + 2)) n := by
  intro n
  induction n with
  | zero => rfl
  | succ n ih =>
    show ag_S g (3 * n) + g (3 * n) + g (3 * n + 1) + g (3 * n + 2) = ag_S (fun u => g (3 * u) + g (3 * u + 1) + g (3 * u + 2)) n + (g (3 * n) + g (3 * n + 1) + g (3 * n + 2))
    rw [ih]
    grind
