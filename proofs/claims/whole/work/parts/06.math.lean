/-! the two pictures agree -/
def ag_OG (N : Nat) (oc fd fv : Nat → Nat) (og : Nat → Int32) : Prop := ∀ c v, c < 6 → v < 10 → ∀ b, b < 32 → (bt (og (c * 10 + v)) b = true ↔ (b < N ∧ ∃ k, k < 3 ∧ k < oc b ∧ fd (3 * b + k) = c ∧ fv (3 * b + k) = v))
theorem ag_andnz (x y : Int32) : ¬ (x &&& y) = 0 ↔ ∃ b, b < 32 ∧ bt x b = true ∧ bt y b = true := by
  rw [ag_andz]
  constructor
  · intro h
    refine Classical.byContradiction fun hn => h fun i hi hh => hn ⟨i, hi, hh⟩
  · rintro ⟨b, hb, hh⟩ h
    exact h b hb hh
section
variable {N P K : Nat} {eb : Int32} {nm vr nv oc nc kd lo ah nt fd fv hs : Nat → Nat} {sg tc og ae : Nat → Int32}
theorem ag_met (s : Int32) {i : Nat} (hN : N ≤ 10) (hkd : ∀ j, kd j < 64 ∧ kd j % 8 ≤ 5) (hah : ∀ j, ah j ≤ 9) (hog : ag_OG N oc fd fv og) (hb : ag_HB N oc fd fv kd lo ah ae i 30) : ag_MX og kd lo ah s i ↔ ¬ (s &&& ae i) = 0 := by
  have k5 : ag_kc kd i ≤ 5 := (hkd i).2
  have a9 := hah i
  rw [ag_andnz]
  constructor
  · rintro ⟨v, h1, h2, h3⟩
    obtain ⟨b, b32, hb1, hb2⟩ := (ag_andnz _ _).mp h3
    obtain ⟨bN, k, k3, ko, e1, e2⟩ := (hog (ag_kc kd i) v (by omega) (by omega) b b32).mp hb1
    refine ⟨b, b32, hb2, (hb b b32).mpr ⟨3 * b + k, by omega, by omega, ?_⟩⟩
    have d3 : (3 * b + k) / 3 = b := by omega
    have m3 : (3 * b + k) % 3 = k := by omega
    refine ⟨by omega, ?_, e1, by omega, by omega⟩
    rw [d3, m3]
    exact ko
  · rintro ⟨b, b32, hb1, hb2⟩
    obtain ⟨j, j30, jb, f1, f2, f3, f4, f5⟩ := (hb b b32).mp hb2
    refine ⟨fv j, f4, f5, (ag_andnz _ _).mpr ⟨b, b32, (hog (ag_kc kd i) (fv j) (by omega) (by omega) b b32).mpr ⟨by omega, j % 3, by omega, ?_, ?_, ?_⟩, hb1⟩⟩
    · rw [← jb]; exact f2
    · rw [← jb, show 3 * (j / 3) + j % 3 = j by omega]; exact f3
    · rw [← jb, show 3 * (j / 3) + j % 3 = j by omega]
theorem ag_UYe (s : Int32) {u k : Nat} (hu : u < N) (hk : k < 3) (hN : N ≤ 10) (hkd : ∀ j, kd j < 64 ∧ kd j % 8 ≤ 5) (hah : ∀ j, ah j ≤ 9) (hog : ag_OG N oc fd fv og) (hb : ∀ i, i < 30 → ag_HB N oc fd fv kd lo ah ae i 30) : ag_UY N eb nc kd ae s (3 * u + k) ↔ (bt s u = true ∧ k < nc u ∧ ag_AP eb kd (3 * u + k) ∧ ¬ ag_MX og kd lo ah s (3 * u + k)) := by
  have d3 : (3 * u + k) / 3 = u := by omega
  have m3 : (3 * u + k) % 3 = k := by omega
  rw [ag_met s hN hkd hah hog (hb (3 * u + k) (by omega))]
  unfold ag_UY ag_YA
  rw [d3, m3]
  constructor
  · rintro ⟨a, b, c, d, e⟩
    exact ⟨a, d, e, fun z => z b⟩
  · rintro ⟨a, d, e, b⟩
    exact ⟨a, Classical.byContradiction b, hu, d, e⟩
theorem ag_snd (s : Int32) (hN : N ≤ 10) (hnc : ∀ j, nc j ≤ 3) (hkd : ∀ j, kd j < 64 ∧ kd j % 8 ≤ 5) (hah : ∀ j, ah j ≤ 9) (hog : ag_OG N oc fd fv og) (hb : ∀ i, i < 30 → ag_HB N oc fd fv kd lo ah ae i 30) : ag_XS N eb nm sg og nc kd lo ah s ↔ ag_YS N eb nm sg nc kd ae s := by
  constructor
  · intro h
    refine ⟨fun p hp ⟨k32, z⟩ => ?_, fun u hu w hw z => ?_⟩
    · have hu : p / 3 < N := z.2.2.1
      have ep : 3 * (p / 3) + p % 3 = p := by omega
      rw [← ep] at z
      obtain ⟨z1, z2, z3, z4⟩ := (ag_UYe s hu (by omega) hN hkd hah hog hb).mp z
      refine (h (p / 3) hu z1).2 (p % 3) z2 ⟨?_, z3, z4⟩
      rw [ep]
      unfold ag_ko
      omega
    · exact (h w (by omega) z.2.1).1 ⟨u, hw, hu, z.1, z.2.2.1, z.2.2.2⟩
  · rintro ⟨h1, h2⟩ u hu hs
    refine ⟨fun ⟨w, w1, w2, w3, w4, w5⟩ => h2 w w2 u w1 ⟨w3, hs, w4, w5⟩, fun k hk z => ?_⟩
    have n3 := hnc u
    refine h1 (3 * u + k) (by omega) ⟨?_, (ag_UYe s hu (by omega) hN hkd hah hog hb).mpr ⟨hs, hk, z.2.1, z.2.2⟩⟩
    have := z.1
    unfold ag_ko at this
    omega
theorem ag_C3 (q : Nat → Prop) {n : Nat} (h : n ≤ 3) : ag_C q n = ag_n (0 < n ∧ q 0) + ag_n (1 < n ∧ q 1) + ag_n (2 < n ∧ q 2) := by
  have t : ∀ (a : Nat) (p : Prop), a < n → ag_n (a < n ∧ p) = ag_n p := fun a p ha => ag_ni ⟨fun z => z.2, fun z => ⟨ha, z⟩⟩
  have f : ∀ (a : Nat) (p : Prop), ¬ a < n → ag_n (a < n ∧ p) = 0 := fun a p ha => ag_nf (fun z => ha z.1)
  obtain rfl | rfl | rfl | rfl : n = 0 ∨ n = 1 ∨ n = 2 ∨ n = 3 := by omega
  · rw [f 0 _ (by omega), f 1 _ (by omega), f 2 _ (by omega)]; rfl
  · rw [t 0 _ (by omega), f 1 _ (by omega), f 2 _ (by omega)]
    show 0 + ag_n (q 0) = _
    omega
  · rw [t 0 _ (by omega), t 1 _ (by omega), f 2 _ (by omega)]
    show 0 + ag_n (q 0) + ag_n (q 1) = _
    omega
  · rw [t 0 _ (by omega), t 1 _ (by omega), t 2 _ (by omega)]
    show 0 + ag_n (q 0) + ag_n (q 1) + ag_n (q 2) = _
    omega
theorem ag_T (s : Int32) {u : Nat} (hu : u < N) (hN : N ≤ 10) (hnc : ∀ j, nc j ≤ 3) (hkd : ∀ j, kd j < 64 ∧ kd j % 8 ≤ 5) (hah : ∀ j, ah j ≤ 9) (hog : ag_OG N oc fd fv og) (hb : ∀ i, i < 30 → ag_HB N oc fd fv kd lo ah ae i 30) : ag_YG N eb nc kd ae s (3 * u) + ag_YG N eb nc kd ae s (3 * u + 1) + ag_YG N eb nc kd ae s (3 * u + 2) = if bt s u = true then 2 * nI (ag_C (fun k => ag_Q eb og kd lo ah s 1 (3 * u + k)) (nc u)) else 0 := by
  by_cases bs : bt s u = true
  · have e : ∀ k, k < 3 → ag_YG N eb nc kd ae s (3 * u + k) = 2 * nI (ag_n (k < nc u ∧ ag_Q eb og kd lo ah s 1 (3 * u + k))) := by
      intro k hk
      unfold ag_YG
      rw [ag_vn]
      have k1 := (hkd (3 * u + k)).1
      rw [ag_ni (show (31 < kd (3 * u + k) ∧ ag_UY N eb nc kd ae s (3 * u + k)) ↔ (k < nc u ∧ ag_Q eb og kd lo ah s 1 (3 * u + k)) from ?_)]
      rw [ag_UYe s hu hk hN hkd hah hog hb]
      unfold ag_Q ag_ko
      constructor
      · rintro ⟨a, b, c, d⟩
        exact ⟨c, by omega, d⟩
      · rintro ⟨c, a, d⟩
        exact ⟨by omega, bs, c, d⟩
    rw [if_pos bs, ag_C3 _ (hnc u), show ag_YG N eb nc kd ae s (3 * u) = ag_YG N eb nc kd ae s (3 * u + 0) from rfl, e 0 (by omega), e 1 (by omega), e 2 (by omega), ← nI_add, ← nI_add]
    grind
  · have e : ∀ k, k < 3 → ag_YG N eb nc kd ae s (3 * u + k) = 0 := by
      intro k hk
      unfold ag_YG
      rw [ag_vf (fun z => bs ?_), Int32.mul_zero]
      have := z.2.1
      rw [show (3 * u + k) / 3 = u by omega] at this
      exact this
    rw [if_neg bs, show ag_YG N eb nc kd ae s (3 * u) = ag_YG N eb nc kd ae s (3 * u + 0) from rfl, e 0 (by omega), e 1 (by omega), e 2 (by omega)]
    rfl
theorem ag_cst {t : Nat} (ht : t < 2 ^ N) (hP : P < 2 ^ N) (hN : N ≤ 10) (hnm : ∀ j, nm j < 5) (hnv : ∀ c, c < 5 → nv c = ag_mx nm vr c N) (hnc : ∀ j, nc j ≤ 3) (hkd : ∀ j, kd j < 64 ∧ kd j % 8 ≤ 5) (hah : ∀ j, ah j ≤ 9) (hog : ag_OG N oc fd fv og) (hb : ∀ i, i < 30 → ag_HB N oc fd fv kd lo ah ae i 30) : ag_XC N P eb nm vr nv og nc kd lo ah (nI t) = ag_YC N P eb nm vr nc kd ae (nI t) := by
  have z5 : ∀ u, N ≤ u → u < 10 → ag_Y5 (nI P) (nI t) u = 0 := fun u h1 h2 => if_neg (fun z => by
    have := z.1
    rw [ag_btF ht h1 (by omega)] at this
    exact absurd this (by decide))
  have z3 : ∀ u, N ≤ u → u < 10 → ag_Y3 (nI P) (nI t) u = 0 := fun u h1 h2 => if_neg (fun z => by
    have := z.1
    rw [ag_btF hP h1 (by omega)] at this
    exact absurd this (by decide))
  have e5 : ag_S (ag_Y5 (nI P) (nI t)) N = 5 * nI (ag_sz (nI t &&& (nI P ^^^ (-1)))) := by
    rw [← ag_Scut 10 hN z5, show ag_sz (nI t &&& (nI P ^^^ (-1))) = ag_C (fun u => bt (nI t &&& (nI P ^^^ (-1))) u = true) 10 from rfl, ← ag_SC, ← ag_Smul]
    refine ag_Sc 10 (fun i hi => ?_)
    have hd := ag_diff (nI t) (nI P) (show i < 32 by omega)
    unfold ag_Y5
    by_cases c : bt (nI t) i = true ∧ ¬ bt (nI P) i = true
    · rw [if_pos c, ag_vt (hd.mpr c)]; rfl
    · rw [if_neg c, ag_vf (fun z => c (hd.mp z))]; rfl
  have e3 : ag_S (ag_Y3 (nI P) (nI t)) N = 3 * nI (ag_sz (nI P &&& (nI t ^^^ (-1)))) := by
    rw [← ag_Scut 10 hN z3, show ag_sz (nI P &&& (nI t ^^^ (-1))) = ag_C (fun u => bt (nI P &&& (nI t ^^^ (-1))) u = true) 10 from rfl, ← ag_SC, ← ag_Smul]
    refine ag_Sc 10 (fun i hi => ?_)
    have hd := ag_diff (nI P) (nI t) (show i < 32 by omega)
    unfold ag_Y3
    by_cases c : bt (nI P) i = true ∧ ¬ bt (nI t) i = true
    · rw [if_pos c, ag_vt (hd.mpr c)]; rfl
    · rw [if_neg c, ag_vf (fun z => c (hd.mp z))]; rfl
  have eg : ag_S (ag_YG N eb nc kd ae (nI t)) 30 = ag_S (fun u => if bt (nI t) u = true then 2 * nI (ag_C (fun k => ag_Q eb og kd lo ah (nI t) 1 (3 * u + k)) (nc u)) else 0) N := by
    rw [show (30 : Nat) = 3 * 10 from rfl, ag_S3, ag_Scut 10 hN]
    · exact ag_Sc N (fun i hi => ag_T (nI t) hi hN hnc hkd hah hog hb)
    · intro u h1 h2
      have e : ∀ k, k < 3 → ag_YG N eb nc kd ae (nI t) (3 * u + k) = 0 := by
        intro k hk
        unfold ag_YG
        rw [ag_vf (fun z => ?_), Int32.mul_zero]
        have : (3 * u + k) / 3 < N := z.2.2.2.1
        omega
      show ag_YG N eb nc kd ae (nI t) (3 * u + 0) + ag_YG N eb nc kd ae (nI t) (3 * u + 1) + ag_YG N eb nc kd ae (nI t) (3 * u + 2) = 0
      rw [e 0 (by omega), e 1 (by omega), e 2 (by omega)]
      rfl
  have ex : ag_S (ag_XW eb nm vr nv og nc kd lo ah (nI t)) N = ag_S (fun u => if bt (nI t) u = true then 2 * nI (ag_C (fun k => ag_Q eb og kd lo ah (nI t) 1 (3 * u + k)) (nc u)) else 0) N + ag_S (ag_YN N nm vr (nI t)) N := by
    rw [← ag_Sadd]
    refine ag_Sc N (fun i hi => ?_)
    unfold ag_XW ag_YN
    by_cases c : bt (nI t) i = true
    · rw [if_pos c, if_pos c, if_pos c, hnv (nm i) (hnm i)]
    · rw [if_neg c, if_neg c, if_neg c]; rfl
  have ey : ag_S (ag_YW N nm vr (nI P) (nI t)) N = ag_S (ag_Y5 (nI P) (nI t)) N + ag_S (ag_Y3 (nI P) (nI t)) N + ag_S (ag_YN N nm vr (nI t)) N := by
    rw [← ag_Sadd, ← ag_Sadd]
    rfl
  unfold ag_XC ag_YC
  rw [ex, ey, eg, e5, e3]
  grind
theorem ag_best (w b : Int32) (hP : P < 2 ^ N) (hN : N ≤ 10) (hnm : ∀ j, nm j < 5) (hnv : ∀ c, c < 5 → nv c = ag_mx nm vr c N) (hnc : ∀ j, nc j ≤ 3) (hkd : ∀ j, kd j < 64 ∧ kd j % 8 ≤ 5) (hah : ∀ j, ah j ≤ 9) (hog : ag_OG N oc fd fv og) (hb : ∀ i, i < 30 → ag_HB N oc fd fv kd lo ah ae i 30) : ag_B (ag_ok (ag_YS N eb nm sg nc kd ae) w b) (fun i => ag_YC N P eb nm vr nc kd ae (nI i)) (2 ^ N) = ag_B (ag_ok (ag_XS N eb nm sg og nc kd lo ah) w b) (fun i => ag_XC N P eb nm vr nv og nc kd lo ah (nI i)) (2 ^ N) := by
  refine (ag_Bc (2 ^ N) (fun i hi => ?_) (fun i hi => ag_cst hi hP hN hnm hnv hnc hkd hah hog hb)).symm
  have e := ag_snd (eb := eb) (nm := nm) (sg := sg) (nI i) hN hnc hkd hah hog hb
  exact ⟨fun z => ⟨z.1, z.2.1, e.mp z.2.2⟩, fun z => ⟨z.1, z.2.1, e.mpr z.2.2⟩⟩
theorem ag_exc (w b : Int32) (hN : N ≤ 10) (hnc : ∀ j, nc j ≤ 3) (hkd : ∀ j, kd j < 64 ∧ kd j % 8 ≤ 5) (hah : ∀ j, ah j ≤ 9) (hog : ag_OG N oc fd fv og) (hb : ∀ i, i < 30 → ag_HB N oc fd fv kd lo ah ae i 30) : ag_E (ag_YS N eb nm sg nc kd ae) w b (2 ^ N) = ag_E (ag_XS N eb nm sg og nc kd lo ah) w b (2 ^ N) :=
  (ag_Ec (2 ^ N) (fun i _ => ag_snd (nI i) hN hnc hkd hah hog hb)).symm
theorem ag_E1 (w b : Int32) : ag_E (ag_XS N eb nm sg og nc kd lo ah) w b 1 = nI (ag_sz w) := by
  have e1 : w &&& (nI 0 ^^^ (-1)) = w := b_ext fun i hi => by
    rw [b_and, b_xor, b_m1 i hi, nI_0, b_0]
    cases bt w i <;> rfl
  have e2 : b &&& nI 0 = 0 := b_ext fun i hi => by
    rw [b_and, nI_0, b_0, Bool.and_false]
  have e3 : ag_sz 0 = 0 := (ag_C0 _ 10).mpr (fun u _ z => by
    rw [b_0] at z
    exact absurd z (by decide))
  have eg : ag_gv w b 0 = nI (ag_sz w) := by
    unfold ag_gv
    rw [e1, e2, e3, nI_add, Nat.add_zero]
  have hz : ag_sz w ≤ 10 := ag_Cle _ 10
  have h0 : ag_XS N eb nm sg og nc kd lo ah (nI 0) := fun u _ z => by
    rw [nI_0, b_0] at z
    exact absurd z (by decide)
  have h9 : ¬ ag_E (ag_XS N eb nm sg og nc kd lo ah) w b 0 ≤ ag_gv w b 0 := by
    rw [eg]
    exact nI_ge (b := 99) (by omega) (by decide)
  exact (ag_Et ⟨h9, h0⟩).trans eg
theorem ag_C10 (q : Nat → Prop) : ag_C q 10 = ag_n (q 0) + ag_n (q 1) + ag_n (q 2) + ag_n (q 3) + ag_n (q 4) + ag_n (q 5) + ag_n (q 6) + ag_n (q 7) + ag_n (q 8) + ag_n (q 9) := by
  show 0 + ag_n (q 0) + ag_n (q 1) + ag_n (q 2) + ag_n (q 3) + ag_n (q 4) + ag_n (q 5) + ag_n (q 6) + ag_n (q 7) + ag_n (q 8) + ag_n (q 9) = _
  rw [Nat.zero_add]
theorem ag_C20 (q : Nat → Prop) : ag_C q 20 = ag_C q 10 + (ag_n (q 10) + ag_n (q 11) + ag_n (q 12) + ag_n (q 13) + ag_n (q 14) + ag_n (q 15) + ag_n (q 16) + ag_n (q 17) + ag_n (q 18) + ag_n (q 19)) := by
  show ag_C q 10 + ag_n (q 10) + ag_n (q 11) + ag_n (q 12) + ag_n (q 13) + ag_n (q 14) + ag_n (q 15) + ag_n (q 16) + ag_n (q 17) + ag_n (q 18) + ag_n (q 19) = _
  omega
theorem ag_szc (p s : Int32) : ag_C (ag_c p s) 20 = ag_sz (p ^^^ s) := by
  have h1 : ∀ t u, t + u = 9 → ag_n (ag_c p s t) = ag_n (bt p u = true ∧ ¬ bt s u = true) := fun t u e => ag_ni (by
    unfold ag_c
    rw [show 9 - t = u by omega]
    exact ⟨fun z => z.elim (fun y => y.2) (fun y => absurd y.1 (by omega)), fun z => Or.inl ⟨by omega, z⟩⟩)
  have h2 : ∀ t u, t = 10 + u → ag_n (ag_c p s t) = ag_n (bt s u = true ∧ ¬ bt p u = true) := fun t u e => ag_ni (by
    unfold ag_c
    rw [show t - 10 = u by omega]
    exact ⟨fun z => z.elim (fun y => absurd y.1 (by omega)) (fun y => y.2), fun z => Or.inr ⟨by omega, z⟩⟩)
  have h3 : ∀ u, ag_n (bt (p ^^^ s) u = true) = ag_n (bt p u = true ∧ ¬ bt s u = true) + ag_n (bt s u = true ∧ ¬ bt p u = true) := fun u => by
    rw [b_xor]
    cases bt p u <;> cases bt s u
    · rw [ag_nf (by decide), ag_nf (by decide)]
    · rw [ag_nt (by decide), ag_nf (by decide), ag_nt (by decide)]
    · rw [ag_nt (by decide), ag_nt (by decide), ag_nf (by decide)]
    · rw [ag_nf (by decide), ag_nf (by decide)]
  unfold ag_sz
  rw [ag_C20, ag_C10, ag_C10, h3 0, h3 1, h3 2, h3 3, h3 4, h3 5, h3 6, h3 7, h3 8, h3 9]
  rw [h1 0 9 rfl, h1 1 8 rfl, h1 2 7 rfl, h1 3 6 rfl, h1 4 5 rfl, h1 5 4 rfl, h1 6 3 rfl, h1 7 2 rfl, h1 8 1 rfl, h1 9 0 rfl]
  rw [h2 10 0 rfl, h2 11 1 rfl, h2 12 2 rfl, h2 13 3 rfl, h2 14 4 rfl, h2 15 5 rfl, h2 16 6 rfl, h2 17 7 rfl, h2 18 8 rfl, h2 19 9 rfl]
  omega
theorem ag_mxu {a b c : Nat} : ∀ i, i ≤ N → ag_mx (ag_u nm N a) (ag_u vr N b) c i = ag_mx nm vr c i := by
  intro i
  induction i with
  | zero => intro _; rfl
  | succ i ih =>
    intro hi
    rw [ag_mx, ag_mx, ih (by omega), ag_un (by omega), ag_un (by omega)]
theorem ag_nNh {s : Nat} (hK : K ≤ 8) (h : ∀ j, j < 8 → nt j = hs j) : ∀ j, j < 8 → ag_nN nt K s j = ag_hN hs K s j := by
  intro j hj
  unfold ag_nN ag_hN
  by_cases k8 : K < 8
  · rw [if_pos k8, if_pos k8]
    by_cases e : j = K
    · rw [e, ag_us, ag_us]
    · rw [ag_un e, ag_un e, h j hj]
  · rw [if_neg k8, if_neg k8]
    unfold ag_D
    rw [if_pos hj]
    by_cases e : j = 7
    · rw [e, ag_us, ag_us]
    · rw [ag_un e, ag_un (by omega), if_pos (by omega), h (j + 1) (by omega)]
theorem ag_hNb {s M : Nat} (h : ∀ j, hs j < M) (hsM : s < M) : ∀ j, ag_hN hs K s j < M := by
  have h8 : ∀ i j, ag_u hs i s j < M := fun i j => by
    unfold ag_u
    by_cases e : j = i
    · rw [if_pos e]; exact hsM
    · rw [if_neg e]; exact h j
  intro j
  unfold ag_hN
  by_cases k8 : K < 8
  · rw [if_pos k8]; exact h8 K j
  · rw [if_neg k8]
    unfold ag_D
    by_cases e : j < 8
    · rw [if_pos e]; exact h8 8 _
    · rw [if_neg e]; exact h8 8 _
theorem ag_nK8 (hK : K ≤ 8) : ag_nK K ≤ 8 := by
  unfold ag_nK
  by_cases k8 : K < 8
  · rw [if_pos k8]; omega
  · rw [if_neg k8]; omega
theorem ag_ub {g : Nat → Nat} {i x M : Nat} (h : ∀ j, g j ≤ M) (hx : x ≤ M) : ∀ j, ag_u g i x j ≤ M := fun j => by
  unfold ag_u
  by_cases e : j = i
  · rw [if_pos e]; exact hx
  · rw [if_neg e]; exact h j
theorem ag_OGo {u x c v : Nat} (hN : N ≤ 10) (hu : u < N) (hx : oc u = x) (hx3 : x < 3) (hc : c < 6) (hv : v < 10) (hog : ag_OG N oc fd fv og) : ag_OG N (ag_u oc u (x + 1)) (ag_u fd (3 * u + x) c) (ag_u fv (3 * u + x) v) (upd og (c * 10 + v) (og (c * 10 + v) ||| ((1 : Int32) <<< (nI u &&& 31)))) := by
  intro c1 v1 hc1 hv1 b hb
  have old := hog c1 v1 hc1 hv1 b hb
  have rhs : (b < N ∧ ∃ k, k < 3 ∧ k < ag_u oc u (x + 1) b ∧ ag_u fd (3 * u + x) c (3 * b + k) = c1 ∧ ag_u fv (3 * u + x) v (3 * b + k) = v1) ↔ ((b < N ∧ ∃ k, k < 3 ∧ k < oc b ∧ fd (3 * b + k) = c1 ∧ fv (3 * b + k) = v1) ∨ (b = u ∧ c1 = c ∧ v1 = v)) := by
    constructor
    · rintro ⟨h1, k, h2, h3, h4, h5⟩
      by_cases e : b = u
      · subst e
        rw [ag_us] at h3
        by_cases ek : k = x
        · rw [ek, ag_us] at h4 h5
          exact Or.inr ⟨rfl, h4.symm, h5.symm⟩
        · rw [ag_un (by omega)] at h4 h5
          exact Or.inl ⟨h1, k, h2, by omega, h4, h5⟩
      · rw [ag_un e] at h3
        rw [ag_un (by omega)] at h4 h5
        exact Or.inl ⟨h1, k, h2, h3, h4, h5⟩
    · rintro (⟨h1, k, h2, h3, h4, h5⟩ | ⟨h1, h2, h3⟩)
      · refine ⟨h1, k, h2, ?_, ?_, ?_⟩
        · by_cases e : b = u
          · rw [e, ag_us]
            rw [e] at h3
            omega
          · rw [ag_un e]; exact h3
        · rw [ag_un (fun z => ?_)]
          · exact h4
          · have e : b = u := by omega
            rw [e] at h3
            omega
        · rw [ag_un (fun z => ?_)]
          · exact h5
          · have e : b = u := by omega
            rw [e] at h3
            omega
      · subst h1
        refine ⟨hu, x, hx3, ?_, ?_, ?_⟩
        · rw [ag_us]; omega
        · rw [ag_us, h2]
        · rw [ag_us, h3]
  rw [rhs, ← old]
  by_cases e : c1 = c ∧ v1 = v
  · obtain ⟨rfl, rfl⟩ := e
    rw [pk_us, b_or, ag_one (by omega) hb]
    by_cases eb : u = b
    · rw [decide_eq_true eb, Bool.or_true]
      exact ⟨fun _ => Or.inr ⟨eb.symm, rfl, rfl⟩, fun _ => rfl⟩
    · rw [decide_eq_false eb, Bool.or_false]
      exact ⟨Or.inl, fun z => z.elim id (fun y => absurd y.1.symm eb)⟩
  · rw [pk_un (by omega)]
    exact ⟨Or.inl, fun z => z.elim id (fun y => absurd y.2 e)⟩
theorem ag_OGu (hoz : ∀ j, N ≤ j → oc j = 0) (hog : ag_OG N oc fd fv og) : ag_OG (N + 1) oc fd fv og := by
  intro c v hc hv b hb
  rw [hog c v hc hv b hb]
  constructor
  · rintro ⟨h1, h2⟩
    exact ⟨by omega, h2⟩
  · rintro ⟨h1, k, h2, h3, h4⟩
    have : b < N := by
      refine Classical.byContradiction fun hn => ?_
      rw [hoz b (by omega)] at h3
      omega
    exact ⟨this, k, h2, h3, h4⟩
end
