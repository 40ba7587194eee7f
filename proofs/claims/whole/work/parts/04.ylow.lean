/-! the reference: helpers, soundness, price -/
def ag_F (N : Nat) (oc fd fv kd lo ah : Nat → Nat) (i j : Nat) : Prop := j / 3 < N ∧ j % 3 < oc (j / 3) ∧ fd j = ag_kc kd i ∧ lo i ≤ fv j ∧ fv j ≤ ah i
def ag_HB (N : Nat) (oc fd fv kd lo ah : Nat → Nat) (ae : Nat → Int32) (i n : Nat) : Prop := ∀ b, b < 32 → (bt (ae i) b = true ↔ ∃ j, j < n ∧ j / 3 = b ∧ ag_F N oc fd fv kd lo ah i j)
def ag_mx (nm vr : Nat → Nat) (c : Nat) : Nat → Nat
  | 0 => 0
  | i + 1 => if nm i = c then (if vr i ≤ ag_mx nm vr c i then ag_mx nm vr c i else vr i) else ag_mx nm vr c i
theorem ag_mx9 {nm vr : Nat → Nat} {c : Nat} (hvr : ∀ j, vr j ≤ 9) : ∀ i, ag_mx nm vr c i ≤ 9 := by
  intro i
  induction i with
  | zero => exact Nat.zero_le _
  | succ i ih =>
    have := hvr i
    rw [ag_mx]
    by_cases h1 : nm i = c
    · rw [if_pos h1]
      by_cases h2 : vr i ≤ ag_mx nm vr c i
      · rw [if_pos h2]; exact ih
      · rw [if_neg h2]; exact this
    · rw [if_neg h1]; exact ih
section
variable {N P K : Nat} {eb : Int32} {nm vr nv oc nc kd lo ah nt fd fv hs : Nat → Nat} {sg tc og ae : Nat → Int32}
theorem ag_d3 {j : Nat} (h : j < 30) : nI j / 3 = nI (j / 3) := pk_div (a := j) (d := 3) (by omega) (by decide) (by decide)
theorem ag_m3 {j : Nat} (h : j < 30) : nI j - nI j / 3 * 3 = nI (j % 3) := pk_rem (a := j) (d := 3) (by omega) (by decide) (by decide)
theorem ag_m8 {j : Nat} (h : j < 64) : nI j - nI j / 8 * 8 = nI (j % 8) := pk_rem (a := j) (d := 8) (by omega) (by decide) (by decide)
theorem ag_m4 {j : Nat} (h : j < 64) : nI j / 8 - nI j / 8 / 4 * 4 = nI (j / 8 % 4) := by
  rw [show nI j / 8 = nI (j / 8) from pk_div (a := j) (d := 8) (by omega) (by decide) (by decide)]
  exact pk_rem (a := j / 8) (d := 4) (by omega) (by decide) (by decide)
theorem ag_Y52 {post : SY → Prop} {J2 J17 : Int32 → (Nat → Int32) → (Nat → Int32) → (Nat → Int32) → (Nat → Int32) → (Nat → Int32) → (Nat → Int32) → (Nat → Int32) → (Nat → Int32) → (Nat → Int32) → (Nat → Int32) → (Nat → Int32) → (Nat → Int32) → (Nat → Int32) → Prop} {i j : Nat} {z : Int32} (hi : i < 30) (hj : j < 30) (hkd : ∀ j, kd j < 64 ∧ kd j % 8 ≤ 5) (hlo : ∀ j, lo j ≤ 9) (hah : ∀ j, ah j ≤ 9) (hfd : ∀ j, fd j ≤ 5) (hfv : ∀ j, fv j ≤ 9) (hk : z = 0 ∨ ¬ (fd j = ag_kc kd i ∧ lo i ≤ fv j ∧ fv j ≤ ah i) → J17 (nI (j + 1)) (ag_f nm) (ag_f vr) sg (ag_f oc) (ag_f fd) (ag_f fv) (ag_f nc) (ag_f kd) (ag_f lo) (ag_f ah) ae (ag_f hs) tc) (ha : ¬ z = 0 → (fd j = ag_kc kd i ∧ lo i ≤ fv j ∧ fv j ≤ ah i) → J17 (nI (j + 1)) (ag_f nm) (ag_f vr) sg (ag_f oc) (ag_f fd) (ag_f fv) (ag_f nc) (ag_f kd) (ag_f lo) (ag_f ah) (upd ae i (ae i ||| ((1 : Int32) <<< (nI (j / 3) &&& 31)))) (ag_f hs) tc) : wY_look_52 post J2 J17 (nI i) (nI j) z (nI N) eb (nI P) (nI K) (ag_f nm) (ag_f vr) sg (ag_f oc) (ag_f fd) (ag_f fv) (ag_f nc) (ag_f kd) (ag_f lo) (ag_f ah) ae (ag_f hs) tc := by
  unfold wY_look_52
  have hi30 : vp_in (nI i) 30 := pk_in i 30 hi
  have hj30 : vp_in (nI j) 30 := pk_in j 30 hj
  have b1 := (hkd i).1
  have b2 := (hkd i).2
  have b3 := hlo i
  have b4 := hah i
  have b5 := hfd j
  have b6 := hfv j
  have no : ¬ (fd j = ag_kc kd i ∧ lo i ≤ fv j ∧ fv j ≤ ah i) → wY_look_105 post J2 J17 (nI i) (nI j) z (nI N) eb (nI P) (nI K) (ag_f nm) (ag_f vr) sg (ag_f oc) (ag_f fd) (ag_f fv) (ag_f nc) (ag_f kd) (ag_f lo) (ag_f ah) ae (ag_f hs) tc := fun hn => by
    unfold wY_look_105 wY_look_106
    exact br_c (fun _ => nm_r (nI_1 j) (hk (Or.inr hn))) (fun _ => br_t rfl (nm_r (nI_1 j) (hk (Or.inr hn))))
  have bk : ag_kc kd i < 2 ^ 31 := by unfold ag_kc; omega
  refine ⟨hj30, hi30, by decide, pk_eq (fd j) (ag_kc kd i) (fun e1 => ⟨hj30, hi30, ?_⟩) (fun e1 => no fun y => e1 y.1) (ag_at fd (by omega)) (by rw [ag_at kd (by omega), ag_m8 b1]; rfl) (by omega) bk⟩
  refine pk_lt (fv j) (lo i) (fun e2 => no fun y => by omega) (fun e2 => ⟨hj30, hi30, ?_⟩) (ag_at fv (by omega)) (ag_at lo (by omega))
  refine pk_lt (ah i) (fv j) (fun e3 => no fun y => by omega) (fun e3 => ?_) (ag_at ah (by omega)) (ag_at fv (by omega))
  unfold wY_look_106
  refine br_c (fun z0 => nm_r (nI_1 j) (hk (Or.inl z0))) (fun z0 => br_f (by decide) ⟨hi30, by decide, hi30, nm_r ?_ (nm_r (nI_1 j) (ha z0 ⟨e1, e2, e3⟩))⟩)
  rw [nI_clamp (by omega), ag_d3 hj]
theorem ag_Y17_go {post : SY → Prop} {J2 : Int32 → (Nat → Int32) → (Nat → Int32) → (Nat → Int32) → (Nat → Int32) → (Nat → Int32) → (Nat → Int32) → (Nat → Int32) → (Nat → Int32) → (Nat → Int32) → (Nat → Int32) → (Nat → Int32) → (Nat → Int32) → (Nat → Int32) → Prop} {i : Nat} (hi : i < 30) (hN : N ≤ 10) (hoc : ∀ j, oc j ≤ 3) (hkd : ∀ j, kd j < 64 ∧ kd j % 8 ≤ 5) (hlo : ∀ j, lo j ≤ 9) (hah : ∀ j, ah j ≤ 9) (hfd : ∀ j, fd j ≤ 5) (hfv : ∀ j, fv j ≤ 9) (hJ : ∀ ae : Nat → Int32, (∀ k, k < i + 1 → ag_HB N oc fd fv kd lo ah ae k 30) → J2 (nI (i + 1)) (ag_f nm) (ag_f vr) sg (ag_f oc) (ag_f fd) (ag_f fv) (ag_f nc) (ag_f kd) (ag_f lo) (ag_f ah) ae (ag_f hs) tc) : ∀ (d j : Nat) (ae : Nat → Int32), j + d = 30 → (∀ k, k < i → ag_HB N oc fd fv kd lo ah ae k 30) → ag_HB N oc fd fv kd lo ah ae i j → wY_look_17 post J2 (nI i) (nI N) eb (nI P) (nI K) (d + 1) (nI j) (ag_f nm) (ag_f vr) sg (ag_f oc) (ag_f fd) (ag_f fv) (ag_f nc) (ag_f kd) (ag_f lo) (ag_f ah) ae (ag_f hs) tc := by
  intro d
  induction d with
  | zero =>
    intro j ae hj h1 h2
    obtain rfl : j = 30 := by omega
    refine br_t (nI_le (a := 30) (b := 30) (by omega) (by omega)) (nm_r (nI_1 i) (hJ ae (fun k hk => ?_)))
    by_cases e : k = i
    · rw [e]; exact h2
    · exact h1 k (by omega)
  | succ d ih =>
    intro j ae hj h1 h2
    have hj30 : j < 30 := by omega
    have o3 := hoc (j / 3)
    have keep : ¬ ag_F N oc fd fv kd lo ah i j → wY_look_17 post J2 (nI i) (nI N) eb (nI P) (nI K) (d + 1) (nI (j + 1)) (ag_f nm) (ag_f vr) sg (ag_f oc) (ag_f fd) (ag_f fv) (ag_f nc) (ag_f kd) (ag_f lo) (ag_f ah) ae (ag_f hs) tc := fun hn => ih (j + 1) ae (by omega) h1 (fun b hb => by
      rw [h2 b hb]
      exact ⟨fun ⟨k, a1, a2, a3⟩ => ⟨k, by omega, a2, a3⟩, fun ⟨k, a1, a2, a3⟩ => ⟨k, by
        by_cases e : k = j
        · rw [e] at a3; exact absurd a3 hn
        · omega, a2, a3⟩⟩)
    have add : ag_F N oc fd fv kd lo ah i j → wY_look_17 post J2 (nI i) (nI N) eb (nI P) (nI K) (d + 1) (nI (j + 1)) (ag_f nm) (ag_f vr) sg (ag_f oc) (ag_f fd) (ag_f fv) (ag_f nc) (ag_f kd) (ag_f lo) (ag_f ah) (upd ae i (ae i ||| ((1 : Int32) <<< (nI (j / 3) &&& 31)))) (ag_f hs) tc := fun hn => by
      have hN3 : j / 3 < 10 := by have := hn.1; omega
      refine ih (j + 1) (upd ae i (ae i ||| ((1 : Int32) <<< (nI (j / 3) &&& 31)))) (by omega) (fun k hk b hb => ?_) (fun b hb => ?_)
      · rw [pk_un (by omega)]
        exact h1 k hk b hb
      · rw [pk_us, b_or, ag_one hN3 hb]
        constructor
        · intro z
          by_cases e : j / 3 = b
          · exact ⟨j, by omega, e, hn⟩
          · rw [decide_eq_false e, Bool.or_false] at z
            obtain ⟨k, a1, a2, a3⟩ := (h2 b hb).mp z
            exact ⟨k, by omega, a2, a3⟩
        · rintro ⟨k, a1, a2, a3⟩
          by_cases e : k = j
          · rw [decide_eq_true (by rw [← e]; exact a2), Bool.or_true]
          · rw [(h2 b hb).mpr ⟨k, by omega, a2, a3⟩, Bool.true_or]
    have no : ¬ (j / 3 < N ∧ j % 3 < oc (j / 3)) → wY_look_51 post J2 (wY_look_17 post J2 (nI i) (nI N) eb (nI P) (nI K) (d + 1)) (nI i) (nI j) (nI N) eb (nI P) (nI K) (ag_f nm) (ag_f vr) sg (ag_f oc) (ag_f fd) (ag_f fv) (ag_f nc) (ag_f kd) (ag_f lo) (ag_f ah) ae (ag_f hs) tc := fun hn => by
      unfold wY_look_51
      exact ag_Y52 hi hj30 hkd hlo hah hfd hfv (fun _ => keep fun y => hn ⟨y.1, y.2.1⟩) (fun z => absurd rfl z)
    refine br_f (nI_ge (b := 30) (by omega) (by decide)) ⟨by decide, pk_le N (j / 3) (fun e => no fun y => by omega) (fun e => ⟨by decide, by decide, pk_in (j / 3) 10 (by omega) (ag_d3 hj30), ?_⟩) rfl (ag_d3 hj30)⟩
    refine pk_le (oc (j / 3)) (j % 3) (fun e2 => no fun y => by omega) (fun e2 => ?_) (by rw [ag_d3 hj30, ag_at oc (by omega)]) (ag_m3 hj30)
    exact ag_Y52 hi hj30 hkd hlo hah hfd hfv (fun y => keep fun z => y.elim (fun y => absurd y (by decide)) (fun y => y z.2.2)) (fun _ y => add ⟨e, e2, y⟩)
theorem ag_Y2_go {post : SY → Prop} (hN : N ≤ 10) (hoc : ∀ j, oc j ≤ 3) (hkd : ∀ j, kd j < 64 ∧ kd j % 8 ≤ 5) (hlo : ∀ j, lo j ≤ 9) (hah : ∀ j, ah j ≤ 9) (hfd : ∀ j, fd j ≤ 5) (hfv : ∀ j, fv j ≤ 9) (h : ∀ ae : Nat → Int32, (∀ k, k < 30 → ag_HB N oc fd fv kd lo ah ae k 30) → post ((nI N), eb, (nI P), (nI K), (ag_f nm), (ag_f vr), sg, (ag_f oc), (ag_f fd), (ag_f fv), (ag_f nc), (ag_f kd), (ag_f lo), (ag_f ah), ae, (ag_f hs), tc)) : ∀ (d i : Nat) (ae : Nat → Int32), i + d = 30 → (∀ k, k < i → ag_HB N oc fd fv kd lo ah ae k 30) → wY_look_2 post (nI N) eb (nI P) (nI K) (d + 1) (nI i) (ag_f nm) (ag_f vr) sg (ag_f oc) (ag_f fd) (ag_f fv) (ag_f nc) (ag_f kd) (ag_f lo) (ag_f ah) ae (ag_f hs) tc := by
  intro d
  induction d with
  | zero =>
    intro i ae hi h1
    obtain rfl : i = 30 := by omega
    exact br_t (nI_le (a := 30) (b := 30) (by omega) (by omega)) (h ae h1)
  | succ d ih =>
    intro i ae hi h1
    refine br_f (nI_ge (b := 30) (by omega) (by decide)) ⟨pk_in i 30 (by omega), nm_r (by rw [nI_clamp (by omega)]) ⟨31, ag_Y17_go (by omega) hN hoc hkd hlo hah hfd hfv (fun ae' h' => ih (i + 1) ae' (by omega) h') 30 0 (upd ae i 0) rfl (fun k hk b hb => ?_) (fun b hb => ?_)⟩⟩
    · rw [pk_un (by omega)]
      exact h1 k hk b hb
    · rw [pk_us, b_0]
      exact ⟨fun z => absurd z (by decide), fun ⟨k, a1, _⟩ => absurd a1 (by omega)⟩
theorem ag_Ylook {post : SY → Prop} (hN : N ≤ 10) (hoc : ∀ j, oc j ≤ 3) (hkd : ∀ j, kd j < 64 ∧ kd j % 8 ≤ 5) (hlo : ∀ j, lo j ≤ 9) (hah : ∀ j, ah j ≤ 9) (hfd : ∀ j, fd j ≤ 5) (hfv : ∀ j, fv j ≤ 9) (h : ∀ ae : Nat → Int32, (∀ k, k < 30 → ag_HB N oc fd fv kd lo ah ae k 30) → post ((nI N), eb, (nI P), (nI K), (ag_f nm), (ag_f vr), sg, (ag_f oc), (ag_f fd), (ag_f fv), (ag_f nc), (ag_f kd), (ag_f lo), (ag_f ah), ae, (ag_f hs), tc)) : wpY_look post ((nI N), eb, (nI P), (nI K), (ag_f nm), (ag_f vr), sg, (ag_f oc), (ag_f fd), (ag_f fv), (ag_f nc), (ag_f kd), (ag_f lo), (ag_f ah), ae, (ag_f hs), tc) := by
  unfold wpY_look
  exact ⟨31, ag_Y2_go hN hoc hkd hlo hah hfd hfv h 30 0 ae rfl (fun k hk => absurd hk (by omega))⟩
def ag_YA (N : Nat) (eb : Int32) (nc kd : Nat → Nat) (p : Nat) : Prop := p / 3 < N ∧ p % 3 < nc (p / 3) ∧ ag_AP eb kd p
theorem ag_Yapplies {post : Int32 → Prop} {i : Nat} (hi : i < 30) (hN : N ≤ 10) (hnc : ∀ j, nc j ≤ 3) (hkd : ∀ j, kd j < 64 ∧ kd j % 8 ≤ 5) (h : post (ag_v (ag_YA N eb nc kd i))) : wpY_applies post ((nI N), eb, (nI P), (nI K), (ag_f nm), (ag_f vr), sg, (ag_f oc), (ag_f fd), (ag_f fv), (ag_f nc), (ag_f kd), (ag_f lo), (ag_f ah), ae, (ag_f hs), tc) (nI i) := by
  unfold wpY_applies
  have n3 := hnc (i / 3)
  refine ⟨by decide, pk_le N (i / 3) (fun e => ag_pf post h (fun z => by have := z.1; omega)) (fun e => ⟨by decide, by decide, pk_in (i / 3) 10 (by omega) (ag_d3 hi), ?_⟩) rfl (ag_d3 hi)⟩
  refine pk_lt (i % 3) (nc (i / 3)) (fun e2 => ⟨pk_in i 30 hi, by decide, by decide, nm_r (by rw [ag_at kd (by omega), ag_m4 (hkd i).1]; rfl) (ag_ap (c := ag_kn kd i) (ag_kn4 i) ?_)⟩) (fun e2 => ag_pf post h (fun z => by have := z.2.1; omega)) (ag_m3 hi) (by rw [ag_d3 hi, ag_at nc (by omega)])
  rw [ag_vi (show ag_YA N eb nc kd i ↔ (ag_kn kd i = 0 ∨ bt eb (ag_kn kd i - 1) = true) from ⟨fun z => z.2.2, fun z => ⟨e, e2, z⟩⟩)] at h
  exact h
/-- a place unmet in the eyes of the reference, but for its sort -/
def ag_UY (N : Nat) (eb : Int32) (nc kd : Nat → Nat) (ae : Nat → Int32) (s : Int32) (p : Nat) : Prop := bt s (p / 3) = true ∧ (s &&& ae p) = 0 ∧ ag_YA N eb nc kd p
def ag_PR (nm : Nat → Nat) (sg : Nat → Int32) (s : Int32) (u w : Nat) : Prop := bt s u = true ∧ bt s w = true ∧ nm u = nm w ∧ ¬ (sg u = 0 ∧ sg w = 0)
def ag_YS (N : Nat) (eb : Int32) (nm : Nat → Nat) (sg : Nat → Int32) (nc kd : Nat → Nat) (ae : Nat → Int32) (s : Int32) : Prop := (∀ p, p < 30 → ¬ (kd p < 32 ∧ ag_UY N eb nc kd ae s p)) ∧ (∀ u, u < N → ∀ w, w < u → ¬ ag_PR nm sg s u w)
theorem ag_Y85_go {post : Int32 → Prop} {J69 : Int32 → Prop} (s : Int32) {u : Nat} (hu : u < 10) (hnm : ∀ j, nm j < 5) (hJ : (∀ w, w < u → ¬ ag_PR nm sg s u w) → J69 (nI (u + 1))) (hb : ∀ w, w < u → ag_PR nm sg s u w → post 0) : ∀ d w : Nat, w + d = u → (∀ x, x < w → ¬ ag_PR nm sg s u x) → wY_isSound_85 post J69 s (nI u) (nI N) eb (nI P) (nI K) (ag_f nm) (ag_f vr) sg (ag_f oc) (ag_f fd) (ag_f fv) (ag_f nc) (ag_f kd) (ag_f lo) (ag_f ah) ae (ag_f hs) tc (d + 1) (nI w) := by
  intro d
  induction d with
  | zero =>
    intro w hw hl
    obtain rfl : w = u := by omega
    exact br_t (nI_le (by omega) (by omega)) (nm_r (nI_1 w) (hJ hl))
  | succ d ih =>
    intro w hw hl
    have n1 := hnm u
    have n2 := hnm w
    have step : ¬ ag_PR nm sg s u w → wY_isSound_85 post J69 s (nI u) (nI N) eb (nI P) (nI K) (ag_f nm) (ag_f vr) sg (ag_f oc) (ag_f fd) (ag_f fv) (ag_f nc) (ag_f kd) (ag_f lo) (ag_f ah) ae (ag_f hs) tc (d + 1) (nI (w + 1)) := fun hn => ih (w + 1) (by omega) (fun x hx => by
      by_cases e : x = w
      · rw [e]; exact hn
      · exact hl x (by omega))
    have hu10 : vp_in (nI u) 10 := pk_in u 10 (by omega)
    have hw10 : vp_in (nI w) 10 := pk_in w 10 (by omega)
    refine br_f (nI_ge (by omega) (by omega)) (ag_Yin _ s (by omega) (ag_br (fun b1 => ag_Yin _ s (by omega) (ag_br (fun b2 => ⟨hu10, hw10, ?_⟩) (fun b2 => nm_r (nI_1 w) (step fun z => b2 z.2.1)))) (fun b1 => nm_r (nI_1 w) (step fun z => b1 z.1))))
    refine pk_eq (nm u) (nm w) (fun e => ⟨hu10, ?_⟩) (fun e => nm_r (nI_1 w) (step fun z => e z.2.2.1)) (ag_at nm (by omega)) (ag_at nm (by omega))
    rw [nI_clamp (n := u) (by omega), nI_clamp (n := w) (by omega)]
    exact br_c (fun z1 => ⟨hw10, br_c (fun z2 => nm_r (nI_1 w) (step fun z => z.2.2.2 ⟨z1, z2⟩)) (fun z2 => hb w (by omega) ⟨b1, b2, e, fun z => z2 z.2⟩)⟩) (fun z1 => hb w (by omega) ⟨b1, b2, e, fun z => z1 z.1⟩)
theorem ag_Y69_go {post : Int32 → Prop} (s : Int32) (hN : N ≤ 10) (hnm : ∀ j, nm j < 5) (h1 : (∀ u, u < N → ∀ w, w < u → ¬ ag_PR nm sg s u w) → post 1) (h0 : ∀ u w, u < N → w < u → ag_PR nm sg s u w → post 0) : ∀ d u : Nat, u + d = N → (∀ x, x < u → ∀ w, w < x → ¬ ag_PR nm sg s x w) → wY_isSound_69 post s (nI N) eb (nI P) (nI K) (ag_f nm) (ag_f vr) sg (ag_f oc) (ag_f fd) (ag_f fv) (ag_f nc) (ag_f kd) (ag_f lo) (ag_f ah) ae (ag_f hs) tc (d + 1) (nI u) := by
  intro d
  induction d with
  | zero =>
    intro u hu hl
    obtain rfl : u = N := by omega
    exact br_t (nI_le (by omega) (by omega)) (h1 hl)
  | succ d ih =>
    intro u hu hl
    refine br_f (nI_ge (by omega) (by omega)) (br_f (nI_ge (b := 10) (by omega) (by decide)) ⟨u + 1, ag_Y85_go s (by omega) hnm (fun hn => ih (u + 1) (by omega) (fun x hx => ?_)) (fun w hw hp => h0 u w (by omega) hw hp) u 0 (by omega) (fun x hx => absurd hx (by omega))⟩)
    by_cases e : x = u
    · rw [e]; exact hn
    · exact hl x (by omega)
theorem ag_Ys2_go {post : Int32 → Prop} (s : Int32) (hN : N ≤ 10) (hnm : ∀ j, nm j < 5) (hnc : ∀ j, nc j ≤ 3) (hkd : ∀ j, kd j < 64 ∧ kd j % 8 ≤ 5) (h : post (ag_v (ag_YS N eb nm sg nc kd ae s))) : ∀ d p : Nat, p + d = 30 → (∀ x, x < p → ¬ (kd x < 32 ∧ ag_UY N eb nc kd ae s x)) → wY_isSound_2 post s (nI N) eb (nI P) (nI K) (ag_f nm) (ag_f vr) sg (ag_f oc) (ag_f fd) (ag_f fv) (ag_f nc) (ag_f kd) (ag_f lo) (ag_f ah) ae (ag_f hs) tc (d + 1) (nI p) := by
  intro d
  induction d with
  | zero =>
    intro p hp hl
    obtain rfl : p = 30 := by omega
    exact br_t (nI_le (a := 30) (b := 30) (by omega) (by omega)) ⟨N + 1, ag_Y69_go s hN hnm (fun hn => ag_pt post h ⟨hl, hn⟩) (fun u w hu hw hq => ag_pf post h (fun z => z.2 u hu w hw hq)) N 0 (by omega) (fun x hx => absurd hx (by omega))⟩
  | succ d ih =>
    intro p hp hl
    have hp30 : p < 30 := by omega
    have k1 := (hkd p).1
    have hv : vp_in (nI p) 30 := pk_in p 30 hp30
    have step : ¬ (kd p < 32 ∧ ag_UY N eb nc kd ae s p) → wY_isSound_2 post s (nI N) eb (nI P) (nI K) (ag_f nm) (ag_f vr) sg (ag_f oc) (ag_f fd) (ag_f fv) (ag_f nc) (ag_f kd) (ag_f lo) (ag_f ah) ae (ag_f hs) tc (d + 1) (nI (p + 1)) := fun hn => ih (p + 1) (by omega) (fun x hx => by
      by_cases e : x = p
      · rw [e]; exact hn
      · exact hl x (by omega))
    have no : ¬ (kd p < 32 ∧ ag_UY N eb nc kd ae s p) → wY_isSound_45 post (wY_isSound_2 post s (nI N) eb (nI P) (nI K) (ag_f nm) (ag_f vr) sg (ag_f oc) (ag_f fd) (ag_f fv) (ag_f nc) (ag_f kd) (ag_f lo) (ag_f ah) ae (ag_f hs) tc (d + 1)) s (nI p) (nI N) eb (nI P) (nI K) (ag_f nm) (ag_f vr) sg (ag_f oc) (ag_f fd) (ag_f fv) (ag_f nc) (ag_f kd) (ag_f lo) (ag_f ah) ae (ag_f hs) tc := fun hn => by
      unfold wY_isSound_45 wY_isSound_46
      exact br_t rfl (nm_r (nI_1 p) (step hn))
    refine br_f (nI_ge (b := 30) (by omega) (by decide)) ⟨by decide, ?_⟩
    rw [ag_d3 hp30]
    refine ag_Yin _ s (by omega) (ag_br (fun b1 => ⟨hv, pk_le 32 (kd p) (fun e => no fun z => by omega) (fun e => ⟨hv, ?_⟩) rfl (ag_at kd (by omega))⟩) (fun b1 => no fun z => b1 z.2.1))
    rw [nI_clamp (by omega)]
    refine br_c (fun m => ?_) (fun m => no fun z => m z.2.2.1)
    unfold wY_isSound_46
    exact br_f (by decide) (ag_Yapplies hp30 hN hnc hkd (ag_br (fun a => ag_pf post h (fun z => z.1 p hp30 ⟨e, b1, m, a⟩)) (fun a => nm_r (nI_1 p) (step fun z => a z.2.2.2))))
theorem ag_Ysound {post : Int32 → Prop} (s : Int32) (hN : N ≤ 10) (hnm : ∀ j, nm j < 5) (hnc : ∀ j, nc j ≤ 3) (hkd : ∀ j, kd j < 64 ∧ kd j % 8 ≤ 5) (h : post (ag_v (ag_YS N eb nm sg nc kd ae s))) : wpY_isSound post ((nI N), eb, (nI P), (nI K), (ag_f nm), (ag_f vr), sg, (ag_f oc), (ag_f fd), (ag_f fv), (ag_f nc), (ag_f kd), (ag_f lo), (ag_f ah), ae, (ag_f hs), tc) s := by
  unfold wpY_isSound
  exact ⟨31, ag_Ys2_go s hN hnm hnc hkd h 30 0 rfl (fun x hx => absurd hx (by omega))⟩
theorem ag_Ynew_go {post : Int32 → Prop} {u : Nat} (hu : u < N) (hN : N ≤ 10) (hnm : ∀ j, nm j < 5) (hvr : ∀ j, vr j ≤ 9) (h : post (nI (ag_mx nm vr (nm u) N))) : ∀ d i : Nat, i + d = N → wY_newest_4 post (nI u) (nI N) eb (nI P) (nI K) (ag_f nm) (ag_f vr) sg (ag_f oc) (ag_f fd) (ag_f fv) (ag_f nc) (ag_f kd) (ag_f lo) (ag_f ah) ae (ag_f hs) tc (d + 1) (nI (ag_mx nm vr (nm u) i)) (nI i) := by
  intro d
  induction d with
  | zero =>
    intro i hi
    obtain rfl : i = N := by omega
    exact br_t (nI_le (by omega) (by omega)) h
  | succ d ih =>
    intro i hi
    have n1 := hnm i
    have n2 := hnm u
    have n3 := hvr i
    have n4 := ag_mx9 (nm := nm) (c := nm u) hvr i
    have g := ih (i + 1) (by omega)
    have hi10 : vp_in (nI i) 10 := pk_in i 10 (by omega)
    have hu10 : vp_in (nI u) 10 := pk_in u 10 (by omega)
    refine br_f (nI_ge (by omega) (by omega)) (br_f (nI_ge (b := 10) (by omega) (by decide)) ⟨hi10, hu10, pk_eq (nm i) (nm u) (fun e => ⟨hi10, pk_le (vr i) (ag_mx nm vr (nm u) i) (fun e2 => nm_r (nI_1 i) ?_) (fun e2 => ⟨hi10, nm_r (ag_at vr (by omega)) (nm_r (nI_1 i) ?_)⟩) (ag_at vr (by omega)) rfl⟩) (fun e => nm_r (nI_1 i) ?_) (ag_at nm (by omega)) (ag_at nm (by omega))⟩)
    · rw [ag_mx, if_pos e, if_pos e2] at g
      exact g
    · rw [ag_mx, if_pos e, if_neg (by omega)] at g
      exact g
    · rw [ag_mx, if_neg e] at g
      exact g
theorem ag_Ynew {post : Int32 → Prop} {u : Nat} (hu : u < N) (hN : N ≤ 10) (hnm : ∀ j, nm j < 5) (hvr : ∀ j, vr j ≤ 9) (h : post (nI (ag_mx nm vr (nm u) N))) : wpY_newest post ((nI N), eb, (nI P), (nI K), (ag_f nm), (ag_f vr), sg, (ag_f oc), (ag_f fd), (ag_f fv), (ag_f nc), (ag_f kd), (ag_f lo), (ag_f ah), ae, (ag_f hs), tc) (nI u) := by
  unfold wpY_newest
  exact ⟨N + 1, ag_Ynew_go hu hN hnm hvr h N 0 (by omega)⟩
noncomputable def ag_YN (N : Nat) (nm vr : Nat → Nat) (s : Int32) (u : Nat) : Int32 := if bt s u = true then nI (ag_mx nm vr (nm u) N) - nI (vr u) else 0
noncomputable def ag_Y5 (p s : Int32) (u : Nat) : Int32 := if bt s u = true ∧ ¬ bt p u = true then 5 else 0
noncomputable def ag_Y3 (p s : Int32) (u : Nat) : Int32 := if bt p u = true ∧ ¬ bt s u = true then 3 else 0
noncomputable def ag_YW (N : Nat) (nm vr : Nat → Nat) (p s : Int32) (u : Nat) : Int32 := ag_Y5 p s u + ag_Y3 p s u + ag_YN N nm vr s u
noncomputable def ag_YG (N : Nat) (eb : Int32) (nc kd : Nat → Nat) (ae : Nat → Int32) (s : Int32) (p : Nat) : Int32 := 2 * ag_v (31 < kd p ∧ ag_UY N eb nc kd ae s p)
theorem ag_Y66 {post : Int32 → Prop} {J4 : Int32 → Int32 → Prop} (s x : Int32) {u : Nat} (hu : u < N) (hN : N ≤ 10) (hnm : ∀ j, nm j < 5) (hvr : ∀ j, vr j ≤ 9) (h : J4 (x + ag_YN N nm vr s u) (nI (u + 1))) : wY_price_66 post J4 s x (nI u) (nI N) eb (nI P) (nI K) (ag_f nm) (ag_f vr) sg (ag_f oc) (ag_f fd) (ag_f fv) (ag_f nc) (ag_f kd) (ag_f lo) (ag_f ah) ae (ag_f hs) tc := by
  unfold wY_price_66
  refine ag_Yin _ s (by omega) (ag_br (fun b => ag_Ynew hu hN hnm hvr ⟨pk_in u 10 (by omega), nm_r ?_ (nm_r (nI_1 u) h)⟩) (fun b => nm_r (nI_1 u) ?_))
  · rw [ag_at vr (by omega), show ag_YN N nm vr s u = _ from if_pos b]
  · rw [show ag_YN N nm vr s u = 0 from if_neg b, Int32.add_zero] at h
    exact h
theorem ag_Y42 {post : Int32 → Prop} {J4 : Int32 → Int32 → Prop} (s x : Int32) {u : Nat} (hu : u < N) (hN : N ≤ 10) (hnm : ∀ j, nm j < 5) (hvr : ∀ j, vr j ≤ 9) (h : J4 (x + ag_Y3 (nI P) s u + ag_YN N nm vr s u) (nI (u + 1))) : wY_price_42 post J4 s x (nI u) (nI N) eb (nI P) (nI K) (ag_f nm) (ag_f vr) sg (ag_f oc) (ag_f fd) (ag_f fv) (ag_f nc) (ag_f kd) (ag_f lo) (ag_f ah) ae (ag_f hs) tc := by
  unfold wY_price_42
  refine ag_Yin _ (nI P) (by omega) (ag_br (fun b => ag_Yin _ s (by omega) (ag_br (fun c => ?_) (fun c => nm_e ?_))) (fun b => ?_))
  · rw [show ag_Y3 (nI P) s u = 0 from if_neg (fun z => z.2 c), Int32.add_zero] at h
    exact ag_Y66 s x hu hN hnm hvr h
  · rw [show ag_Y3 (nI P) s u = 3 from if_pos ⟨b, c⟩] at h
    exact ag_Y66 s _ hu hN hnm hvr h
  · rw [show ag_Y3 (nI P) s u = 0 from if_neg (fun z => b z.1), Int32.add_zero] at h
    exact ag_Y66 s x hu hN hnm hvr h
theorem ag_Y98_go {post : Int32 → Prop} (s c0 : Int32) (hN : N ≤ 10) (hnc : ∀ j, nc j ≤ 3) (hkd : ∀ j, kd j < 64 ∧ kd j % 8 ≤ 5) (h : post (c0 + ag_S (ag_YG N eb nc kd ae s) 30)) : ∀ d p : Nat, p + d = 30 → wY_price_98 post s (nI N) eb (nI P) (nI K) (ag_f nm) (ag_f vr) sg (ag_f oc) (ag_f fd) (ag_f fv) (ag_f nc) (ag_f kd) (ag_f lo) (ag_f ah) ae (ag_f hs) tc (d + 1) (c0 + ag_S (ag_YG N eb nc kd ae s) p) (nI p) := by
  intro d
  induction d with
  | zero =>
    intro p hp
    obtain rfl : p = 30 := by omega
    exact br_t (nI_le (a := 30) (b := 30) (by omega) (by omega)) h
  | succ d ih =>
    intro p hp
    have hp30 : p < 30 := by omega
    have k1 := (hkd p).1
    have hv : vp_in (nI p) 30 := pk_in p 30 hp30
    have g := ih (p + 1) (by omega)
    have es : ag_S (ag_YG N eb nc kd ae s) (p + 1) = ag_S (ag_YG N eb nc kd ae s) p + 2 * ag_v (31 < kd p ∧ ag_UY N eb nc kd ae s p) := rfl
    have keep : ¬ (31 < kd p ∧ ag_UY N eb nc kd ae s p) → wY_price_98 post s (nI N) eb (nI P) (nI K) (ag_f nm) (ag_f vr) sg (ag_f oc) (ag_f fd) (ag_f fv) (ag_f nc) (ag_f kd) (ag_f lo) (ag_f ah) ae (ag_f hs) tc (d + 1) (c0 + ag_S (ag_YG N eb nc kd ae s) p) (nI (p + 1)) := fun hn => by
      rw [es, ag_vf hn, Int32.mul_zero, Int32.add_zero] at g
      exact g
    have no : ¬ (31 < kd p ∧ ag_UY N eb nc kd ae s p) → wY_price_141 post (wY_price_98 post s (nI N) eb (nI P) (nI K) (ag_f nm) (ag_f vr) sg (ag_f oc) (ag_f fd) (ag_f fv) (ag_f nc) (ag_f kd) (ag_f lo) (ag_f ah) ae (ag_f hs) tc (d + 1)) s (c0 + ag_S (ag_YG N eb nc kd ae s) p) (nI p) (nI N) eb (nI P) (nI K) (ag_f nm) (ag_f vr) sg (ag_f oc) (ag_f fd) (ag_f fv) (ag_f nc) (ag_f kd) (ag_f lo) (ag_f ah) ae (ag_f hs) tc := fun hn => by
      unfold wY_price_141 wY_price_142
      exact br_t rfl (nm_r (nI_1 p) (keep hn))
    refine br_f (nI_ge (b := 30) (by omega) (by decide)) ⟨by decide, ?_⟩
    rw [ag_d3 hp30]
    refine ag_Yin _ s (by omega) (ag_br (fun b1 => ⟨hv, pk_le (kd p) 31 (fun e => no fun z => by omega) (fun e => ⟨hv, ?_⟩) (ag_at kd (by omega)) rfl⟩) (fun b1 => no fun z => b1 z.2.1))
    rw [nI_clamp (by omega)]
    refine br_c (fun m => ?_) (fun m => no fun z => m z.2.2.1)
    unfold wY_price_142
    refine br_f (by decide) (ag_Yapplies hp30 hN hnc hkd (ag_br (fun a => nm_r ?_ (nm_r (nI_1 p) g)) (fun a => nm_r (nI_1 p) (keep fun z => a z.2.2.2))))
    rw [es, ag_vt ⟨e, b1, m, a⟩, Int32.mul_one, Int32.add_assoc]
theorem ag_Y4_go {post : Int32 → Prop} (s : Int32) (hN : N ≤ 10) (hnm : ∀ j, nm j < 5) (hvr : ∀ j, vr j ≤ 9) (h : ∃ n98, wY_price_98 post s (nI N) eb (nI P) (nI K) (ag_f nm) (ag_f vr) sg (ag_f oc) (ag_f fd) (ag_f fv) (ag_f nc) (ag_f kd) (ag_f lo) (ag_f ah) ae (ag_f hs) tc n98 (ag_S (ag_YW N nm vr (nI P) s) N) 0) : ∀ d u : Nat, u + d = N → wY_price_4 post s (nI N) eb (nI P) (nI K) (ag_f nm) (ag_f vr) sg (ag_f oc) (ag_f fd) (ag_f fv) (ag_f nc) (ag_f kd) (ag_f lo) (ag_f ah) ae (ag_f hs) tc (d + 1) (ag_S (ag_YW N nm vr (nI P) s) u) (nI u) := by
  intro d
  induction d with
  | zero =>
    intro u hu
    obtain rfl : u = N := by omega
    exact br_t (nI_le (by omega) (by omega)) h
  | succ d ih =>
    intro u hu
    have g := ih (u + 1) (by omega)
    have es : ag_S (ag_YW N nm vr (nI P) s) (u + 1) = ag_S (ag_YW N nm vr (nI P) s) u + ag_Y5 (nI P) s u + ag_Y3 (nI P) s u + ag_YN N nm vr s u := by
      show ag_S (ag_YW N nm vr (nI P) s) u + (ag_Y5 (nI P) s u + ag_Y3 (nI P) s u + ag_YN N nm vr s u) = _
      rw [← Int32.add_assoc, ← Int32.add_assoc]
    rw [es] at g
    refine br_f (nI_ge (by omega) (by omega)) (br_f (nI_ge (b := 10) (by omega) (by decide)) (ag_Yin _ s (by omega) (ag_br (fun b => ag_Yin _ (nI P) (by omega) (ag_br (fun c => ?_) (fun c => nm_e ?_))) (fun b => ?_))))
    · rw [show ag_Y5 (nI P) s u = 0 from if_neg (fun z => z.2 c), Int32.add_zero] at g
      exact ag_Y42 s _ (by omega) hN hnm hvr g
    · rw [show ag_Y5 (nI P) s u = 5 from if_pos ⟨b, c⟩] at g
      exact ag_Y42 s _ (by omega) hN hnm hvr g
    · rw [show ag_Y5 (nI P) s u = 0 from if_neg (fun z => b z.1), Int32.add_zero] at g
      exact ag_Y42 s _ (by omega) hN hnm hvr g
noncomputable def ag_YC (N P : Nat) (eb : Int32) (nm vr nc kd : Nat → Nat) (ae : Nat → Int32) (s : Int32) : Int32 := ag_S (ag_YW N nm vr (nI P) s) N + ag_S (ag_YG N eb nc kd ae s) 30
theorem ag_Yprice {post : Int32 → Prop} (s : Int32) (hN : N ≤ 10) (hnm : ∀ j, nm j < 5) (hvr : ∀ j, vr j ≤ 9) (hnc : ∀ j, nc j ≤ 3) (hkd : ∀ j, kd j < 64 ∧ kd j % 8 ≤ 5) (h : post (ag_YC N P eb nm vr nc kd ae s)) : wpY_price post ((nI N), eb, (nI P), (nI K), (ag_f nm), (ag_f vr), sg, (ag_f oc), (ag_f fd), (ag_f fv), (ag_f nc), (ag_f kd), (ag_f lo), (ag_f ah), ae, (ag_f hs), tc) s := by
  unfold wpY_price
  refine ⟨N + 1, ag_Y4_go s hN hnm hvr ⟨31, ?_⟩ N 0 (by omega)⟩
  have g := ag_Y98_go (P := P) (K := K) (nm := nm) (vr := vr) (sg := sg) (oc := oc) (fd := fd) (fv := fv) (lo := lo) (ah := ah) (hs := hs) (tc := tc) s (ag_S (ag_YW N nm vr (nI P) s) N) hN hnc hkd h 30 0 rfl
  rw [show ag_S (ag_YG N eb nc kd ae s) 0 = 0 from rfl, Int32.add_zero] at g
  exact g
end
