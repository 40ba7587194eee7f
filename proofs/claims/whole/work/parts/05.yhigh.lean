/-! the reference: best, excess, steps, history, and the small checks -/
def ag_hN (hs : Nat → Nat) (K s : Nat) : Nat → Nat := if K < 8 then ag_u hs K s else ag_D (ag_u hs 8 s) 8
section
variable {N P K : Nat} {eb : Int32} {nm vr nv oc nc kd lo ah nt fd fv hs : Nat → Nat} {sg tc og ae : Nat → Int32}
theorem ag_Ybest_go {post : Int32 → SY → Prop} (w b : Int32) (hN : N ≤ 10) (hnm : ∀ j, nm j < 5) (hvr : ∀ j, vr j ≤ 9) (hnc : ∀ j, nc j ≤ 3) (hkd : ∀ j, kd j < 64 ∧ kd j % 8 ≤ 5) (h : post (ag_B (ag_ok (ag_YS N eb nm sg nc kd ae) w b) (fun i => ag_YC N P eb nm vr nc kd ae (nI i)) (2 ^ N)).1 ((nI N), eb, (nI P), (nI K), (ag_f nm), (ag_f vr), sg, (ag_f oc), (ag_f fd), (ag_f fv), (ag_f nc), (ag_f kd), (ag_f lo), (ag_f ah), ae, (ag_f hs), tc)) : ∀ d i : Nat, i + d = 2 ^ N → wY_best_13 post w b (nI N) eb (nI P) (nI K) (ag_f nm) (ag_f vr) sg (ag_f oc) (ag_f fd) (ag_f fv) (ag_f nc) (ag_f kd) (ag_f lo) (ag_f ah) ae (ag_f hs) tc (d + 1) (ag_B (ag_ok (ag_YS N eb nm sg nc kd ae) w b) (fun i => ag_YC N P eb nm vr nc kd ae (nI i)) i).1 (ag_B (ag_ok (ag_YS N eb nm sg nc kd ae) w b) (fun i => ag_YC N P eb nm vr nc kd ae (nI i)) i).2 (nI i) := by
  have hE := ag_pw hN
  intro d
  induction d with
  | zero =>
    intro i hi
    obtain rfl : i = 2 ^ N := by omega
    exact br_t (by rw [ag_shl hN]; exact nI_le (by omega) (by omega)) h
  | succ d ih =>
    intro i hi
    have g := ih (i + 1) (by omega)
    generalize hok : ag_ok (ag_YS N eb nm sg nc kd ae) w b = ok at g h ⊢
    have hct : (fun i => ag_YC N P eb nm vr nc kd ae (nI i)) i = ag_YC N P eb nm vr nc kd ae (nI i) := rfl
    have okI : ok i ↔ (nI i &&& w) = w ∧ (nI i &&& b) = 0 ∧ ag_YS N eb nm sg nc kd ae (nI i) := by rw [← hok]; exact Iff.rfl
    generalize (fun i => ag_YC N P eb nm vr nc kd ae (nI i)) = ct at g h hct ⊢
    have keep : ¬ (ok i ∧ ((ag_B ok ct i).1 = -2 ∨ ¬ (ag_B ok ct i).2 ≤ ct i)) → wY_best_13 post w b (nI N) eb (nI P) (nI K) (ag_f nm) (ag_f vr) sg (ag_f oc) (ag_f fd) (ag_f fv) (ag_f nc) (ag_f kd) (ag_f lo) (ag_f ah) ae (ag_f hs) tc (d + 1) (ag_B ok ct i).1 (ag_B ok ct i).2 (nI (i + 1)) := fun hn => by
      rw [ag_Bk hn] at g
      exact g
    have take : (ok i ∧ ((ag_B ok ct i).1 = -2 ∨ ¬ (ag_B ok ct i).2 ≤ ct i)) → wY_best_13 post w b (nI N) eb (nI P) (nI K) (ag_f nm) (ag_f vr) sg (ag_f oc) (ag_f fd) (ag_f fv) (ag_f nc) (ag_f kd) (ag_f lo) (ag_f ah) ae (ag_f hs) tc (d + 1) (nI i) (ct i) (nI (i + 1)) := fun hn => by
      rw [ag_Bt hn] at g
      exact g
    have hneg : (ag_B ok ct i).1 < 0 ↔ (ag_B ok ct i).1 = -2 := by
      rcases ag_Bv (ok := ok) (ct := ct) i with e | ⟨j, hj, e⟩
      · rw [e]; exact ⟨fun _ => rfl, fun _ => by decide⟩
      · rw [e]
        exact ⟨fun z => absurd z (nI_pos (by omega)), fun z => absurd (by rw [z]; decide) (nI_pos (n := j) (by omega))⟩
    refine br_f (by rw [ag_shl hN]; exact nI_ge (by omega) (by omega)) (br_c (fun h1 => br_c (fun h2 => ?_) (fun h2 => ?_)) (fun h1 => ?_))
    · refine ag_Ysound (nI i) hN hnm hnc hkd (ag_br (fun hs => ?_) (fun hs => nm_r (nI_1 i) (keep fun z => hs (okI.mp z.1).2.2)))
      refine ag_Yprice (nI i) hN hnm hvr hnc hkd ?_
      rw [← hct]
      exact br_c (fun e => nm_r (nI_1 i) (take ⟨okI.mpr ⟨h1, h2, hs⟩, Or.inl (hneg.mp e)⟩)) (fun e => br_c (fun l => nm_r (nI_1 i) (keep fun z => z.2.elim (fun y => e (hneg.mpr y)) (fun y => y l))) (fun l => nm_r (nI_1 i) (take ⟨okI.mpr ⟨h1, h2, hs⟩, Or.inr l⟩)))
    · exact nm_r (nI_1 i) (keep fun z => h2 (okI.mp z.1).2.1)
    · exact nm_r (nI_1 i) (keep fun z => h1 (okI.mp z.1).1)
theorem ag_Ybest {post : Int32 → SY → Prop} (w b : Int32) (hN : N ≤ 10) (hnm : ∀ j, nm j < 5) (hvr : ∀ j, vr j ≤ 9) (hoc : ∀ j, oc j ≤ 3) (hnc : ∀ j, nc j ≤ 3) (hkd : ∀ j, kd j < 64 ∧ kd j % 8 ≤ 5) (hlo : ∀ j, lo j ≤ 9) (hah : ∀ j, ah j ≤ 9) (hfd : ∀ j, fd j ≤ 5) (hfv : ∀ j, fv j ≤ 9) (h : ∀ ae : Nat → Int32, (∀ k, k < 30 → ag_HB N oc fd fv kd lo ah ae k 30) → post (ag_B (ag_ok (ag_YS N eb nm sg nc kd ae) w b) (fun i => ag_YC N P eb nm vr nc kd ae (nI i)) (2 ^ N)).1 ((nI N), eb, (nI P), (nI K), (ag_f nm), (ag_f vr), sg, (ag_f oc), (ag_f fd), (ag_f fv), (ag_f nc), (ag_f kd), (ag_f lo), (ag_f ah), ae, (ag_f hs), tc)) : wpY_best post ((nI N), eb, (nI P), (nI K), (ag_f nm), (ag_f vr), sg, (ag_f oc), (ag_f fd), (ag_f fv), (ag_f nc), (ag_f kd), (ag_f lo), (ag_f ah), ae, (ag_f hs), tc) w b := by
  unfold wpY_best
  exact ag_Ylook hN hoc hkd hlo hah hfd hfv (fun ae' h' => ⟨2 ^ N + 1, ag_Ybest_go w b hN hnm hvr hnc hkd (h ae' h') (2 ^ N) 0 (by omega)⟩)
theorem ag_Yexcess_go {post : Int32 → SY → Prop} (w b : Int32) (hN : N ≤ 10) (hnm : ∀ j, nm j < 5) (hnc : ∀ j, nc j ≤ 3) (hkd : ∀ j, kd j < 64 ∧ kd j % 8 ≤ 5) (h : post (ag_E (ag_YS N eb nm sg nc kd ae) w b (2 ^ N)) ((nI N), eb, (nI P), (nI K), (ag_f nm), (ag_f vr), sg, (ag_f oc), (ag_f fd), (ag_f fv), (ag_f nc), (ag_f kd), (ag_f lo), (ag_f ah), ae, (ag_f hs), tc)) : ∀ d i : Nat, i + d = 2 ^ N → wY_excess_28 post w b (nI N) eb (nI P) (nI K) (ag_f nm) (ag_f vr) sg (ag_f oc) (ag_f fd) (ag_f fv) (ag_f nc) (ag_f kd) (ag_f lo) (ag_f ah) ae (ag_f hs) tc (d + 1) (ag_E (ag_YS N eb nm sg nc kd ae) w b i) (nI i) := by
  have hE := ag_pw hN
  intro d
  induction d with
  | zero =>
    intro i hi
    obtain rfl : i = 2 ^ N := by omega
    exact br_t (by rw [ag_shl hN]; exact nI_le (by omega) (by omega)) h
  | succ d ih =>
    intro i hi
    have g := ih (i + 1) (by omega)
    have keep : ¬ (¬ ag_E (ag_YS N eb nm sg nc kd ae) w b i ≤ ag_gv w b i ∧ ag_YS N eb nm sg nc kd ae (nI i)) → wY_excess_28 post w b (nI N) eb (nI P) (nI K) (ag_f nm) (ag_f vr) sg (ag_f oc) (ag_f fd) (ag_f fv) (ag_f nc) (ag_f kd) (ag_f lo) (ag_f ah) ae (ag_f hs) tc (d + 1) (ag_E (ag_YS N eb nm sg nc kd ae) w b i) (nI (i + 1)) := fun hn => by
      rw [ag_Ek hn] at g
      exact g
    have take : (¬ ag_E (ag_YS N eb nm sg nc kd ae) w b i ≤ ag_gv w b i ∧ ag_YS N eb nm sg nc kd ae (nI i)) → wY_excess_28 post w b (nI N) eb (nI P) (nI K) (ag_f nm) (ag_f vr) sg (ag_f oc) (ag_f fd) (ag_f fv) (ag_f nc) (ag_f kd) (ag_f lo) (ag_f ah) ae (ag_f hs) tc (d + 1) (ag_gv w b i) (nI (i + 1)) := fun hn => by
      rw [ag_Et hn] at g
      exact g
    exact br_f (by rw [ag_shl hN]; exact nI_ge (by omega) (by omega)) (ag_Ysize _ (ag_Ysize _ (nm_r (e' := ag_gv w b i) rfl (br_c (fun l => nm_r (nI_1 i) (keep fun z => z.1 l)) (fun l => ag_Ysound (nI i) hN hnm hnc hkd (ag_br (fun hs => nm_r (nI_1 i) (take ⟨l, hs⟩)) (fun hs => nm_r (nI_1 i) (keep fun z => hs z.2))))))))
theorem ag_Y64_go {post : Int32 → SY → Prop} (s : Int32) (m : Nat) (tm : Int32) (hm : m ≤ 20) (h : post (nI (ag_C (ag_c (nI P) s) 20)) ((nI N), eb, (nI P), (nI K), (ag_f nm), (ag_f vr), sg, (ag_f oc), (ag_f fd), (ag_f fv), (ag_f nc), (ag_f kd), (ag_f lo), (ag_f ah), ae, (ag_f hs), (ag_G (ag_c (nI P) s) m tm tc 20))) : ∀ d i : Nat, i + d = 10 → wY_step_64 post s (nI m) tm (nI N) eb (nI P) (nI K) (d + 1) (nI (ag_C (ag_c (nI P) s) (10 + i))) (nI i) (ag_f nm) (ag_f vr) sg (ag_f oc) (ag_f fd) (ag_f fv) (ag_f nc) (ag_f kd) (ag_f lo) (ag_f ah) ae (ag_f hs) (ag_G (ag_c (nI P) s) m tm tc (10 + i)) := by
  intro d
  induction d with
  | zero =>
    intro i hi
    obtain rfl : i = 10 := by omega
    exact br_t (nI_le (a := 10) (b := 10) (by omega) (by omega)) h
  | succ d ih =>
    intro i hi
    have g := ih (i + 1) (by omega)
    have eo : ag_o (10 + i) = i := by
      unfold ag_o
      rw [if_neg (by omega)]
      omega
    have ec : ag_c (nI P) s (10 + i) ↔ (bt s i = true ∧ ¬ bt (nI P) i = true) := by
      unfold ag_c
      rw [show 10 + i - 10 = i by omega]
      exact ⟨fun z => z.elim (fun y => absurd y.1 (by omega)) (fun y => y.2), fun z => Or.inr ⟨by omega, z⟩⟩
    have hC := ag_Cs (ag_c (nI P) s) (10 + i)
    have hl := ag_Cle (ag_c (nI P) s) (10 + i)
    have hi10 : vp_in (nI i) 10 := pk_in i 10 (by omega)
    rw [show 10 + (i + 1) = 10 + i + 1 from rfl, hC] at g
    have keep : ¬ ag_c (nI P) s (10 + i) → wY_step_64 post s (nI m) tm (nI N) eb (nI P) (nI K) (d + 1) (nI (ag_C (ag_c (nI P) s) (10 + i))) (nI (i + 1)) (ag_f nm) (ag_f vr) sg (ag_f oc) (ag_f fd) (ag_f fv) (ag_f nc) (ag_f kd) (ag_f lo) (ag_f ah) ae (ag_f hs) (ag_G (ag_c (nI P) s) m tm tc (10 + i)) := fun hn => by
      rw [ag_nf hn, ag_Gk (fun z => hn z.1)] at g
      exact g
    refine br_f (nI_ge (b := 10) (by omega) (by decide)) (ag_Yin _ s (by omega) (ag_br (fun b1 => ag_Yin _ (nI P) (by omega) (ag_br (fun b2 => nm_r (nI_1 i) (keep fun z => (ec.mp z).2 b2)) (fun b2 => ?_))) (fun b1 => nm_r (nI_1 i) (keep fun z => b1 (ec.mp z).1))))
    have hc := ec.mpr ⟨b1, b2⟩
    rw [ag_nt hc] at g
    refine pk_le m (ag_C (ag_c (nI P) s) (10 + i)) (fun e => nm_r (nI_1 _) (nm_r (nI_1 i) ?_)) (fun e => ⟨hi10, hi10, nm_r ?_ (nm_r (nI_1 _) (nm_r (nI_1 i) g))⟩) rfl rfl
    · rw [ag_Gk (fun z => by omega)] at g
      exact g
    · rw [nI_clamp (by omega), ag_Gt ⟨hc, e⟩, eo]
theorem ag_Y7_go {post : Int32 → SY → Prop} (s : Int32) (m : Nat) (tm : Int32) (hm : m ≤ 20) (h : post (nI (ag_C (ag_c (nI P) s) 20)) ((nI N), eb, (nI P), (nI K), (ag_f nm), (ag_f vr), sg, (ag_f oc), (ag_f fd), (ag_f fv), (ag_f nc), (ag_f kd), (ag_f lo), (ag_f ah), ae, (ag_f hs), (ag_G (ag_c (nI P) s) m tm tc 20))) : ∀ d t : Nat, t + d = 10 → wY_step_7 post s (nI m) tm (nI N) eb (nI P) (nI K) (d + 1) (nI (ag_C (ag_c (nI P) s) t)) (nI d + (-1)) (ag_f nm) (ag_f vr) sg (ag_f oc) (ag_f fd) (ag_f fv) (ag_f nc) (ag_f kd) (ag_f lo) (ag_f ah) ae (ag_f hs) (ag_G (ag_c (nI P) s) m tm tc t) := by
  intro d
  induction d with
  | zero =>
    intro t ht
    obtain rfl : t = 10 := by omega
    exact br_t (by decide) ⟨11, ag_Y64_go s m tm hm h 10 0 rfl⟩
  | succ d ih =>
    intro t ht
    have g := ih (t + 1) (by omega)
    rw [pk_m1]
    have eo : ag_o t = d := by
      unfold ag_o
      rw [if_pos (by omega)]
      omega
    have ec : ag_c (nI P) s t ↔ (bt (nI P) d = true ∧ ¬ bt s d = true) := by
      unfold ag_c
      rw [show 9 - t = d by omega]
      exact ⟨fun z => z.elim (fun y => y.2) (fun y => absurd y.1 (by omega)), fun z => Or.inl ⟨by omega, z⟩⟩
    have hC := ag_Cs (ag_c (nI P) s) t
    have hl := ag_Cle (ag_c (nI P) s) t
    have hd10 : vp_in (nI d) 10 := pk_in d 10 (by omega)
    rw [hC] at g
    have keep : ¬ ag_c (nI P) s t → wY_step_7 post s (nI m) tm (nI N) eb (nI P) (nI K) (d + 1) (nI (ag_C (ag_c (nI P) s) t)) (nI d + (-1)) (ag_f nm) (ag_f vr) sg (ag_f oc) (ag_f fd) (ag_f fv) (ag_f nc) (ag_f kd) (ag_f lo) (ag_f ah) ae (ag_f hs) (ag_G (ag_c (nI P) s) m tm tc t) := fun hn => by
      rw [ag_nf hn, ag_Gk (fun z => hn z.1)] at g
      exact g
    refine br_f (nI_pos (by omega)) (ag_Yin _ (nI P) (by omega) (ag_br (fun b1 => ag_Yin _ s (by omega) (ag_br (fun b2 => nm_r rfl (keep fun z => (ec.mp z).2 b2)) (fun b2 => ?_))) (fun b1 => nm_r rfl (keep fun z => b1 (ec.mp z).1))))
    have hc := ec.mpr ⟨b1, b2⟩
    rw [ag_nt hc] at g
    refine pk_le m (ag_C (ag_c (nI P) s) t) (fun e => nm_r (nI_1 _) (nm_r rfl ?_)) (fun e => ⟨hd10, hd10, nm_r ?_ (nm_r (nI_1 _) (nm_r rfl g))⟩) rfl rfl
    · rw [ag_Gk (fun z => by omega)] at g
      exact g
    · rw [nI_clamp (by omega), ag_Gt ⟨hc, e⟩, eo]
theorem ag_Ystep {post : Int32 → SY → Prop} (s : Int32) (m : Nat) (tm : Int32) (hm : m ≤ 20) (h : post (nI (ag_C (ag_c (nI P) s) 20)) ((nI N), eb, (nI P), (nI K), (ag_f nm), (ag_f vr), sg, (ag_f oc), (ag_f fd), (ag_f fv), (ag_f nc), (ag_f kd), (ag_f lo), (ag_f ah), ae, (ag_f hs), (ag_G (ag_c (nI P) s) m tm tc 20))) : wpY_step post ((nI N), eb, (nI P), (nI K), (ag_f nm), (ag_f vr), sg, (ag_f oc), (ag_f fd), (ag_f fv), (ag_f nc), (ag_f kd), (ag_f lo), (ag_f ah), ae, (ag_f hs), tc) s (nI m) tm := by
  unfold wpY_step
  exact ⟨11, ag_Y7_go s m tm hm h 10 0 rfl⟩
theorem ag_Y45_go {post : Int32 → SY → Prop} (x : Int32) (h : post x ((nI N), eb, (nI P), (nI 8), (ag_f nm), (ag_f vr), sg, (ag_f oc), (ag_f fd), (ag_f fv), (ag_f nc), (ag_f kd), (ag_f lo), (ag_f ah), ae, (ag_f (ag_D hs 8)), tc)) (y : Int32) : ∀ d i : Nat, i + d = 8 → wY_change_45 post x (nI N) eb (nI P) y (d + 1) (nI i) (ag_f nm) (ag_f vr) sg (ag_f oc) (ag_f fd) (ag_f fv) (ag_f nc) (ag_f kd) (ag_f lo) (ag_f ah) ae (ag_f (ag_D hs i)) tc := by
  intro d
  induction d with
  | zero =>
    intro i hi
    obtain rfl : i = 8 := by omega
    exact br_t (nI_le (a := 8) (b := 8) (by omega) (by omega)) h
  | succ d ih =>
    intro i hi
    refine br_f (nI_ge (b := 8) (by omega) (by decide)) ⟨pk_in (i + 1) 9 (by omega) (nI_1 i), pk_in i 9 (by omega), nm_r ?_ (nm_r (nI_1 i) (ih (i + 1) (by omega)))⟩
    rw [nI_1, nI_clamp (n := i) (by omega), ag_at _ (by omega), ag_fu, ag_Ds]
theorem ag_Ychange {post : Int32 → SY → Prop} (s : Nat) (hK : K ≤ 8) (h : post (nI (ag_C (ag_c (nI P) (nI s)) 20)) ((nI N), eb, (nI s), (nI (ag_nK K)), (ag_f nm), (ag_f vr), sg, (ag_f oc), (ag_f fd), (ag_f fv), (ag_f nc), (ag_f kd), (ag_f lo), (ag_f ah), ae, (ag_f (ag_hN hs K s)), (ag_G (ag_c (nI P) (nI s)) 20 1 tc 20))) : wpY_change post ((nI N), eb, (nI P), (nI K), (ag_f nm), (ag_f vr), sg, (ag_f oc), (ag_f fd), (ag_f fv), (ag_f nc), (ag_f kd), (ag_f lo), (ag_f ah), ae, (ag_f hs), tc) (nI s) := by
  unfold wpY_change
  refine ag_Ystep (nI s) 20 1 (by omega) ⟨pk_in K 9 (by omega), nm_r (by rw [nI_clamp (by omega), ag_fu]) (nm_r (nI_1 K) (pk_le (K + 1) 8 (fun e => ?_) (fun e => ?_) rfl rfl))⟩
  · unfold ag_nK ag_hN at h
    rw [if_pos (by omega), if_pos (by omega)] at h
    exact h
  · obtain rfl : K = 8 := by omega
    unfold ag_nK ag_hN at h
    rw [if_neg (by omega), if_neg (by omega)] at h
    exact ⟨9, ag_Y45_go _ h _ 8 0 rfl⟩
theorem ag_Y28_go {post : Int32 → SY → Prop} {a b : Nat} (z : Int32) (ha : a < 100) (hb : b < 100) (hN : N ≤ 10) (hnm : ∀ j, nm j < 5) (hvr : ∀ j, vr j ≤ 9) (h3 : ag_L N nm vr a b → post (-3) ((nI N), eb, (nI P), (nI K), (ag_f nm), (ag_f vr), sg, (ag_f oc), (ag_f fd), (ag_f fv), (ag_f nc), (ag_f kd), (ag_f lo), (ag_f ah), ae, (ag_f hs), tc)) (h : ¬ ag_L N nm vr a b → wY_unit_75 post (nI a) (nI b) z (nI N) eb (nI P) (nI K) (ag_f nm) (ag_f vr) sg (ag_f oc) (ag_f fd) (ag_f fv) (ag_f nc) (ag_f kd) (ag_f lo) (ag_f ah) ae (ag_f hs) tc) : ∀ d i : Nat, i + d = N → (∀ j, j < i → ¬ (nm j = a ∧ vr j = b)) → wY_unit_28 post (nI a) (nI b) z (nI N) eb (nI P) (nI K) (ag_f nm) (ag_f vr) sg (ag_f oc) (ag_f fd) (ag_f fv) (ag_f nc) (ag_f kd) (ag_f lo) (ag_f ah) ae (ag_f hs) tc (d + 1) (nI i) := by
  intro d
  induction d with
  | zero =>
    intro i hi hl
    exact br_t (nI_le (by omega) (by omega)) (h (fun ⟨j, h1, h2⟩ => hl j (by omega) h2))
  | succ d ih =>
    intro i hi hl
    have n1 := hnm i
    have n2 := hvr i
    have hi10 : vp_in (nI i) 10 := pk_in i 10 (by omega)
    have step : ¬ (nm i = a ∧ vr i = b) → wY_unit_28 post (nI a) (nI b) z (nI N) eb (nI P) (nI K) (ag_f nm) (ag_f vr) sg (ag_f oc) (ag_f fd) (ag_f fv) (ag_f nc) (ag_f kd) (ag_f lo) (ag_f ah) ae (ag_f hs) tc (d + 1) (nI (i + 1)) := fun hn => ih (i + 1) (by omega) (fun j hj => by
      by_cases e : j = i
      · rw [e]; exact hn
      · exact hl j (by omega))
    exact br_f (nI_ge (by omega) (by omega)) (br_f (nI_ge (b := 10) (by omega) (by decide)) ⟨hi10, pk_eq (nm i) a (fun e1 => ⟨hi10, pk_eq (vr i) b (fun e2 => h3 ⟨i, by omega, e1, e2⟩) (fun e2 => nm_r (nI_1 i) (step fun z => e2 z.2)) (ag_at vr (by omega)) rfl⟩) (fun e1 => nm_r (nI_1 i) (step fun z => e1 z.1)) (ag_at nm (by omega)) rfl⟩)
theorem ag_Ybu_t {post : Int32 → Prop} {j : Nat} (hN : N ≤ 10) (hj : j < N) (h : post 0) : wpY_bad post ((nI N), eb, (nI P), (nI K), (ag_f nm), (ag_f vr), sg, (ag_f oc), (ag_f fd), (ag_f fv), (ag_f nc), (ag_f kd), (ag_f lo), (ag_f ah), ae, (ag_f hs), tc) (nI j) := by
  unfold wpY_bad
  exact br_f (nI_pos (by omega)) (br_f (nI_ge hj (by omega)) (br_t (nI_le (b := 9) (by omega) (by decide)) h))
theorem ag_Ybu_f {post : Int32 → Prop} {x : Int32} (hx : x < 0 ∨ nI N ≤ x) (h : post 1) : wpY_bad post ((nI N), eb, (nI P), (nI K), (ag_f nm), (ag_f vr), sg, (ag_f oc), (ag_f fd), (ag_f fv), (ag_f nc), (ag_f kd), (ag_f lo), (ag_f ah), ae, (ag_f hs), tc) x := by
  unfold wpY_bad
  exact br_c (fun _ => h) (fun z => br_c (fun _ => h) (fun y => absurd hx (fun w => w.elim z y)))
theorem ag_Ybs_t {post : Int32 → Prop} {j : Nat} (hN : N ≤ 10) (hj : j < 2 ^ N) (h : post 0) : wpY_badSet post ((nI N), eb, (nI P), (nI K), (ag_f nm), (ag_f vr), sg, (ag_f oc), (ag_f fd), (ag_f fv), (ag_f nc), (ag_f kd), (ag_f lo), (ag_f ah), ae, (ag_f hs), tc) (nI j) := by
  have hE := ag_pw hN
  unfold wpY_badSet
  exact br_f (nI_pos (by omega)) (br_t (by rw [ag_shl hN]; exact nI_lt hj (by omega)) h)
theorem ag_Ybs_f {post : Int32 → Prop} {x : Int32} (hN : N ≤ 10) (hx : x < 0 ∨ nI (2 ^ N) ≤ x) (h : post 1) : wpY_badSet post ((nI N), eb, (nI P), (nI K), (ag_f nm), (ag_f vr), sg, (ag_f oc), (ag_f fd), (ag_f fv), (ag_f nc), (ag_f kd), (ag_f lo), (ag_f ah), ae, (ag_f hs), tc) x := by
  unfold wpY_badSet
  refine br_c (fun _ => h) (fun z => br_c (fun y => absurd hx (fun w => w.elim z (fun v => ?_))) (fun _ => h))
  rw [ag_shl hN] at y
  exact Int32.not_le.mpr y v
end
