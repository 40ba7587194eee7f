/-! the methods that build: unit, offer, need -/
theorem ag_upb {N P : Nat} (h : P < 2 ^ N) : P < 2 ^ (N + 1) := Nat.lt_of_lt_of_le h (Nat.pow_le_pow_right (by decide) (by omega))
theorem ag_Iu {N P K a b : Nat} {nm vr nv nw oc nc kd lo ah nt fd fv hs : Nat → Nat} {og : Nat → Int32} (H : ag_I N P K nm vr nv oc nc kd lo ah nt fd fv hs og) (h10 : N < 10) (ha : a < 5) (hb : b ≤ 9) (hw : ∀ c, c < 5 → nw c = if a = c then (if b ≤ nv c then nv c else b) else nv c) : ag_I (N + 1) P K (ag_u nm N a) (ag_u vr N b) nw oc nc kd lo ah nt fd fv hs og := by
  obtain ⟨hN, hP, hK, hnm, hvr, hnv, hoc, hoz, hnc, hkd, hlo, hah, hns, hhs, hfd, hfv, hog⟩ := id H
  refine ⟨by omega, ag_upb hP, hK, fun j => ?_, ag_ub hvr hb, fun c hc => ?_, hoc, fun j hj => hoz j (by omega), hnc, hkd, hlo, hah, hns, fun j => ag_upb (hhs j), hfd, hfv, ag_OGu hoz hog⟩
  · unfold ag_u
    by_cases e : j = N
    · rw [if_pos e]; exact ha
    · rw [if_neg e]; exact hnm j
  · rw [ag_mx, ag_us, ag_us, ag_mxu N (Nat.le_refl N), hw c hc, hnv c hc]
theorem ag_U104 {post : Int32 → SX → Prop} {N P K a b : Nat} {eb : Int32} {nm vr nv oc nc kd lo ah nt : Nat → Nat} {sg tc og : Nat → Int32} (z : Int32) (ha : a < 5) (hb : b ≤ 9) (h10 : N < 10) (hnv9 : ∀ c, c < 5 → nv c ≤ 9) (h : ∀ nw : Nat → Nat, (∀ c, c < 5 → nw c = if a = c then (if b ≤ nv c then nv c else b) else nv c) → post (nI N) ((nI (N + 1)), eb, (nI P), (nI K), (ag_f nm), (ag_f vr), (upd sg N (vp_nar .boolean z)), tc, (ag_f nw), (ag_f oc), og, (ag_f nc), (ag_f (ag_kc kd)), (ag_f lo), (ag_f ah), (ag_f (ag_kn kd)), (ag_f (ag_ko kd)), (ag_f nt))) : wX_unit_86 post (nI a) (nI b) (nI N) z (nI N) (nI N) eb (nI P) (nI K) (ag_f nm) (ag_f vr) sg tc (ag_f nv) (ag_f oc) og (ag_f nc) (ag_f (ag_kc kd)) (ag_f lo) (ag_f ah) (ag_f (ag_kn kd)) (ag_f (ag_ko kd)) (ag_f nt) := by
  unfold wX_unit_86
  have ha5 : vp_in (nI a) 5 := pk_in a 5 ha
  have n9 := hnv9 a ha
  refine ⟨pk_in N 10 h10, nm_r (by rw [nI_clamp (by omega)]) ⟨ha5, pk_le b (nv a) (fun e => ?_) (fun e => ⟨ha5, nm_r (by rw [nI_clamp (by omega), ag_fu]) ?_⟩) rfl (ag_at nv (by omega))⟩⟩
  · refine nm_r (nI_1 N) (h nv (fun c hc => ?_))
    by_cases ec : a = c
    · rw [if_pos ec, if_pos (by rw [← ec]; exact e)]
    · rw [if_neg ec]
  · refine nm_r (nI_1 N) (h (ag_u nv a b) (fun c hc => ?_))
    by_cases ec : a = c
    · rw [if_pos ec, if_neg (by rw [← ec]; omega), ← ec, ag_us]
    · rw [if_neg ec, ag_un (fun y => ec y.symm)]
theorem i_vc_unit {k : Nat} {u : SX} {v : SY} (I : i_Rel k u v) (hk : k + 5 ≤ 2560) (v1 : Int32) (v2 : Int32) (v3 : Int32) : wpX_unit (fun r u' => wpY_unit (fun r' v' => r' = r ∧ i_Rel (k + 5) u' v') v v1 v2 v3) u v1 v2 v3 := by
  obtain ⟨N, P, K, eb, nm, vr, nv, oc, nc, kd, lo, ah, nt, fd, fv, hs, sg, tc, og, ae, rfl, rfl, H⟩ := I
  have R : ∀ ae : Nat → Int32, i_Rel (k + 5) ((nI N), eb, (nI P), (nI K), (ag_f nm), (ag_f vr), sg, tc, (ag_f nv), (ag_f oc), og, (ag_f nc), (ag_f (ag_kc kd)), (ag_f lo), (ag_f ah), (ag_f (ag_kn kd)), (ag_f (ag_ko kd)), (ag_f nt)) ((nI N), eb, (nI P), (nI K), (ag_f nm), (ag_f vr), sg, (ag_f oc), (ag_f fd), (ag_f fv), (ag_f nc), (ag_f kd), (ag_f lo), (ag_f ah), ae, (ag_f hs), tc) := fun ae => ag_R H
  obtain ⟨hN, hP, hK, hnm, hvr, hnv, hoc, hoz, hnc, hkd, hlo, hah, hns, hhs, hfd, hfv, hog⟩ := id H
  unfold wpX_unit wpY_unit
  by_cases a0 : v1 < 0
  · exact br_t a0 (br_t a0 ⟨rfl, R ae⟩)
  obtain ⟨a, ha, rfl⟩ := nI_of a0
  by_cases a5 : a < 5
  rotate_left
  · exact br_f a0 (br_f (nI_nlt (b := 5) (by omega) ha) (br_f a0 (br_f (nI_ge (a := 4) (by omega) ha) ⟨rfl, R ae⟩)))
  have xa : nI a < 5 := nI_lt (b := 5) a5 (by decide)
  have ya : nI a ≤ 4 := nI_le (b := 4) (by omega) (by decide)
  by_cases g1 : v2 < 1
  · exact br_f a0 (br_t xa (br_t g1 (br_f a0 (br_t ya (br_t g1 ⟨rfl, R ae⟩)))))
  obtain ⟨b, hb1, hb, rfl⟩ := ag_ge (l := 1) (by decide) g1
  by_cases b9 : b ≤ 9
  rotate_left
  · have xb : ¬ nI b ≤ 9 := nI_ge (a := 9) (by omega) hb
    exact br_f a0 (br_t xa (br_f g1 (br_f xb (br_f a0 (br_t ya (br_f g1 (br_f xb ⟨rfl, R ae⟩)))))))
  have xb : nI b ≤ 9 := nI_le (b := 9) b9 (by decide)
  refine br_f a0 (br_t xa (br_f g1 (br_t xb (ag_Xlisted (by omega) (by omega) hN hnm hvr (ag_br (fun hL => ?_) (fun hL => ?_))))))
  · exact br_f a0 (br_t ya (br_f g1 (br_t xb ⟨N + 1, ag_Y28_go v3 (by omega) (by omega) hN hnm hvr (fun _ => ⟨rfl, R ae⟩) (fun z => absurd hL z) N 0 (by omega) (fun j hj => absurd hj (by omega))⟩)))
  by_cases h10 : N < 10
  rotate_left
  · refine br_f (nI_nlt (b := 10) (by omega) (by omega)) (br_f a0 (br_t ya (br_f g1 (br_t xb ⟨N + 1, ag_Y28_go v3 (by omega) (by omega) hN hnm hvr (fun z => absurd z hL) (fun _ => ?_) N 0 (by omega) (fun j hj => absurd hj (by omega))⟩))))
    unfold wY_unit_75
    exact br_f (nI_ge (a := 9) (by omega) (by omega)) ⟨rfl, R ae⟩
  have hN10 : vp_in (nI N) 10 := pk_in N 10 h10
  have en : upd (ag_f nm) (nI N).toNatClampNeg (nI a) = ag_f (ag_u nm N a) := by rw [nI_clamp (by omega), ag_fu]
  have ev : upd (ag_f vr) (nI N).toNatClampNeg (nI b) = ag_f (ag_u vr N b) := by rw [nI_clamp (by omega), ag_fu]
  have hnv9 : ∀ c, c < 5 → nv c ≤ 9 := fun c hc => by rw [hnv c hc]; exact ag_mx9 hvr N
  refine br_t (nI_lt (b := 10) h10 (by decide)) ⟨hN10, nm_r en ⟨hN10, nm_r ev ?_⟩⟩
  by_cases z3 : v3 = 0
  · refine br_t z3 (ag_U104 0 a5 b9 h10 hnv9 (fun nw hw => ?_))
    refine br_f a0 (br_t ya (br_f g1 (br_t xb ⟨N + 1, ag_Y28_go v3 (by omega) (by omega) hN hnm hvr (fun z => absurd z hL) (fun _ => ?_) N 0 (by omega) (fun j hj => absurd hj (by omega))⟩)))
    unfold wY_unit_75
    refine br_t (nI_le (b := 9) (by omega) (by decide)) ⟨hN10, nm_r en ⟨hN10, nm_r ev (br_t z3 ?_)⟩⟩
    unfold wY_unit_122
    exact ⟨hN10, nm_r (by rw [nI_clamp (by omega)]) (nm_r (nI_1 N) ⟨rfl, ag_R (ag_Iu H h10 a5 b9 hw)⟩)⟩
  · refine br_f z3 (ag_U104 1 a5 b9 h10 hnv9 (fun nw hw => ?_))
    refine br_f a0 (br_t ya (br_f g1 (br_t xb ⟨N + 1, ag_Y28_go v3 (by omega) (by omega) hN hnm hvr (fun z => absurd z hL) (fun _ => ?_) N 0 (by omega) (fun j hj => absurd hj (by omega))⟩)))
    unfold wY_unit_75
    refine br_t (nI_le (b := 9) (by omega) (by decide)) ⟨hN10, nm_r en ⟨hN10, nm_r ev (br_f z3 ?_)⟩⟩
    unfold wY_unit_122
    exact ⟨hN10, nm_r (by rw [nI_clamp (by omega)]) (nm_r (nI_1 N) ⟨rfl, ag_R (ag_Iu H h10 a5 b9 hw)⟩)⟩
theorem i_vc_offer {k : Nat} {u : SX} {v : SY} (I : i_Rel k u v) (hk : k + 5 ≤ 2560) (v1 : Int32) (v2 : Int32) (v3 : Int32) : wpX_offer (fun r u' => wpY_offer (fun r' v' => r' = r ∧ i_Rel (k + 5) u' v') v v1 v2 v3) u v1 v2 v3 := by
  obtain ⟨N, P, K, eb, nm, vr, nv, oc, nc, kd, lo, ah, nt, fd, fv, hs, sg, tc, og, ae, rfl, rfl, H⟩ := I
  have R : ∀ ae : Nat → Int32, i_Rel (k + 5) ((nI N), eb, (nI P), (nI K), (ag_f nm), (ag_f vr), sg, tc, (ag_f nv), (ag_f oc), og, (ag_f nc), (ag_f (ag_kc kd)), (ag_f lo), (ag_f ah), (ag_f (ag_kn kd)), (ag_f (ag_ko kd)), (ag_f nt)) ((nI N), eb, (nI P), (nI K), (ag_f nm), (ag_f vr), sg, (ag_f oc), (ag_f fd), (ag_f fv), (ag_f nc), (ag_f kd), (ag_f lo), (ag_f ah), ae, (ag_f hs), tc) := fun ae => ag_R H
  obtain ⟨hN, hP, hK, hnm, hvr, hnv, hoc, hoz, hnc, hkd, hlo, hah, hns, hhs, hfd, hfv, hog⟩ := id H
  unfold wpX_offer wpY_offer
  rcases ag_ix v1 (n := N) (by omega) with hx | ⟨u, hu, rfl⟩
  · exact ag_Xgu_f hx (br_t rfl (ag_Ybu_f hx (br_f (by decide) ⟨rfl, R ae⟩)))
  by_cases c0 : v2 < 0
  · exact ag_Xgu_t hN hu (br_f (by decide) (br_t c0 (ag_Ybu_t hN hu (br_t rfl (br_t c0 ⟨rfl, R ae⟩)))))
  obtain ⟨c, hc, rfl⟩ := nI_of c0
  by_cases c6 : c < 6
  rotate_left
  · exact ag_Xgu_t hN hu (br_f (by decide) (br_f c0 (br_f (nI_nlt (b := 6) (by omega) hc) (ag_Ybu_t hN hu (br_t rfl (br_f c0 (br_f (nI_ge (a := 5) (by omega) hc) ⟨rfl, R ae⟩)))))))
  by_cases g1 : v3 < 1
  · exact ag_Xgu_t hN hu (br_f (by decide) (br_f c0 (br_t (nI_lt (b := 6) c6 (by decide)) (br_t g1 (ag_Ybu_t hN hu (br_t rfl (br_f c0 (br_t (nI_le (b := 5) (by omega) (by decide)) (br_t g1 ⟨rfl, R ae⟩)))))))))
  obtain ⟨x, hx1, hx, rfl⟩ := ag_ge (l := 1) (by decide) g1
  by_cases v9 : x ≤ 9
  rotate_left
  · exact ag_Xgu_t hN hu (br_f (by decide) (br_f c0 (br_t (nI_lt (b := 6) c6 (by decide)) (br_f g1 (br_f (nI_ge (a := 9) (by omega) hx) (ag_Ybu_t hN hu (br_t rfl (br_f c0 (br_t (nI_le (b := 5) (by omega) (by decide)) (br_f g1 (br_f (nI_ge (a := 9) (by omega) hx) ⟨rfl, R ae⟩)))))))))))
  have hu10 : vp_in (nI u) 10 := pk_in u 10 (by omega)
  have o3 := hoc u
  have eo : ag_f oc (nI u).toNatClampNeg = nI (oc u) := ag_at oc (by omega)
  by_cases k3 : oc u < 3
  rotate_left
  · exact ag_Xgu_t hN hu (br_f (by decide) (br_f c0 (br_t (nI_lt (b := 6) c6 (by decide)) (br_f g1 (br_t (nI_le (b := 9) v9 (by decide)) ⟨hu10, br_f (by rw [eo]; exact nI_nlt (b := 3) (by omega) (by omega)) (ag_Ybu_t hN hu (br_t rfl (br_f c0 (br_t (nI_le (b := 5) (by omega) (by decide)) (br_f g1 (br_t (nI_le (b := 9) v9 (by decide)) ⟨hu10, nm_r eo (br_f (nI_ge (a := 2) (by omega) (by omega)) ⟨rfl, R ae⟩)⟩))))))⟩)))))
  have e10 : nI c * 10 + nI x = nI (c * 10 + x) := by
    rw [show nI c * 10 = nI (c * 10) from pk_mul c 10, nI_add]
  have i60 : vp_in (nI c * 10 + nI x) 60 := by
    rw [e10]
    exact pk_in (c * 10 + x) 60 (by omega)
  have ep : 3 * nI u + nI (oc u) = nI (3 * u + oc u) := by
    rw [show 3 * nI u = nI (3 * u) from pk_mul 3 u, nI_add]
  have i30 : vp_in (3 * nI u + nI (oc u)) 30 := by
    rw [ep]
    exact pk_in (3 * u + oc u) 30 (by omega)
  have eog : upd og (nI c * 10 + nI x).toNatClampNeg (og (nI c * 10 + nI x).toNatClampNeg ||| ((1 : Int32) <<< (nI u &&& 31))) = upd og (c * 10 + x) (og (c * 10 + x) ||| ((1 : Int32) <<< (nI u &&& 31))) := by rw [e10, nI_clamp (by omega)]
  have eoc : upd (ag_f oc) (nI u).toNatClampNeg (ag_f oc (nI u).toNatClampNeg + 1) = ag_f (ag_u oc u (oc u + 1)) := by rw [eo, nI_clamp (by omega), nI_1, ag_fu]
  have eoc' : upd (ag_f oc) (nI u).toNatClampNeg (nI (oc u) + 1) = ag_f (ag_u oc u (oc u + 1)) := by rw [nI_clamp (by omega), nI_1, ag_fu]
  have efd : upd (ag_f fd) (3 * nI u + nI (oc u)).toNatClampNeg (nI c) = ag_f (ag_u fd (3 * u + oc u) c) := by rw [ep, nI_clamp (by omega), ag_fu]
  have efv : upd (ag_f fv) (3 * nI u + nI (oc u)).toNatClampNeg (nI x) = ag_f (ag_u fv (3 * u + oc u) x) := by rw [ep, nI_clamp (by omega), ag_fu]
  have er : nI (oc u) + 1 = ag_f (ag_u oc u (oc u + 1)) (nI u).toNatClampNeg := by rw [ag_at _ (by omega), ag_us, nI_1]
  have H' : ag_I N P K nm vr nv (ag_u oc u (oc u + 1)) nc kd lo ah nt (ag_u fd (3 * u + oc u) c) (ag_u fv (3 * u + oc u) x) hs (upd og (c * 10 + x) (og (c * 10 + x) ||| ((1 : Int32) <<< (nI u &&& 31)))) := by
    refine ⟨hN, hP, hK, hnm, hvr, hnv, ag_ub hoc (by omega), fun j hj => ?_, hnc, hkd, hlo, hah, hns, hhs, ag_ub hfd (by omega), ag_ub hfv (by omega), ag_OGo hN hu rfl k3 c6 (by omega) hog⟩
    rw [ag_un (by omega)]
    exact hoz j hj
  refine ag_Xgu_t hN hu (br_f (by decide) (br_f c0 (br_t (nI_lt (b := 6) c6 (by decide)) (br_f g1 (br_t (nI_le (b := 9) v9 (by decide)) ⟨hu10, br_t (by rw [eo]; exact nI_lt (b := 3) k3 (by decide)) ⟨i60, i60, nm_r eog ⟨hu10, hu10, nm_r eoc ⟨hu10, ?_⟩⟩⟩⟩)))))
  exact ag_Ybu_t hN hu (br_t rfl (br_f c0 (br_t (nI_le (b := 5) (by omega) (by decide)) (br_f g1 (br_t (nI_le (b := 9) v9 (by decide)) ⟨hu10, nm_r eo (br_t (nI_le (b := 2) (by omega) (by decide)) ⟨i30, nm_r efd ⟨i30, nm_r efv ⟨hu10, nm_r eoc' ⟨er, ag_R H'⟩⟩⟩⟩)⟩)))))
theorem ag_N119 {post : Int32 → SX → Prop} {N P K u p q l h x : Nat} {eb : Int32} {nm vr nv oc nc kd lo ah nt : Nat → Nat} {sg tc og ko : Nat → Int32} (z : Int32) (hu : u < 10) (hp : p < 30) (hz : vp_nar .boolean z = nI q) (hx : nc u = x) (hx3 : x < 3) (hh : post (nI (x + 1)) ((nI N), eb, (nI P), (nI K), (ag_f nm), (ag_f vr), sg, tc, (ag_f nv), (ag_f oc), og, (ag_f (ag_u nc u (x + 1))), (ag_f (ag_kc kd)), (ag_f (ag_u lo p l)), (ag_f (ag_u ah p h)), (ag_f (ag_kn kd)), (upd ko p (nI q)), (ag_f nt))) : wX_need_119 post (nI u) (nI l) (nI h) (nI p) z (nI p) (nI N) eb (nI P) (nI K) (ag_f nm) (ag_f vr) sg tc (ag_f nv) (ag_f oc) og (ag_f nc) (ag_f (ag_kc kd)) (ag_f lo) (ag_f ah) (ag_f (ag_kn kd)) ko (ag_f nt) := by
  unfold wX_need_119
  have hu10 : vp_in (nI u) 10 := pk_in u 10 hu
  have hp30 : vp_in (nI p) 30 := pk_in p 30 hp
  have en : upd (ag_f nc) (nI u).toNatClampNeg (ag_f nc (nI u).toNatClampNeg + 1) = ag_f (ag_u nc u (x + 1)) := by rw [ag_at nc (by omega), nI_clamp (by omega), nI_1, ag_fu, hx]
  refine ⟨hp30, nm_r (by rw [nI_clamp (by omega), hz]) ⟨hp30, nm_r (by rw [nI_clamp (by omega), ag_fu]) ⟨hp30, nm_r (by rw [nI_clamp (by omega), ag_fu]) ⟨hu10, hu10, nm_r en ⟨hu10, ?_⟩⟩⟩⟩⟩
  rw [ag_at _ (by omega), ag_us]
  exact hh
theorem i_vc_need {k : Nat} {u : SX} {v : SY} (I : i_Rel k u v) (hk : k + 5 ≤ 2560) (v1 : Int32) (v2 : Int32) (v3 : Int32) (v4 : Int32) : wpX_need (fun r u' => wpY_need (fun r' v' => r' = r ∧ i_Rel (k + 5) u' v') v v1 v2 v3 v4) u v1 v2 v3 v4 := by
  obtain ⟨N, P, K, eb, nm, vr, nv, oc, nc, kd, lo, ah, nt, fd, fv, hs, sg, tc, og, ae, rfl, rfl, H⟩ := I
  have R : ∀ ae : Nat → Int32, i_Rel (k + 5) ((nI N), eb, (nI P), (nI K), (ag_f nm), (ag_f vr), sg, tc, (ag_f nv), (ag_f oc), og, (ag_f nc), (ag_f (ag_kc kd)), (ag_f lo), (ag_f ah), (ag_f (ag_kn kd)), (ag_f (ag_ko kd)), (ag_f nt)) ((nI N), eb, (nI P), (nI K), (ag_f nm), (ag_f vr), sg, (ag_f oc), (ag_f fd), (ag_f fv), (ag_f nc), (ag_f kd), (ag_f lo), (ag_f ah), ae, (ag_f hs), tc) := fun ae => ag_R H
  obtain ⟨hN, hP, hK, hnm, hvr, hnv, hoc, hoz, hnc, hkd, hlo, hah, hns, hhs, hfd, hfv, hog⟩ := id H
  unfold wpX_need wpY_need
  rcases ag_ix v1 (n := N) (by omega) with hx | ⟨u, hu, rfl⟩
  · exact ag_Xgu_f hx (br_t rfl (ag_Ybu_f hx (br_f (by decide) ⟨rfl, R ae⟩)))
  by_cases c0 : v2 < 0
  · exact ag_Xgu_t hN hu (br_f (by decide) (br_t c0 (ag_Ybu_t hN hu (br_t rfl (br_t c0 ⟨rfl, R ae⟩)))))
  obtain ⟨c, hc, rfl⟩ := nI_of c0
  by_cases c63 : 63 < c
  · have z : (63 : Int32) < nI c := nI_lt (a := 63) c63 hc
    exact ag_Xgu_t hN hu (br_f (by decide) (br_f c0 (br_t z (ag_Ybu_t hN hu (br_t rfl (br_f c0 (br_t z ⟨rfl, R ae⟩)))))))
  have z63 : ¬ (63 : Int32) < nI c := nI_nlt (a := 63) (by omega) (by decide)
  have x7 : nI c &&& 7 = nI (c % 8) := pk_andN (by omega) 3 (by decide)
  have y7 : nI c - nI c / 8 * 8 = nI (c % 8) := ag_m8 (by omega)
  by_cases c6 : c % 8 < 6
  rotate_left
  · exact ag_Xgu_t hN hu (br_f (by decide) (br_f c0 (br_f z63 (br_f (by rw [x7]; exact nI_nlt (b := 6) (by omega) (by omega)) (ag_Ybu_t hN hu (br_t rfl (br_f c0 (br_f z63 ⟨by decide, br_f (by rw [y7]; exact nI_ge (a := 5) (by omega) (by omega)) ⟨rfl, R ae⟩⟩))))))))
  have xc : (nI c &&& 7) < 6 := by rw [x7]; exact nI_lt (b := 6) c6 (by decide)
  have yc : (nI c - nI c / 8 * 8) ≤ 5 := by rw [y7]; exact nI_le (b := 5) (by omega) (by decide)
  by_cases g1 : v3 < 1
  · exact ag_Xgu_t hN hu (br_f (by decide) (br_f c0 (br_f z63 (br_t xc (br_t g1 (ag_Ybu_t hN hu (br_t rfl (br_f c0 (br_f z63 ⟨by decide, br_t yc (br_t g1 ⟨rfl, R ae⟩)⟩)))))))))
  obtain ⟨l, hl1, hl, rfl⟩ := ag_ge (l := 1) (by decide) g1
  by_cases g2 : v4 < nI l
  · exact ag_Xgu_t hN hu (br_f (by decide) (br_f c0 (br_f z63 (br_t xc (br_f g1 (br_t g2 (ag_Ybu_t hN hu (br_t rfl (br_f c0 (br_f z63 ⟨by decide, br_t yc (br_f g1 (br_t g2 ⟨rfl, R ae⟩))⟩))))))))))
  obtain ⟨h, hh1, hh, rfl⟩ := ag_ge hl g2
  by_cases h9 : h ≤ 9
  rotate_left
  · have x9 : ¬ nI h ≤ 9 := nI_ge (a := 9) (by omega) hh
    exact ag_Xgu_t hN hu (br_f (by decide) (br_f c0 (br_f z63 (br_t xc (br_f g1 (br_f g2 (br_f x9 (ag_Ybu_t hN hu (br_t rfl (br_f c0 (br_f z63 ⟨by decide, br_t yc (br_f g1 (br_f g2 (br_f x9 ⟨rfl, R ae⟩)))⟩)))))))))))
  have x9 : nI h ≤ 9 := nI_le (b := 9) h9 (by decide)
  have hu10 : vp_in (nI u) 10 := pk_in u 10 (by omega)
  have n3 := hnc u
  have en : ag_f nc (nI u).toNatClampNeg = nI (nc u) := ag_at nc (by omega)
  by_cases k3 : nc u < 3
  rotate_left
  · exact ag_Xgu_t hN hu (br_f (by decide) (br_f c0 (br_f z63 (br_t xc (br_f g1 (br_f g2 (br_t x9 ⟨hu10, br_f (by rw [en]; exact nI_nlt (b := 3) (by omega) (by omega)) (ag_Ybu_t hN hu (br_t rfl (br_f c0 (br_f z63 ⟨by decide, br_t yc (br_f g1 (br_f g2 (br_t x9 ⟨hu10, nm_r en (br_f (nI_ge (a := 2) (by omega) (by omega)) ⟨rfl, R ae⟩)⟩)))⟩))))⟩)))))))
  have hp : 3 * u + nc u < 30 := by omega
  have epx : nI u * 3 + ag_f nc (nI u).toNatClampNeg = nI (3 * u + nc u) := by
    rw [en, show nI u * 3 = nI (u * 3) from pk_mul u 3, nI_add, Nat.mul_comm]
  have epy : 3 * nI u + nI (nc u) = nI (3 * u + nc u) := by
    rw [show 3 * nI u = nI (3 * u) from pk_mul 3 u, nI_add]
  have i30 : vp_in (nI (3 * u + nc u)) 30 := pk_in (3 * u + nc u) 30 hp
  have y30 : vp_in (3 * nI u + nI (nc u)) 30 := by
    rw [epy]
    exact i30
  have ecap : upd (ag_f (ag_kc kd)) (nI (3 * u + nc u)).toNatClampNeg (nI c &&& 7) = ag_f (ag_kc (ag_u kd (3 * u + nc u) c)) := by rw [nI_clamp (by omega), x7, ag_fu, ag_kcu]
  have e3 : (nI c >>> ((3 : Int32) &&& 31)) &&& 3 = nI (c / 8 % 4) := by
    rw [pk_shrN hc _ 3 (by decide)]
    exact pk_andN (by have := Nat.div_le_self c (2 ^ 3); omega) 2 (by decide)
  have econ : upd (ag_f (ag_kn kd)) (nI (3 * u + nc u)).toNatClampNeg ((nI c >>> ((3 : Int32) &&& 31)) &&& 3) = ag_f (ag_kn (ag_u kd (3 * u + nc u) c)) := by rw [nI_clamp (by omega), e3, ag_fu, ag_knu]
  have e5 : nI c >>> ((5 : Int32) &&& 31) = nI (c / 32) := pk_shrN hc _ 5 (by decide)
  have eopt : upd (ag_f (ag_ko kd)) (3 * u + nc u) (nI (c / 32)) = ag_f (ag_ko (ag_u kd (3 * u + nc u) c)) := by rw [ag_fu, ag_kou]
  have H' : ag_I N P K nm vr nv oc (ag_u nc u (nc u + 1)) (ag_u kd (3 * u + nc u) c) (ag_u lo (3 * u + nc u) l) (ag_u ah (3 * u + nc u) h) nt fd fv hs og := by
    refine ⟨hN, hP, hK, hnm, hvr, hnv, hoc, hoz, ag_ub hnc (by omega), fun j => ?_, ag_ub hlo (by omega), ag_ub hah (by omega), hns, hhs, hfd, hfv, hog⟩
    by_cases e : j = 3 * u + nc u
    · rw [e, ag_us]
      exact ⟨by omega, by omega⟩
    · rw [ag_un e]
      exact hkd j
  have Y : wpY_need (fun r' v' => r' = nI (nc u + 1) ∧ i_Rel (k + 5) ((nI N), eb, (nI P), (nI K), (ag_f nm), (ag_f vr), sg, tc, (ag_f nv), (ag_f oc), og, (ag_f (ag_u nc u (nc u + 1))), (ag_f (ag_kc (ag_u kd (3 * u + nc u) c))), (ag_f (ag_u lo (3 * u + nc u) l)), (ag_f (ag_u ah (3 * u + nc u) h)), (ag_f (ag_kn (ag_u kd (3 * u + nc u) c))), (ag_f (ag_ko (ag_u kd (3 * u + nc u) c))), (ag_f nt)) v') ((nI N), eb, (nI P), (nI K), (ag_f nm), (ag_f vr), sg, (ag_f oc), (ag_f fd), (ag_f fv), (ag_f nc), (ag_f kd), (ag_f lo), (ag_f ah), ae, (ag_f hs), tc) (nI u) (nI c) (nI l) (nI h) := by
    unfold wpY_need
    refine ag_Ybu_t hN hu (br_t rfl (br_f c0 (br_f z63 ⟨by decide, br_t yc (br_f g1 (br_f g2 (br_t x9 ⟨hu10, nm_r en (br_t (nI_le (b := 2) (by omega) (by decide)) ⟨y30, nm_r ?_ ⟨y30, nm_r ?_ ⟨y30, nm_r ?_ ⟨hu10, nm_r ?_ ⟨nI_1 _, ag_R H'⟩⟩⟩⟩⟩)⟩)))⟩)))
    · rw [epy, nI_clamp (by omega), ag_fu]
    · rw [epy, nI_clamp (by omega), ag_fu]
    · rw [epy, nI_clamp (by omega), ag_fu]
    · rw [nI_clamp (by omega), nI_1, ag_fu]
  rw [← eopt] at Y
  refine ag_Xgu_t hN hu (br_f (by decide) (br_f c0 (br_f z63 (br_t xc (br_f g1 (br_f g2 (br_t x9 ⟨hu10, br_t (by rw [en]; exact nI_lt (b := 3) k3 (by decide)) ⟨hu10, nm_r epx ⟨i30, nm_r ecap ⟨i30, nm_r econ ?_⟩⟩⟩⟩)))))))
  by_cases c32 : c / 32 = 1
  · refine br_t (by rw [e5, c32]; rfl) (ag_N119 (q := c / 32) 1 (by omega) hp (by rw [c32]; rfl) rfl k3 Y)
  · refine br_f (fun z => c32 ?_) (ag_N119 (q := c / 32) 0 (by omega) hp (by rw [show c / 32 = 0 by omega]; rfl) rfl k3 Y)
    rw [e5] at z
    exact (nI_eq (b := 1) (by omega) (by decide)).mp z
