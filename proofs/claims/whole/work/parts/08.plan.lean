/-! the methods that plan and change -/
theorem i_vc_plan {k : Nat} {u : SX} {v : SY} (I : i_Rel k u v) (hk : k + 5 ≤ 2560) (v1 : Int32) (v2 : Int32) : wpX_plan (fun r => wpY_plan (fun r' v' => r' = r ∧ i_Rel (k + 5) u v') v v1 v2) u v1 v2 := by
  obtain ⟨N, P, K, eb, nm, vr, nv, oc, nc, kd, lo, ah, nt, fd, fv, hs, sg, tc, og, ae, rfl, rfl, H⟩ := I
  have R : ∀ ae : Nat → Int32, i_Rel (k + 5) ((nI N), eb, (nI P), (nI K), (ag_f nm), (ag_f vr), sg, tc, (ag_f nv), (ag_f oc), og, (ag_f nc), (ag_f (ag_kc kd)), (ag_f lo), (ag_f ah), (ag_f (ag_kn kd)), (ag_f (ag_ko kd)), (ag_f nt)) ((nI N), eb, (nI P), (nI K), (ag_f nm), (ag_f vr), sg, (ag_f oc), (ag_f fd), (ag_f fv), (ag_f nc), (ag_f kd), (ag_f lo), (ag_f ah), ae, (ag_f hs), tc) := fun ae => ag_R H
  obtain ⟨hN, hP, hK, hnm, hvr, hnv, hoc, hoz, hnc, hkd, hlo, hah, hns, hhs, hfd, hfv, hog⟩ := id H
  have hE := ag_pw hN
  unfold wpX_plan wpY_plan
  rcases ag_ix v1 (n := 2 ^ N) (by omega) with hx | ⟨w, hw, rfl⟩
  · exact ag_Xgs_f hN hx (br_t rfl (ag_Ybs_f hN hx (br_f (by decide) ⟨rfl, R ae⟩)))
  rcases ag_ix v2 (n := 2 ^ N) (by omega) with hx | ⟨b, hb, rfl⟩
  · exact ag_Xgs_t hN hw (br_f (by decide) (ag_Xgs_f hN hx (br_t rfl (ag_Ybs_t hN hw (br_t rfl (ag_Ybs_f hN hx (br_f (by decide) ⟨rfl, R ae⟩)))))))
  refine ag_Xgs_t hN hw (br_f (by decide) (ag_Xgs_t hN hb (br_f (by decide) (ag_Xbest (nI w) (nI b) hN hnm hkd hlo hah hnc ?_))))
  refine ag_Ybs_t hN hw (br_t rfl (ag_Ybs_t hN hb (br_t rfl (ag_Ybest (nI w) (nI b) hN hnm hvr hoc hnc hkd hlo hah hfd hfv (fun ae' h' => ?_)))))
  rw [ag_best (nI w) (nI b) hP hN hnm hnv hnc hkd hah hog h']
  exact ⟨rfl, R ae'⟩
theorem i_vc_planCost {k : Nat} {u : SX} {v : SY} (I : i_Rel k u v) (hk : k + 5 ≤ 2560) (v1 : Int32) (v2 : Int32) : wpX_planCost (fun r => wpY_planCost (fun r' v' => r' = r ∧ i_Rel (k + 5) u v') v v1 v2) u v1 v2 := by
  obtain ⟨N, P, K, eb, nm, vr, nv, oc, nc, kd, lo, ah, nt, fd, fv, hs, sg, tc, og, ae, rfl, rfl, H⟩ := I
  have R : ∀ ae : Nat → Int32, i_Rel (k + 5) ((nI N), eb, (nI P), (nI K), (ag_f nm), (ag_f vr), sg, tc, (ag_f nv), (ag_f oc), og, (ag_f nc), (ag_f (ag_kc kd)), (ag_f lo), (ag_f ah), (ag_f (ag_kn kd)), (ag_f (ag_ko kd)), (ag_f nt)) ((nI N), eb, (nI P), (nI K), (ag_f nm), (ag_f vr), sg, (ag_f oc), (ag_f fd), (ag_f fv), (ag_f nc), (ag_f kd), (ag_f lo), (ag_f ah), ae, (ag_f hs), tc) := fun ae => ag_R H
  obtain ⟨hN, hP, hK, hnm, hvr, hnv, hoc, hoz, hnc, hkd, hlo, hah, hns, hhs, hfd, hfv, hog⟩ := id H
  have hE := ag_pw hN
  unfold wpX_planCost wpY_planCost
  rcases ag_ix v1 (n := 2 ^ N) (by omega) with hx | ⟨w, hw, rfl⟩
  · exact ag_Xgs_f hN hx (br_t rfl (ag_Ybs_f hN hx (br_f (by decide) ⟨rfl, R ae⟩)))
  rcases ag_ix v2 (n := 2 ^ N) (by omega) with hx | ⟨b, hb, rfl⟩
  · exact ag_Xgs_t hN hw (br_f (by decide) (ag_Xgs_f hN hx (br_t rfl (ag_Ybs_t hN hw (br_t rfl (ag_Ybs_f hN hx (br_f (by decide) ⟨rfl, R ae⟩)))))))
  rcases ag_Bv (ok := ag_ok (ag_XS N eb nm sg og nc kd lo ah) (nI w) (nI b)) (ct := fun i => ag_XC N P eb nm vr nv og nc kd lo ah (nI i)) (2 ^ N) with e | ⟨j, hj, e⟩
  · refine ag_Xgs_t hN hw (br_f (by decide) (ag_Xgs_t hN hb (br_f (by decide) (ag_Xbest (nI w) (nI b) hN hnm hkd hlo hah hnc (br_t e ?_)))))
    refine ag_Ybs_t hN hw (br_t rfl (ag_Ybs_t hN hb (br_t rfl (ag_Ybest (nI w) (nI b) hN hnm hvr hoc hnc hkd hlo hah hfd hfv (fun ae' h' => ?_)))))
    rw [ag_best (nI w) (nI b) hP hN hnm hnv hnc hkd hah hog h', e]
    exact br_f (by decide) ⟨rfl, R ae'⟩
  · refine ag_Xgs_t hN hw (br_f (by decide) (ag_Xgs_t hN hb (br_f (by decide) (ag_Xbest (nI w) (nI b) hN hnm hkd hlo hah hnc ?_))))
    rw [e]
    refine br_f (ag_ne2 (by omega)) (ag_Xcost (nI j) hN hnm hkd hlo hah hnc ?_)
    refine ag_Ybs_t hN hw (br_t rfl (ag_Ybs_t hN hb (br_t rfl (ag_Ybest (nI w) (nI b) hN hnm hvr hoc hnc hkd hlo hah hfd hfv (fun ae' h' => ?_)))))
    rw [ag_best (nI w) (nI b) hP hN hnm hnv hnc hkd hah hog h', e]
    exact br_t (nI_pos' (by omega)) (ag_Yprice (nI j) hN hnm hvr hnc hkd ⟨(ag_cst hj hP hN hnm hnv hnc hkd hah hog h').symm, R ae'⟩)
theorem i_vc_excess {k : Nat} {u : SX} {v : SY} (I : i_Rel k u v) (hk : k + 5 ≤ 2560) (v1 : Int32) (v2 : Int32) : wpX_excess (fun r => wpY_excess (fun r' v' => r' = r ∧ i_Rel (k + 5) u v') v v1 v2) u v1 v2 := by
  obtain ⟨N, P, K, eb, nm, vr, nv, oc, nc, kd, lo, ah, nt, fd, fv, hs, sg, tc, og, ae, rfl, rfl, H⟩ := I
  have R : ∀ ae : Nat → Int32, i_Rel (k + 5) ((nI N), eb, (nI P), (nI K), (ag_f nm), (ag_f vr), sg, tc, (ag_f nv), (ag_f oc), og, (ag_f nc), (ag_f (ag_kc kd)), (ag_f lo), (ag_f ah), (ag_f (ag_kn kd)), (ag_f (ag_ko kd)), (ag_f nt)) ((nI N), eb, (nI P), (nI K), (ag_f nm), (ag_f vr), sg, (ag_f oc), (ag_f fd), (ag_f fv), (ag_f nc), (ag_f kd), (ag_f lo), (ag_f ah), ae, (ag_f hs), tc) := fun ae => ag_R H
  obtain ⟨hN, hP, hK, hnm, hvr, hnv, hoc, hoz, hnc, hkd, hlo, hah, hns, hhs, hfd, hfv, hog⟩ := id H
  have hE := ag_pw hN
  have hE0 : 0 < 2 ^ N := Nat.two_pow_pos N
  unfold wpX_excess wpY_excess
  rcases ag_ix v1 (n := 2 ^ N) (by omega) with hx | ⟨w, hw, rfl⟩
  · exact ag_Xgs_f hN hx (br_t rfl (ag_Ybs_f hN hx (br_f (by decide) ⟨rfl, R ae⟩)))
  rcases ag_ix v2 (n := 2 ^ N) (by omega) with hx | ⟨b, hb, rfl⟩
  · exact ag_Xgs_t hN hw (br_f (by decide) (ag_Xgs_f hN hx (br_t rfl (ag_Ybs_t hN hw (br_t rfl (ag_Ybs_f hN hx (br_f (by decide) ⟨rfl, R ae⟩)))))))
  refine ag_Xgs_t hN hw (br_f (by decide) (ag_Xgs_t hN hb (br_f (by decide) (ag_Xsize (nI w) (nm_r (ag_shl hN) ⟨2 ^ N - 1 + 1, ?_⟩)))))
  rw [← ag_E1 (N := N) (eb := eb) (nm := nm) (sg := sg) (og := og) (nc := nc) (kd := kd) (lo := lo) (ah := ah) (nI w) (nI b)]
  refine ag_Xexcess_go (nI w) (nI b) hN hnm hkd hlo hah hnc ?_ (2 ^ N - 1) 1 (by omega)
  refine ag_Ybs_t hN hw (br_t rfl (ag_Ybs_t hN hb (br_t rfl (ag_Ylook hN hoc hkd hlo hah hfd hfv (fun ae' h' => ⟨2 ^ N + 1, ag_Yexcess_go (nI w) (nI b) hN hnm hnc hkd ?_ (2 ^ N) 0 (by omega)⟩)))))
  exact ⟨ag_exc (nI w) (nI b) hN hnc hkd hah hog h', R ae'⟩
theorem ag_chg {k N P K j : Nat} {eb : Int32} {nm vr nv oc nc kd lo ah nt fd fv hs : Nat → Nat} {sg tc og ae : Nat → Int32} (H : ag_I N P K nm vr nv oc nc kd lo ah nt fd fv hs og) (hj : j < 2 ^ N) : nI (ag_C (ag_c (nI P) (nI j)) 20) = nI (ag_sz (nI P ^^^ nI j)) ∧ i_Rel k ((nI N), eb, (nI j), (nI (ag_nK K)), (ag_f nm), (ag_f vr), sg, (ag_G (ag_c (nI P) (nI j)) (ag_sz (nI P ^^^ nI j)) 1 tc 20), (ag_f nv), (ag_f oc), og, (ag_f nc), (ag_f (ag_kc kd)), (ag_f lo), (ag_f ah), (ag_f (ag_kn kd)), (ag_f (ag_ko kd)), (ag_f (ag_nN nt K j))) ((nI N), eb, (nI j), (nI (ag_nK K)), (ag_f nm), (ag_f vr), sg, (ag_f oc), (ag_f fd), (ag_f fv), (ag_f nc), (ag_f kd), (ag_f lo), (ag_f ah), ae, (ag_f (ag_hN hs K j)), (ag_G (ag_c (nI P) (nI j)) 20 1 tc 20)) := by
  obtain ⟨hN, hP, hK, hnm, hvr, hnv, hoc, hoz, hnc, hkd, hlo, hah, hns, hhs, hfd, hfv, hog⟩ := id H
  have hz := ag_szc (nI P) (nI j)
  have hl := ag_Cle (ag_c (nI P) (nI j)) 20
  rw [ag_Gm (tm := 1) (a := tc) (c := ag_c (nI P) (nI j)) (m := 20) (m' := ag_sz (nI P ^^^ nI j)) hl (by omega) 20 (by omega)]
  exact ⟨by rw [hz], ag_R ⟨hN, hj, ag_nK8 hK, hnm, hvr, hnv, hoc, hoz, hnc, hkd, hlo, hah, ag_nNh hK hns, ag_hNb hhs hj, hfd, hfv, hog⟩⟩
theorem i_vc_apply {k : Nat} {u : SX} {v : SY} (I : i_Rel k u v) (hk : k + 5 ≤ 2560) (v1 : Int32) (v2 : Int32) : wpX_apply (fun r u' => wpY_apply (fun r' v' => r' = r ∧ i_Rel (k + 5) u' v') v v1 v2) u v1 v2 := by
  obtain ⟨N, P, K, eb, nm, vr, nv, oc, nc, kd, lo, ah, nt, fd, fv, hs, sg, tc, og, ae, rfl, rfl, H⟩ := I
  have R : ∀ ae : Nat → Int32, i_Rel (k + 5) ((nI N), eb, (nI P), (nI K), (ag_f nm), (ag_f vr), sg, tc, (ag_f nv), (ag_f oc), og, (ag_f nc), (ag_f (ag_kc kd)), (ag_f lo), (ag_f ah), (ag_f (ag_kn kd)), (ag_f (ag_ko kd)), (ag_f nt)) ((nI N), eb, (nI P), (nI K), (ag_f nm), (ag_f vr), sg, (ag_f oc), (ag_f fd), (ag_f fv), (ag_f nc), (ag_f kd), (ag_f lo), (ag_f ah), ae, (ag_f hs), tc) := fun ae => ag_R H
  obtain ⟨hN, hP, hK, hnm, hvr, hnv, hoc, hoz, hnc, hkd, hlo, hah, hns, hhs, hfd, hfv, hog⟩ := id H
  have hE := ag_pw hN
  unfold wpX_apply wpY_apply
  rcases ag_ix v1 (n := 2 ^ N) (by omega) with hx | ⟨w, hw, rfl⟩
  · exact ag_Xgs_f hN hx (br_t rfl (ag_Ybs_f hN hx (br_f (by decide) ⟨rfl, R ae⟩)))
  rcases ag_ix v2 (n := 2 ^ N) (by omega) with hx | ⟨b, hb, rfl⟩
  · exact ag_Xgs_t hN hw (br_f (by decide) (ag_Xgs_f hN hx (br_t rfl (ag_Ybs_t hN hw (br_t rfl (ag_Ybs_f hN hx (br_f (by decide) ⟨rfl, R ae⟩)))))))
  rcases ag_Bv (ok := ag_ok (ag_XS N eb nm sg og nc kd lo ah) (nI w) (nI b)) (ct := fun i => ag_XC N P eb nm vr nv og nc kd lo ah (nI i)) (2 ^ N) with e | ⟨j, hj, e⟩
  · refine ag_Xgs_t hN hw (br_f (by decide) (ag_Xgs_t hN hb (br_f (by decide) (ag_Xbest (nI w) (nI b) hN hnm hkd hlo hah hnc (br_t e ?_)))))
    refine ag_Ybs_t hN hw (br_t rfl (ag_Ybs_t hN hb (br_t rfl (ag_Ybest (nI w) (nI b) hN hnm hvr hoc hnc hkd hlo hah hfd hfv (fun ae' h' => ?_)))))
    rw [ag_best (nI w) (nI b) hP hN hnm hnv hnc hkd hah hog h', e]
    exact br_f (by decide) ⟨rfl, R ae'⟩
  · refine ag_Xgs_t hN hw (br_f (by decide) (ag_Xgs_t hN hb (br_f (by decide) (ag_Xbest (nI w) (nI b) hN hnm hkd hlo hah hnc ?_))))
    rw [e]
    refine br_f (ag_ne2 (by omega)) (ag_Xchange j hK ?_)
    refine ag_Ybs_t hN hw (br_t rfl (ag_Ybs_t hN hb (br_t rfl (ag_Ybest (nI w) (nI b) hN hnm hvr hoc hnc hkd hlo hah hfd hfv (fun ae' h' => ?_)))))
    rw [ag_best (nI w) (nI b) hP hN hnm hnv hnc hkd hah hog h', e]
    exact br_t (nI_pos' (by omega)) (ag_Ychange j hK (ag_chg H hj))
theorem i_vc_revert {k : Nat} {u : SX} {v : SY} (I : i_Rel k u v) (hk : k + 5 ≤ 2560) (v1 : Int32) : wpX_revert (fun r u' => wpY_revert (fun r' v' => r' = r ∧ i_Rel (k + 5) u' v') v v1) u v1 := by
  obtain ⟨N, P, K, eb, nm, vr, nv, oc, nc, kd, lo, ah, nt, fd, fv, hs, sg, tc, og, ae, rfl, rfl, H⟩ := I
  have R : ∀ ae : Nat → Int32, i_Rel (k + 5) ((nI N), eb, (nI P), (nI K), (ag_f nm), (ag_f vr), sg, tc, (ag_f nv), (ag_f oc), og, (ag_f nc), (ag_f (ag_kc kd)), (ag_f lo), (ag_f ah), (ag_f (ag_kn kd)), (ag_f (ag_ko kd)), (ag_f nt)) ((nI N), eb, (nI P), (nI K), (ag_f nm), (ag_f vr), sg, (ag_f oc), (ag_f fd), (ag_f fv), (ag_f nc), (ag_f kd), (ag_f lo), (ag_f ah), ae, (ag_f hs), tc) := fun ae => ag_R H
  obtain ⟨hN, hP, hK, hnm, hvr, hnv, hoc, hoz, hnc, hkd, hlo, hah, hns, hhs, hfd, hfv, hog⟩ := id H
  unfold wpX_revert wpY_revert
  rcases ag_ix v1 (n := K) (by omega) with hx | ⟨j, hj, rfl⟩
  · exact ag_Xgn_f hx (br_t rfl (br_c (fun _ => ⟨rfl, R ae⟩) (fun z => br_c (fun _ => ⟨rfl, R ae⟩) (fun y => absurd hx (fun w => w.elim z y)))))
  · refine ag_Xgn_t hK hj (br_f (by decide) ⟨pk_in j 8 (by omega), ?_⟩)
    rw [ag_at nt (by omega), hns j (by omega)]
    refine ag_Xchange (hs j) hK (br_f (nI_pos (by omega)) (br_f (nI_ge hj (by omega)) (br_t (nI_le (b := 8) (by omega) (by decide)) ⟨pk_in j 9 (by omega), ?_⟩)))
    rw [ag_at hs (by omega)]
    exact ag_Ychange (hs j) hK (ag_chg H (hhs j))
theorem i_vc_fail {k : Nat} {u : SX} {v : SY} (I : i_Rel k u v) (hk : k + 5 ≤ 2560) (v1 : Int32) (v2 : Int32) (v3 : Int32) : wpX_fail (fun r u' => wpY_fail (fun r' v' => r' = r ∧ i_Rel (k + 5) u' v') v v1 v2 v3) u v1 v2 v3 := by
  obtain ⟨N, P, K, eb, nm, vr, nv, oc, nc, kd, lo, ah, nt, fd, fv, hs, sg, tc, og, ae, rfl, rfl, H⟩ := I
  have R : ∀ ae : Nat → Int32, i_Rel (k + 5) ((nI N), eb, (nI P), (nI K), (ag_f nm), (ag_f vr), sg, tc, (ag_f nv), (ag_f oc), og, (ag_f nc), (ag_f (ag_kc kd)), (ag_f lo), (ag_f ah), (ag_f (ag_kn kd)), (ag_f (ag_ko kd)), (ag_f nt)) ((nI N), eb, (nI P), (nI K), (ag_f nm), (ag_f vr), sg, (ag_f oc), (ag_f fd), (ag_f fv), (ag_f nc), (ag_f kd), (ag_f lo), (ag_f ah), ae, (ag_f hs), tc) := fun ae => ag_R H
  obtain ⟨hN, hP, hK, hnm, hvr, hnv, hoc, hoz, hnc, hkd, hlo, hah, hns, hhs, hfd, hfv, hog⟩ := id H
  have hE := ag_pw hN
  unfold wpX_fail wpY_fail
  rcases ag_ix v1 (n := 2 ^ N) (by omega) with hx | ⟨w, hw, rfl⟩
  · exact ag_Xgs_f hN hx (br_t rfl (ag_Ybs_f hN hx (br_f (by decide) ⟨rfl, R ae⟩)))
  rcases ag_ix v2 (n := 2 ^ N) (by omega) with hx | ⟨b, hb, rfl⟩
  · exact ag_Xgs_t hN hw (br_f (by decide) (ag_Xgs_f hN hx (br_t rfl (ag_Ybs_t hN hw (br_t rfl (ag_Ybs_f hN hx (br_f (by decide) ⟨rfl, R ae⟩)))))))
  rcases ag_Bv (ok := ag_ok (ag_XS N eb nm sg og nc kd lo ah) (nI w) (nI b)) (ct := fun i => ag_XC N P eb nm vr nv og nc kd lo ah (nI i)) (2 ^ N) with e | ⟨j, hj, e⟩
  · refine ag_Xgs_t hN hw (br_f (by decide) (ag_Xgs_t hN hb (br_f (by decide) (ag_Xbest (nI w) (nI b) hN hnm hkd hlo hah hnc (br_t e ?_)))))
    refine ag_Ybs_t hN hw (br_t rfl (ag_Ybs_t hN hb (br_t rfl (ag_Ybest (nI w) (nI b) hN hnm hvr hoc hnc hkd hlo hah hfd hfv (fun ae' h' => ?_)))))
    rw [ag_best (nI w) (nI b) hP hN hnm hnv hnc hkd hah hog h', e]
    exact br_f (by decide) ⟨rfl, R ae'⟩
  · refine ag_Xgs_t hN hw (br_f (by decide) (ag_Xgs_t hN hb (br_f (by decide) (ag_Xbest (nI w) (nI b) hN hnm hkd hlo hah hnc ?_))))
    rw [e]
    have hz : ag_sz (nI P ^^^ nI j) ≤ 10 := ag_Cle _ 10
    have ex : nI j ^^^ nI P = nI P ^^^ nI j := Int32.xor_comm _ _
    by_cases h3 : v3 < 0
    · refine br_f (ag_ne2 (by omega)) (br_t h3 ?_)
      refine ag_Ybs_t hN hw (br_t rfl (ag_Ybs_t hN hb (br_t rfl (ag_Ybest (nI w) (nI b) hN hnm hvr hoc hnc hkd hlo hah hfd hfv (fun ae' h' => ?_)))))
      rw [ag_best (nI w) (nI b) hP hN hnm hnv hnc hkd hah hog h', e]
      exact br_t (nI_pos' (by omega)) (ag_Ysize _ (br_t h3 ⟨rfl, R ae'⟩))
    · obtain ⟨q, hq, rfl⟩ := nI_of h3
      by_cases hqs : q < ag_sz (nI P ^^^ nI j)
      · refine br_f (ag_ne2 (by omega)) (br_f h3 (ag_Xsize _ (br_t (nI_lt hqs (by omega)) (ag_Xtouch (nI j) q 2 (by omega) ?_))))
        refine ag_Ybs_t hN hw (br_t rfl (ag_Ybs_t hN hb (br_t rfl (ag_Ybest (nI w) (nI b) hN hnm hvr hoc hnc hkd hlo hah hfd hfv (fun ae' h' => ?_)))))
        rw [ag_best (nI w) (nI b) hP hN hnm hnv hnc hkd hah hog h', e]
        refine br_t (nI_pos' (by omega)) (ag_Ysize _ (br_f h3 (br_t ?_ (ag_Ystep (nI j) q 2 (by omega) ⟨rfl, ag_R H⟩))))
        rw [ex]
        exact nI_lt hqs (by omega)
      · refine br_f (ag_ne2 (by omega)) (br_f h3 (ag_Xsize _ (br_f (nI_nlt (by omega) hq) ?_)))
        refine ag_Ybs_t hN hw (br_t rfl (ag_Ybs_t hN hb (br_t rfl (ag_Ybest (nI w) (nI b) hN hnm hvr hoc hnc hkd hlo hah hfd hfv (fun ae' h' => ?_)))))
        rw [ag_best (nI w) (nI b) hP hN hnm hnv hnc hkd hah hog h', e]
        refine br_t (nI_pos' (by omega)) (ag_Ysize _ (br_f h3 (br_f ?_ ⟨rfl, R ae'⟩)))
        rw [ex]
        exact nI_nlt (by omega) hq
