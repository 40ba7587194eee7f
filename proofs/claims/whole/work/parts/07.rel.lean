/-! the relation, and the methods that read -/
def ag_I (N P K : Nat) (nm vr nv oc nc kd lo ah nt fd fv hs : Nat → Nat) (og : Nat → Int32) : Prop :=
  N ≤ 10 ∧ P < 2 ^ N ∧ K ≤ 8 ∧ (∀ j, nm j < 5) ∧ (∀ j, vr j ≤ 9) ∧ (∀ c, c < 5 → nv c = ag_mx nm vr c N) ∧ (∀ j, oc j ≤ 3) ∧ (∀ j, N ≤ j → oc j = 0) ∧ (∀ j, nc j ≤ 3) ∧ (∀ j, kd j < 64 ∧ kd j % 8 ≤ 5) ∧ (∀ j, lo j ≤ 9) ∧ (∀ j, ah j ≤ 9) ∧ (∀ j, j < 8 → nt j = hs j) ∧ (∀ j, hs j < 2 ^ N) ∧ (∀ j, fd j ≤ 5) ∧ (∀ j, fv j ≤ 9) ∧ ag_OG N oc fd fv og
/-- both hold the same units, counts, needs, notes and touches; the component's kinds are the reference's, taken apart; its offers are the reference's, as sets of units -/
def i_Rel (k : Nat) (u : SX) (v : SY) : Prop := ∃ (N P K : Nat) (eb : Int32) (nm vr nv oc nc kd lo ah nt fd fv hs : Nat → Nat) (sg tc og ae : Nat → Int32), u = ((nI N), eb, (nI P), (nI K), (ag_f nm), (ag_f vr), sg, tc, (ag_f nv), (ag_f oc), og, (ag_f nc), (ag_f (ag_kc kd)), (ag_f lo), (ag_f ah), (ag_f (ag_kn kd)), (ag_f (ag_ko kd)), (ag_f nt)) ∧ v = ((nI N), eb, (nI P), (nI K), (ag_f nm), (ag_f vr), sg, (ag_f oc), (ag_f fd), (ag_f fv), (ag_f nc), (ag_f kd), (ag_f lo), (ag_f ah), ae, (ag_f hs), tc) ∧ ag_I N P K nm vr nv oc nc kd lo ah nt fd fv hs og
theorem i_up {k : Nat} {u : SX} {v : SY} (h : i_Rel k u v) : i_Rel (k + 5) u v := h
theorem ag_R {k N P K : Nat} {eb : Int32} {nm vr nv oc nc kd lo ah nt fd fv hs : Nat → Nat} {sg tc og ae : Nat → Int32} (H : ag_I N P K nm vr nv oc nc kd lo ah nt fd fv hs og) : i_Rel k ((nI N), eb, (nI P), (nI K), (ag_f nm), (ag_f vr), sg, tc, (ag_f nv), (ag_f oc), og, (ag_f nc), (ag_f (ag_kc kd)), (ag_f lo), (ag_f ah), (ag_f (ag_kn kd)), (ag_f (ag_ko kd)), (ag_f nt)) ((nI N), eb, (nI P), (nI K), (ag_f nm), (ag_f vr), sg, (ag_f oc), (ag_f fd), (ag_f fv), (ag_f nc), (ag_f kd), (ag_f lo), (ag_f ah), ae, (ag_f hs), tc) := ⟨N, P, K, eb, nm, vr, nv, oc, nc, kd, lo, ah, nt, fd, fv, hs, sg, tc, og, ae, rfl, rfl, H⟩
theorem i_vc0 : wpX_init (fun u => wpY_init (fun v => i_Rel 0 u v)) := by
  have c1 : ag_f (ag_kc fun _ => 0) = fun _ => 0 := funext fun _ => nI_0
  have c2 : ag_f (ag_kn fun _ => 0) = fun _ => 0 := funext fun _ => by show nI (0 / 8 % 4) = 0; decide
  have c3 : ag_f (ag_ko fun _ => 0) = fun _ => 0 := funext fun _ => by show nI (0 / 32) = 0; decide
  refine ⟨0, 0, 0, 0, fun _ => 0, fun _ => 0, fun _ => 0, fun _ => 0, fun _ => 0, fun _ => 0, fun _ => 0, fun _ => 0, fun _ => 0, fun _ => 0, fun _ => 0, fun _ => 0, fun _ => 0, fun _ => 0, fun _ => 0, fun _ => 0, by rw [ag_f0, c1, c2, c3, nI_0], by rw [ag_f0, nI_0], ?_⟩
  refine ⟨by decide, by decide, by decide, fun _ => Nat.zero_lt_succ 4, fun _ => Nat.zero_le 9, fun _ _ => rfl, fun _ => Nat.zero_le 3, fun _ _ => rfl, fun _ => Nat.zero_le 3, fun _ => by show 0 < 64 ∧ 0 % 8 ≤ 5; decide, fun _ => Nat.zero_le 9, fun _ => Nat.zero_le 9, fun _ _ => rfl, fun _ => by show 0 < 2 ^ 0; decide, fun _ => Nat.zero_le 5, fun _ => Nat.zero_le 9, fun c v hc hv b hb => ?_⟩
  exact ⟨fun z => absurd ((b_0 b).symm.trans z) (by decide), fun z => absurd z.1 (by omega)⟩
theorem ag_ix (x : Int32) {n : Nat} (hn : n < 2 ^ 31) : (x < 0 ∨ nI n ≤ x) ∨ ∃ j : Nat, j < n ∧ x = nI j := by
  rcases pk_ix x hn with h | h | h
  · exact Or.inl (Or.inl h)
  · exact Or.inl (Or.inr h)
  · exact Or.inr h
theorem ag_ge {x : Int32} {l : Nat} (hl : l < 2 ^ 31) (h : ¬ x < nI l) : ∃ b : Nat, l ≤ b ∧ b < 2 ^ 31 ∧ x = nI b := by
  by_cases h0 : x < 0
  · exact absurd (Int32.lt_of_lt_of_le h0 (nI_pos' hl)) h
  · obtain ⟨b, hb, rfl⟩ := nI_of h0
    rw [nI_ltI hb hl] at h
    exact ⟨b, by omega, hb, rfl⟩
theorem ag_ne2 {j : Nat} (hj : j < 2 ^ 31) : ¬ nI j = -2 := fun z => nI_pos hj (by rw [z]; decide)
theorem i_vc_environment {k : Nat} {u : SX} {v : SY} (I : i_Rel k u v) (hk : k + 5 ≤ 2560) (v1 : Int32) : wpX_environment (fun r u' => wpY_environment (fun r' v' => r' = r ∧ i_Rel (k + 5) u' v') v v1) u v1 := by
  obtain ⟨N, P, K, eb, nm, vr, nv, oc, nc, kd, lo, ah, nt, fd, fv, hs, sg, tc, og, ae, rfl, rfl, H⟩ := I
  by_cases h0 : v1 < 0
  · exact br_t h0 (br_t h0 ⟨rfl, ag_R H⟩)
  · by_cases h7 : v1 ≤ 7
    · exact br_f h0 (br_t h7 (br_f h0 (br_t h7 ⟨rfl, ag_R H⟩)))
    · exact br_f h0 (br_f h7 (br_f h0 (br_f h7 ⟨rfl, ag_R H⟩)))
theorem i_vc_units {k : Nat} {u : SX} {v : SY} (I : i_Rel k u v) (hk : k + 5 ≤ 2560) : wpX_units (fun r => wpY_units (fun r' => r' = r ∧ i_Rel (k + 5) u v) v) u := by
  obtain ⟨N, P, K, eb, nm, vr, nv, oc, nc, kd, lo, ah, nt, fd, fv, hs, sg, tc, og, ae, rfl, rfl, H⟩ := I
  exact ⟨rfl, ag_R H⟩
theorem i_vc_profile {k : Nat} {u : SX} {v : SY} (I : i_Rel k u v) (hk : k + 5 ≤ 2560) : wpX_profile (fun r => wpY_profile (fun r' => r' = r ∧ i_Rel (k + 5) u v) v) u := by
  obtain ⟨N, P, K, eb, nm, vr, nv, oc, nc, kd, lo, ah, nt, fd, fv, hs, sg, tc, og, ae, rfl, rfl, H⟩ := I
  exact ⟨rfl, ag_R H⟩
theorem i_vc_notes {k : Nat} {u : SX} {v : SY} (I : i_Rel k u v) (hk : k + 5 ≤ 2560) : wpX_notes (fun r => wpY_notes (fun r' => r' = r ∧ i_Rel (k + 5) u v) v) u := by
  obtain ⟨N, P, K, eb, nm, vr, nv, oc, nc, kd, lo, ah, nt, fd, fv, hs, sg, tc, og, ae, rfl, rfl, H⟩ := I
  exact ⟨rfl, ag_R H⟩
theorem i_vc_note {k : Nat} {u : SX} {v : SY} (I : i_Rel k u v) (hk : k + 5 ≤ 2560) (v1 : Int32) : wpX_note (fun r => wpY_note (fun r' => r' = r ∧ i_Rel (k + 5) u v) v v1) u v1 := by
  obtain ⟨N, P, K, eb, nm, vr, nv, oc, nc, kd, lo, ah, nt, fd, fv, hs, sg, tc, og, ae, rfl, rfl, H⟩ := I
  have R : ∀ ae : Nat → Int32, i_Rel (k + 5) ((nI N), eb, (nI P), (nI K), (ag_f nm), (ag_f vr), sg, tc, (ag_f nv), (ag_f oc), og, (ag_f nc), (ag_f (ag_kc kd)), (ag_f lo), (ag_f ah), (ag_f (ag_kn kd)), (ag_f (ag_ko kd)), (ag_f nt)) ((nI N), eb, (nI P), (nI K), (ag_f nm), (ag_f vr), sg, (ag_f oc), (ag_f fd), (ag_f fv), (ag_f nc), (ag_f kd), (ag_f lo), (ag_f ah), ae, (ag_f hs), tc) := fun ae => ag_R H
  obtain ⟨hN, hP, hK, hnm, hvr, hnv, hoc, hoz, hnc, hkd, hlo, hah, hns, hhs, hfd, hfv, hog⟩ := id H
  unfold wpX_note wpY_note
  rcases ag_ix v1 (n := K) (by omega) with hx | ⟨j, hj, rfl⟩
  · exact ag_Xgn_f hx (br_t rfl (br_c (fun _ => ⟨rfl, R ae⟩) (fun z => br_c (fun _ => ⟨rfl, R ae⟩) (fun y => absurd hx (fun w => w.elim z y)))))
  · refine ag_Xgn_t hK hj (br_f (by decide) ⟨pk_in j 8 (by omega), br_f (nI_pos (by omega)) (br_f (nI_ge hj (by omega)) (br_t (nI_le (b := 8) (by omega) (by decide)) ⟨pk_in j 9 (by omega), ?_, R ae⟩))⟩)
    rw [ag_at nt (by omega), ag_at hs (by omega), hns j (by omega)]
theorem i_vc_touched {k : Nat} {u : SX} {v : SY} (I : i_Rel k u v) (hk : k + 5 ≤ 2560) (v1 : Int32) : wpX_touched (fun r => wpY_touched (fun r' => r' = r ∧ i_Rel (k + 5) u v) v v1) u v1 := by
  obtain ⟨N, P, K, eb, nm, vr, nv, oc, nc, kd, lo, ah, nt, fd, fv, hs, sg, tc, og, ae, rfl, rfl, H⟩ := I
  have R : ∀ ae : Nat → Int32, i_Rel (k + 5) ((nI N), eb, (nI P), (nI K), (ag_f nm), (ag_f vr), sg, tc, (ag_f nv), (ag_f oc), og, (ag_f nc), (ag_f (ag_kc kd)), (ag_f lo), (ag_f ah), (ag_f (ag_kn kd)), (ag_f (ag_ko kd)), (ag_f nt)) ((nI N), eb, (nI P), (nI K), (ag_f nm), (ag_f vr), sg, (ag_f oc), (ag_f fd), (ag_f fv), (ag_f nc), (ag_f kd), (ag_f lo), (ag_f ah), ae, (ag_f hs), tc) := fun ae => ag_R H
  obtain ⟨hN, hP, hK, hnm, hvr, hnv, hoc, hoz, hnc, hkd, hlo, hah, hns, hhs, hfd, hfv, hog⟩ := id H
  unfold wpX_touched wpY_touched
  rcases ag_ix v1 (n := N) (by omega) with hx | ⟨j, hj, rfl⟩
  · exact ag_Xgu_f hx (br_t rfl (ag_Ybu_f hx (br_f (by decide) ⟨rfl, R ae⟩)))
  · have hj10 : vp_in (nI j) 10 := pk_in j 10 (by omega)
    exact ag_Xgu_t hN hj (br_f (by decide) ⟨hj10, ag_Ybu_t hN hj (br_t rfl ⟨hj10, rfl, R ae⟩)⟩)
theorem i_vc_sound {k : Nat} {u : SX} {v : SY} (I : i_Rel k u v) (hk : k + 5 ≤ 2560) (v1 : Int32) : wpX_sound (fun r => wpY_sound (fun r' v' => r' = r ∧ i_Rel (k + 5) u v') v v1) u v1 := by
  obtain ⟨N, P, K, eb, nm, vr, nv, oc, nc, kd, lo, ah, nt, fd, fv, hs, sg, tc, og, ae, rfl, rfl, H⟩ := I
  have R : ∀ ae : Nat → Int32, i_Rel (k + 5) ((nI N), eb, (nI P), (nI K), (ag_f nm), (ag_f vr), sg, tc, (ag_f nv), (ag_f oc), og, (ag_f nc), (ag_f (ag_kc kd)), (ag_f lo), (ag_f ah), (ag_f (ag_kn kd)), (ag_f (ag_ko kd)), (ag_f nt)) ((nI N), eb, (nI P), (nI K), (ag_f nm), (ag_f vr), sg, (ag_f oc), (ag_f fd), (ag_f fv), (ag_f nc), (ag_f kd), (ag_f lo), (ag_f ah), ae, (ag_f hs), tc) := fun ae => ag_R H
  obtain ⟨hN, hP, hK, hnm, hvr, hnv, hoc, hoz, hnc, hkd, hlo, hah, hns, hhs, hfd, hfv, hog⟩ := id H
  have hE := ag_pw hN
  unfold wpX_sound wpY_sound
  rcases ag_ix v1 (n := 2 ^ N) (by omega) with hx | ⟨t, ht, rfl⟩
  · exact ag_Xgs_f hN hx (br_t rfl (ag_Ybs_f hN hx (br_f (by decide) ⟨rfl, R ae⟩)))
  · refine ag_Xgs_t hN ht (br_f (by decide) (ag_Xsound (nI t) hN hnm hkd hlo hah hnc (ag_br (fun h1 => ?_) (fun h1 => ?_))))
    · exact ag_Ybs_t hN ht (br_t rfl (ag_Ylook hN hoc hkd hlo hah hfd hfv (fun ae' h' => ag_Ysound (nI t) hN hnm hnc hkd (ag_br (fun h2 => ⟨rfl, R ae'⟩) (fun h2 => absurd ((ag_snd (nI t) hN hnc hkd hah hog h').mp h1) h2)))))
    · exact ag_Ybs_t hN ht (br_t rfl (ag_Ylook hN hoc hkd hlo hah hfd hfv (fun ae' h' => ag_Ysound (nI t) hN hnm hnc hkd (ag_br (fun h2 => absurd ((ag_snd (nI t) hN hnc hkd hah hog h').mpr h2) h1) (fun h2 => ⟨rfl, R ae'⟩)))))
theorem i_vc_cost {k : Nat} {u : SX} {v : SY} (I : i_Rel k u v) (hk : k + 5 ≤ 2560) (v1 : Int32) : wpX_cost (fun r => wpY_cost (fun r' v' => r' = r ∧ i_Rel (k + 5) u v') v v1) u v1 := by
  obtain ⟨N, P, K, eb, nm, vr, nv, oc, nc, kd, lo, ah, nt, fd, fv, hs, sg, tc, og, ae, rfl, rfl, H⟩ := I
  have R : ∀ ae : Nat → Int32, i_Rel (k + 5) ((nI N), eb, (nI P), (nI K), (ag_f nm), (ag_f vr), sg, tc, (ag_f nv), (ag_f oc), og, (ag_f nc), (ag_f (ag_kc kd)), (ag_f lo), (ag_f ah), (ag_f (ag_kn kd)), (ag_f (ag_ko kd)), (ag_f nt)) ((nI N), eb, (nI P), (nI K), (ag_f nm), (ag_f vr), sg, (ag_f oc), (ag_f fd), (ag_f fv), (ag_f nc), (ag_f kd), (ag_f lo), (ag_f ah), ae, (ag_f hs), tc) := fun ae => ag_R H
  obtain ⟨hN, hP, hK, hnm, hvr, hnv, hoc, hoz, hnc, hkd, hlo, hah, hns, hhs, hfd, hfv, hog⟩ := id H
  have hE := ag_pw hN
  unfold wpX_cost wpY_cost
  rcases ag_ix v1 (n := 2 ^ N) (by omega) with hx | ⟨t, ht, rfl⟩
  · exact ag_Xgs_f hN hx (br_t rfl (ag_Ybs_f hN hx (br_f (by decide) ⟨rfl, R ae⟩)))
  · refine ag_Xgs_t hN ht (br_f (by decide) (ag_Xcost (nI t) hN hnm hkd hlo hah hnc ?_))
    exact ag_Ybs_t hN ht (br_t rfl (ag_Ylook hN hoc hkd hlo hah hfd hfv (fun ae' h' => ag_Yprice (nI t) hN hnm hvr hnc hkd ⟨(ag_cst ht hP hN hnm hnv hnc hkd hah hog h').symm, R ae'⟩)))
