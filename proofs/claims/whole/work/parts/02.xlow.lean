/-! truth values counted; the component's small methods and inner loops -/
noncomputable def ag_n (p : Prop) : Nat := @ite Nat p (Classical.propDecidable p) 1 0
theorem ag_nt {p : Prop} (h : p) : ag_n p = 1 := by unfold ag_n; exact if_pos h
theorem ag_nf {p : Prop} (h : ¬ p) : ag_n p = 0 := by unfold ag_n; exact if_neg h
theorem ag_ni {p q : Prop} (h : p ↔ q) : ag_n p = ag_n q := by rw [propext h]
theorem ag_n1 (p : Prop) : ag_n p ≤ 1 := by
  by_cases h : p
  · rw [ag_nt h]; omega
  · rw [ag_nf h]; omega
theorem ag_vn (p : Prop) : ag_v p = nI (ag_n p) := by
  by_cases h : p
  · rw [ag_vt h, ag_nt h]; rfl
  · rw [ag_vf h, ag_nf h]; rfl
noncomputable def ag_C (q : Nat → Prop) : Nat → Nat
  | 0 => 0
  | n + 1 => ag_C q n + ag_n (q n)
theorem ag_Cle (q : Nat → Prop) : ∀ n, ag_C q n ≤ n := by
  intro n
  induction n with
  | zero => exact Nat.le_refl 0
  | succ n ih =>
    have := ag_n1 (q n)
    show ag_C q n + ag_n (q n) ≤ n + 1
    omega
theorem ag_C0 (q : Nat → Prop) : ∀ n, ag_C q n = 0 ↔ ∀ k, k < n → ¬ q k := by
  intro n
  induction n with
  | zero => exact ⟨fun _ k hk => absurd hk (by omega), fun _ => rfl⟩
  | succ n ih =>
    show ag_C q n + ag_n (q n) = 0 ↔ _
    constructor
    · intro h k hk hq
      by_cases e : k = n
      · rw [e] at hq
        rw [ag_nt hq] at h
        omega
      · exact ih.mp (by omega) k (by omega) hq
    · intro h
      rw [ih.mpr (fun k hk => h k (by omega)), ag_nf (h n (by omega))]
theorem ag_SC (q : Nat → Prop) : ∀ n, ag_S (fun u => ag_v (q u)) n = nI (ag_C q n) := by
  intro n
  induction n with
  | zero => rfl
  | succ n ih =>
    show ag_S (fun u => ag_v (q u)) n + ag_v (q n) = nI (ag_C q n + ag_n (q n))
    rw [ih, ag_vn, nI_add]
section
variable {N P K : Nat} {eb : Int32} {nm vr nv oc nc kd lo ah nt fd fv hs : Nat → Nat} {sg tc og ae : Nat → Int32}
theorem ag_Xholds {post : Int32 → Prop} (x : Int32) {u : Nat} (hu : u < 31) (h : post (ag_v (bt x u = true))) : wpX_holds post x (nI u) := by
  by_cases hb : bt x u = true
  · rw [ag_vt hb] at h
    exact br_t ((ag_hold x hu).mpr hb) h
  · rw [ag_vf hb] at h
    exact br_f (fun z => hb ((ag_hold x hu).mp z)) h
theorem ag_Yin {post : Int32 → Prop} (v : SY) (x : Int32) {u : Nat} (hu : u < 31) (h : post (ag_v (bt x u = true))) : wpY_in post v x (nI u) := by
  obtain ⟨a1, a2, a3, a4, a5, a6, a7, a8, a9, a10, a11, a12, a13, a14, a15, a16, a17⟩ := v
  by_cases hb : bt x u = true
  · rw [ag_vt hb] at h
    exact br_t ((ag_hold x hu).mpr hb) h
  · rw [ag_vf hb] at h
    exact br_f (fun z => hb ((ag_hold x hu).mp z)) h
noncomputable def ag_sz (x : Int32) : Nat := ag_C (fun u => bt x u = true) 10
theorem ag_Xsize_go {post : Int32 → Prop} (x : Int32) (h : post (nI (ag_sz x))) : ∀ d i : Nat, i + d = 10 → wX_sizeOf_4 post x (d + 1) (nI (ag_C (fun u => bt x u = true) i)) (nI i) := by
  intro d
  induction d with
  | zero =>
    intro i hi
    obtain rfl : i = 10 := by omega
    exact br_t (nI_le (a := 10) (b := 10) (by omega) (by omega)) h
  | succ d ih =>
    intro i hi
    exact br_f (nI_ge (b := 10) (by omega) (by decide)) (nm_r (by rw [ag_bit x (by omega), ag_vn, nI_add]; rfl) (nm_r (nI_1 i) (ih (i + 1) (by omega))))
theorem ag_Xsize {post : Int32 → Prop} (x : Int32) (h : post (nI (ag_sz x))) : wpX_sizeOf post x := ⟨11, ag_Xsize_go x h 10 0 rfl⟩
theorem ag_Ysize_go {post : Int32 → Prop} (x : Int32) (h : post (nI (ag_sz x))) : ∀ d i : Nat, i + d = 10 → wY_size_4 post x (nI N) eb (nI P) (nI K) (ag_f nm) (ag_f vr) sg (ag_f oc) (ag_f fd) (ag_f fv) (ag_f nc) (ag_f kd) (ag_f lo) (ag_f ah) ae (ag_f hs) tc (d + 1) (nI (ag_C (fun u => bt x u = true) i)) (nI i) := by
  intro d
  induction d with
  | zero =>
    intro i hi
    obtain rfl : i = 10 := by omega
    exact br_t (nI_le (a := 10) (b := 10) (by omega) (by omega)) h
  | succ d ih =>
    intro i hi
    exact br_f (nI_ge (b := 10) (by omega) (by decide)) (nm_r (by rw [ag_bit x (by omega), ag_vn, nI_add]; rfl) (nm_r (nI_1 i) (ih (i + 1) (by omega))))
theorem ag_Ysize {post : Int32 → Prop} (x : Int32) (h : post (nI (ag_sz x))) : wpY_size post ((nI N), eb, (nI P), (nI K), (ag_f nm), (ag_f vr), sg, (ag_f oc), (ag_f fd), (ag_f fv), (ag_f nc), (ag_f kd), (ag_f lo), (ag_f ah), ae, (ag_f hs), tc) x := ⟨11, ag_Ysize_go x h 10 0 rfl⟩
def ag_RV (N : Nat) (nm : Nat → Nat) (sg : Nat → Int32) (s : Int32) (u : Nat) : Prop := ∃ w, u < w ∧ w < N ∧ bt s w = true ∧ nm w = nm u ∧ ¬ (sg w = 0 ∧ sg u = 0)
theorem ag_Xrival_go {post : Int32 → Prop} (s : Int32) {u : Nat} (hu : u < N) (hN : N ≤ 10) (hnm : ∀ j, nm j < 5) (h : post (ag_v (ag_RV N nm sg s u))) : ∀ d i : Nat, i + d = N → u < i → (∀ w, u < w → w < i → ¬ (bt s w = true ∧ nm w = nm u ∧ ¬ (sg w = 0 ∧ sg u = 0))) → wX_hasRival_4 post s (nI u) (nI N) eb (nI P) (nI K) (ag_f nm) (ag_f vr) sg tc (ag_f nv) (ag_f oc) og (ag_f nc) (ag_f (ag_kc kd)) (ag_f lo) (ag_f ah) (ag_f (ag_kn kd)) (ag_f (ag_ko kd)) (ag_f nt) (d + 1) (nI i) := by
  intro d
  induction d with
  | zero =>
    intro i hi hui hl
    refine br_t (nI_le (by omega) (by omega)) ?_
    exact ag_pf post h (fun ⟨w, h1, h2, h3, h4, h5⟩ => hl w h1 (by omega) ⟨h3, h4, h5⟩)
  | succ d ih =>
    intro i hi hui hl
    have n1 := hnm i
    have n2 := hnm u
    have step : ¬ (bt s i = true ∧ nm i = nm u ∧ ¬ (sg i = 0 ∧ sg u = 0)) → wX_hasRival_4 post s (nI u) (nI N) eb (nI P) (nI K) (ag_f nm) (ag_f vr) sg tc (ag_f nv) (ag_f oc) og (ag_f nc) (ag_f (ag_kc kd)) (ag_f lo) (ag_f ah) (ag_f (ag_kn kd)) (ag_f (ag_ko kd)) (ag_f nt) (d + 1) (nI (i + 1)) := fun hn => ih (i + 1) (by omega) (by omega) (fun w h1 h2 => by
      by_cases e : w = i
      · rw [e]; exact hn
      · exact hl w h1 (by omega))
    have found : bt s i = true → nm i = nm u → ¬ (sg i = 0 ∧ sg u = 0) → post 1 := fun a b c => by
      exact ag_pt post h ⟨i, hui, by omega, a, b, c⟩
    have hi10 : vp_in (nI i) 10 := pk_in i 10 (by omega)
    have hu10 : vp_in (nI u) 10 := pk_in u 10 (by omega)
    refine br_f (nI_ge (by omega) (by omega)) (ag_Xholds s (by omega) (ag_br (fun hb => ⟨hi10, hu10, ?_⟩) (fun hb => nm_r (nI_1 i) (step fun z => hb z.1))))
    refine pk_eq (nm i) (nm u) (fun e => ⟨hi10, ?_⟩) (fun e => nm_r (nI_1 i) (step fun z => e z.2.1)) (ag_at nm (by omega)) (ag_at nm (by omega))
    rw [nI_clamp (n := i) (by omega), nI_clamp (n := u) (by omega)]
    exact br_c (fun z1 => ⟨hu10, br_c (fun z2 => nm_r (nI_1 i) (step fun z => z.2.2 ⟨z1, z2⟩)) (fun z2 => found hb e (fun z => z2 z.2))⟩) (fun z1 => found hb e (fun z => z1 z.1))
theorem ag_Xrival {post : Int32 → Prop} (s : Int32) {u : Nat} (hu : u < N) (hN : N ≤ 10) (hnm : ∀ j, nm j < 5) (h : post (ag_v (ag_RV N nm sg s u))) : wpX_hasRival post ((nI N), eb, (nI P), (nI K), (ag_f nm), (ag_f vr), sg, tc, (ag_f nv), (ag_f oc), og, (ag_f nc), (ag_f (ag_kc kd)), (ag_f lo), (ag_f ah), (ag_f (ag_kn kd)), (ag_f (ag_ko kd)), (ag_f nt)) s (nI u) := by
  unfold wpX_hasRival
  exact nm_r (nI_1 u) ⟨_, ag_Xrival_go s hu hN hnm h (N - (u + 1)) (u + 1) (by omega) (by omega) (fun w h1 h2 => absurd h1 (by omega))⟩
theorem ag_ap {post : Int32 → Prop} {c : Nat} (hc : c < 4) (h : post (ag_v (c = 0 ∨ bt eb (c - 1) = true))) : (nI c = 0 → post 1) ∧ (¬ nI c = 0 → ((((eb >>> ((nI c - 1) &&& 31)) &&& 1) = 1 → post 1) ∧ (¬ ((eb >>> ((nI c - 1) &&& 31)) &&& 1) = 1 → post 0))) := by
  cases c with
  | zero =>
    exact br_t nI_0 (ag_pt post h (Or.inl rfl))
  | succ c =>
    refine br_f (nI_ne0 (by omega) (by omega)) ?_
    rw [nI_pred]
    by_cases hb : bt eb c = true
    · exact br_t ((ag_hold eb (by omega)).mpr hb) (ag_pt post h (Or.inr hb))
    · exact br_f (fun z => hb ((ag_hold eb (by omega)).mp z)) (ag_pf post h (fun z => z.elim (fun z => absurd z (by omega)) hb))
def ag_AP (eb : Int32) (kd : Nat → Nat) (i : Nat) : Prop := ag_kn kd i = 0 ∨ bt eb (ag_kn kd i - 1) = true
theorem ag_kn4 (i : Nat) : ag_kn kd i < 4 := Nat.mod_lt _ (by decide)
theorem ag_Xapplies {post : Int32 → Prop} {i : Nat} (hi30 : i < 30) (h : post (ag_v (ag_AP eb kd i))) : wpX_applies post ((nI N), eb, (nI P), (nI K), (ag_f nm), (ag_f vr), sg, tc, (ag_f nv), (ag_f oc), og, (ag_f nc), (ag_f (ag_kc kd)), (ag_f lo), (ag_f ah), (ag_f (ag_kn kd)), (ag_f (ag_ko kd)), (ag_f nt)) (nI i) := by
  unfold wpX_applies
  exact ⟨pk_in i 30 hi30, nm_r (ag_at (ag_kn kd) (by omega)) (ag_ap (ag_kn4 i) h)⟩
def ag_MX (og : Nat → Int32) (kd lo ah : Nat → Nat) (s : Int32) (i : Nat) : Prop := ∃ v, lo i ≤ v ∧ v ≤ ah i ∧ ¬ (og (ag_kc kd i * 10 + v) &&& s) = 0
theorem ag_Xmet_go {post : Int32 → Prop} (s : Int32) {i : Nat} (hi30 : i < 30) (hkd : ag_kc kd i ≤ 5) (hhi : ah i ≤ 9) (h : post (ag_v (ag_MX og kd lo ah s i))) : ∀ d v : Nat, ah i < v + d → v < 20 → (∀ w, lo i ≤ w → w < v → (og (ag_kc kd i * 10 + w) &&& s) = 0) → lo i ≤ v → wX_isMet_18 post s (nI i) (nI (ag_kc kd i * 10)) (nI N) eb (nI P) (nI K) (ag_f nm) (ag_f vr) sg tc (ag_f nv) (ag_f oc) og (ag_f nc) (ag_f (ag_kc kd)) (ag_f lo) (ag_f ah) (ag_f (ag_kn kd)) (ag_f (ag_ko kd)) (ag_f nt) (d + 1) (nI v) := by
  intro d
  induction d with
  | zero =>
    intro v hv h20 hl hlo
    refine ⟨pk_in i 30 hi30, pk_lt (ah i) v (fun e => ?_) (fun e => absurd hv (by omega)) (ag_at ah (by omega)) rfl⟩
    exact ag_pf post h (fun ⟨w, h1, h2, h3⟩ => h3 (hl w h1 (by omega)))
  | succ d ih =>
    intro v hv h20 hl hlo
    refine ⟨pk_in i 30 hi30, pk_lt (ah i) v (fun e => ?_) (fun e => ?_) (ag_at ah (by omega)) rfl⟩
    · exact ag_pf post h (fun ⟨w, h1, h2, h3⟩ => h3 (hl w h1 (by omega)))
    · rw [nI_add]
      refine ⟨pk_in (ag_kc kd i * 10 + v) 60 (by omega), ?_⟩
      rw [nI_clamp (by omega)]
      refine br_c (fun z => nm_r (nI_1 v) (ih (v + 1) (by omega) (by omega) (fun w h1 h2 => ?_) (by omega))) (fun z => ?_)
      · by_cases ew : w = v
        · rw [ew]; exact z
        · exact hl w h1 (by omega)
      · exact ag_pt post h ⟨v, hlo, e, z⟩
theorem ag_Xmet {post : Int32 → Prop} (s : Int32) {i : Nat} (hi30 : i < 30) (hkd : ∀ j, kd j < 64 ∧ kd j % 8 ≤ 5) (hlo : ∀ j, lo j ≤ 9) (hhi : ∀ j, ah j ≤ 9) (h : post (ag_v (ag_MX og kd lo ah s i))) : wpX_isMet post ((nI N), eb, (nI P), (nI K), (ag_f nm), (ag_f vr), sg, tc, (ag_f nv), (ag_f oc), og, (ag_f nc), (ag_f (ag_kc kd)), (ag_f lo), (ag_f ah), (ag_f (ag_kn kd)), (ag_f (ag_ko kd)), (ag_f nt)) s (nI i) := by
  unfold wpX_isMet
  have h1 := (hkd i).2
  have h2 := hlo i
  have h3 := hhi i
  exact ⟨pk_in i 30 hi30, nm_r (by rw [ag_at (ag_kc kd) (by omega)]; exact pk_mul _ 10) ⟨pk_in i 30 hi30, nm_r (ag_at lo (by omega)) ⟨11, ag_Xmet_go s hi30 h1 h3 h 10 (lo i) (by omega) (by omega) (fun w a b => absurd a (by omega)) (Nat.le_refl _)⟩⟩⟩
/-- a place's need of the asked sort applies and isn't met -/
def ag_Q (eb : Int32) (og : Nat → Int32) (kd lo ah : Nat → Nat) (s : Int32) (o p : Nat) : Prop := ag_ko kd p = o ∧ ag_AP eb kd p ∧ ¬ ag_MX og kd lo ah s p
theorem ag_Xcount_go {post : Int32 → Prop} (s : Int32) {u o : Nat} (hu : u < 10) (ho : o < 2) (hkd : ∀ j, kd j < 64 ∧ kd j % 8 ≤ 5) (hlo : ∀ j, lo j ≤ 9) (hhi : ∀ j, ah j ≤ 9) (hnc : nc u ≤ 3) (h : post (nI (ag_C (fun k => ag_Q eb og kd lo ah s o (3 * u + k)) (nc u)))) : ∀ d k : Nat, k + d = nc u → wX_countUnmet_6 post s (nI u) (nI o) (nI N) eb (nI P) (nI K) (ag_f nm) (ag_f vr) sg tc (ag_f nv) (ag_f oc) og (ag_f nc) (ag_f (ag_kc kd)) (ag_f lo) (ag_f ah) (ag_f (ag_kn kd)) (ag_f (ag_ko kd)) (ag_f nt) (d + 1) (nI (ag_C (fun k => ag_Q eb og kd lo ah s o (3 * u + k)) k)) (nI k) := by
  intro d
  induction d with
  | zero =>
    intro k hk
    obtain rfl : k = nc u := by omega
    exact ⟨pk_in u 10 hu, pk_le (nc u) (nc u) (fun _ => h) (fun e => absurd e (by omega)) (ag_at nc (by omega)) rfl⟩
  | succ d ih =>
    intro k hk
    have hp : nI u * 3 + nI k = nI (3 * u + k) := by
      rw [show nI u * 3 = nI (u * 3) from pk_mul u 3, nI_add, Nat.mul_comm]
    have keep : ¬ ag_Q eb og kd lo ah s o (3 * u + k) → wX_countUnmet_6 post s (nI u) (nI o) (nI N) eb (nI P) (nI K) (ag_f nm) (ag_f vr) sg tc (ag_f nv) (ag_f oc) og (ag_f nc) (ag_f (ag_kc kd)) (ag_f lo) (ag_f ah) (ag_f (ag_kn kd)) (ag_f (ag_ko kd)) (ag_f nt) (d + 1) (nI (ag_C (fun k => ag_Q eb og kd lo ah s o (3 * u + k)) k)) (nI (k + 1)) := fun hn => by
      have e : ag_C (fun k => ag_Q eb og kd lo ah s o (3 * u + k)) (k + 1) = ag_C (fun k => ag_Q eb og kd lo ah s o (3 * u + k)) k := by
        show ag_C (fun k => ag_Q eb og kd lo ah s o (3 * u + k)) k + ag_n (ag_Q eb og kd lo ah s o (3 * u + k)) = _
        rw [ag_nf hn, Nat.add_zero]
      rw [← e]
      exact ih (k + 1) (by omega)
    have more : ag_Q eb og kd lo ah s o (3 * u + k) → wX_countUnmet_6 post s (nI u) (nI o) (nI N) eb (nI P) (nI K) (ag_f nm) (ag_f vr) sg tc (ag_f nv) (ag_f oc) og (ag_f nc) (ag_f (ag_kc kd)) (ag_f lo) (ag_f ah) (ag_f (ag_kn kd)) (ag_f (ag_ko kd)) (ag_f nt) (d + 1) (nI (ag_C (fun k => ag_Q eb og kd lo ah s o (3 * u + k)) k + 1)) (nI (k + 1)) := fun hn => by
      have e : ag_C (fun k => ag_Q eb og kd lo ah s o (3 * u + k)) (k + 1) = ag_C (fun k => ag_Q eb og kd lo ah s o (3 * u + k)) k + 1 := by
        show ag_C (fun k => ag_Q eb og kd lo ah s o (3 * u + k)) k + ag_n (ag_Q eb og kd lo ah s o (3 * u + k)) = _
        rw [ag_nt hn]
      rw [← e]
      exact ih (k + 1) (by omega)
    have hp30 : 3 * u + k < 30 := by omega
    have hko : ag_ko kd (3 * u + k) < 2 ^ 31 := by
      have := (hkd (3 * u + k)).1
      unfold ag_ko
      omega
    refine ⟨pk_in u 10 hu, pk_le (nc u) k (fun e => absurd e (by omega)) (fun _ => nm_r hp ⟨pk_in _ 30 hp30, ?_⟩) (ag_at nc (by omega)) rfl⟩
    refine pk_eq (ag_ko kd (3 * u + k)) o (fun e => ?_) (fun e => nm_r (nI_1 k) (keep fun z => e z.1)) (ag_at (ag_ko kd) (by omega)) rfl hko
    refine ag_Xapplies hp30 (ag_br (fun ha => ?_) (fun ha => nm_r (nI_1 k) (keep fun z => ha z.2.1)))
    exact ag_Xmet s hp30 hkd hlo hhi (ag_br (fun hm => nm_r (nI_1 k) (keep fun z => z.2.2 hm)) (fun hm => nm_r (nI_1 _) (nm_r (nI_1 k) (more ⟨e, ha, hm⟩))))
theorem ag_Xcount {post : Int32 → Prop} (s : Int32) {u o : Nat} (hu : u < 10) (ho : o < 2) (hkd : ∀ j, kd j < 64 ∧ kd j % 8 ≤ 5) (hlo : ∀ j, lo j ≤ 9) (hhi : ∀ j, ah j ≤ 9) (hnc : nc u ≤ 3) (h : post (nI (ag_C (fun k => ag_Q eb og kd lo ah s o (3 * u + k)) (nc u)))) : wpX_countUnmet post ((nI N), eb, (nI P), (nI K), (ag_f nm), (ag_f vr), sg, tc, (ag_f nv), (ag_f oc), og, (ag_f nc), (ag_f (ag_kc kd)), (ag_f lo), (ag_f ah), (ag_f (ag_kn kd)), (ag_f (ag_ko kd)), (ag_f nt)) s (nI u) (nI o) := by
  unfold wpX_countUnmet
  exact ⟨_, ag_Xcount_go s hu ho hkd hlo hhi hnc h (nc u) 0 (by omega)⟩
/-- the component's soundness -/
def ag_XS (N : Nat) (eb : Int32) (nm : Nat → Nat) (sg og : Nat → Int32) (nc kd lo ah : Nat → Nat) (s : Int32) : Prop := ∀ u, u < N → bt s u = true → ¬ ag_RV N nm sg s u ∧ ∀ k, k < nc u → ¬ ag_Q eb og kd lo ah s 0 (3 * u + k)
theorem ag_Xsound_go {post : Int32 → Prop} (s : Int32) (hN : N ≤ 10) (hnm : ∀ j, nm j < 5) (hkd : ∀ j, kd j < 64 ∧ kd j % 8 ≤ 5) (hlo : ∀ j, lo j ≤ 9) (hhi : ∀ j, ah j ≤ 9) (hnc : ∀ j, nc j ≤ 3) (h : post (ag_v (ag_XS N eb nm sg og nc kd lo ah s))) : ∀ d i : Nat, i + d = N → (∀ u, u < i → bt s u = true → ¬ ag_RV N nm sg s u ∧ ∀ k, k < nc u → ¬ ag_Q eb og kd lo ah s 0 (3 * u + k)) → wX_isSound_2 post s (nI N) eb (nI P) (nI K) (ag_f nm) (ag_f vr) sg tc (ag_f nv) (ag_f oc) og (ag_f nc) (ag_f (ag_kc kd)) (ag_f lo) (ag_f ah) (ag_f (ag_kn kd)) (ag_f (ag_ko kd)) (ag_f nt) (d + 1) (nI i) := by
  intro d
  induction d with
  | zero =>
    intro i hi hl
    obtain rfl : i = N := by omega
    refine br_t (nI_le (by omega) (by omega)) ?_
    exact ag_pt post h hl
  | succ d ih =>
    intro i hi hl
    have step : (bt s i = true → ¬ ag_RV N nm sg s i ∧ ∀ k, k < nc i → ¬ ag_Q eb og kd lo ah s 0 (3 * i + k)) → wX_isSound_2 post s (nI N) eb (nI P) (nI K) (ag_f nm) (ag_f vr) sg tc (ag_f nv) (ag_f oc) og (ag_f nc) (ag_f (ag_kc kd)) (ag_f lo) (ag_f ah) (ag_f (ag_kn kd)) (ag_f (ag_ko kd)) (ag_f nt) (d + 1) (nI (i + 1)) := fun hn => ih (i + 1) (by omega) (fun u hu => by
      by_cases e : u = i
      · rw [e]; exact hn
      · exact hl u (by omega))
    have bad : bt s i = true → ¬ (¬ ag_RV N nm sg s i ∧ ∀ k, k < nc i → ¬ ag_Q eb og kd lo ah s 0 (3 * i + k)) → post 0 := fun hb hn => by
      exact ag_pf post h (fun z => hn (z i (by omega) hb))
    refine br_f (nI_ge (by omega) (by omega)) (ag_Xholds s (by omega) (ag_br (fun hb => ?_) (fun hb => nm_r (nI_1 i) (step fun z => absurd z hb))))
    refine ag_Xrival s (by omega) hN hnm (ag_br (fun hr => bad hb (fun z => z.1 hr)) (fun hr => ?_))
    have hc := ag_Cle (fun k => ag_Q eb og kd lo ah s 0 (3 * i + k)) (nc i)
    have hn3 := hnc i
    refine ag_Xcount (o := 0) s (by omega) (by omega) hkd hlo hhi (hnc i) ?_
    refine pk_le (ag_C (fun k => ag_Q eb og kd lo ah s 0 (3 * i + k)) (nc i)) 0 (fun z => nm_r (nI_1 i) (step fun _ => ⟨hr, (ag_C0 _ _).mp (by omega)⟩)) (fun z => bad hb (fun y => ?_)) rfl rfl
    have := (ag_C0 _ _).mpr y.2
    omega
theorem ag_Xsound {post : Int32 → Prop} (s : Int32) (hN : N ≤ 10) (hnm : ∀ j, nm j < 5) (hkd : ∀ j, kd j < 64 ∧ kd j % 8 ≤ 5) (hlo : ∀ j, lo j ≤ 9) (hhi : ∀ j, ah j ≤ 9) (hnc : ∀ j, nc j ≤ 3) (h : post (ag_v (ag_XS N eb nm sg og nc kd lo ah s))) : wpX_isSound post ((nI N), eb, (nI P), (nI K), (ag_f nm), (ag_f vr), sg, tc, (ag_f nv), (ag_f oc), og, (ag_f nc), (ag_f (ag_kc kd)), (ag_f lo), (ag_f ah), (ag_f (ag_kn kd)), (ag_f (ag_ko kd)), (ag_f nt)) s := by
  unfold wpX_isSound
  exact ⟨_, ag_Xsound_go s hN hnm hkd hlo hhi hnc h N 0 (by omega) (fun u hu => absurd hu (by omega))⟩
end
