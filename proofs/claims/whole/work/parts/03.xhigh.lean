/-! the component: cost, best set, excess, steps, notes -/
noncomputable def ag_B (ok : Nat → Prop) (ct : Nat → Int32) : Nat → Int32 × Int32
  | 0 => (-2, 0)
  | i + 1 => @ite (Int32 × Int32) (ok i ∧ ((ag_B ok ct i).1 = -2 ∨ ¬ (ag_B ok ct i).2 ≤ ct i)) (Classical.propDecidable _) (nI i, ct i) (ag_B ok ct i)
theorem ag_Bk {ok : Nat → Prop} {ct : Nat → Int32} {i : Nat} (h : ¬ (ok i ∧ ((ag_B ok ct i).1 = -2 ∨ ¬ (ag_B ok ct i).2 ≤ ct i))) : ag_B ok ct (i + 1) = ag_B ok ct i := by
  rw [ag_B]
  exact if_neg h
theorem ag_Bt {ok : Nat → Prop} {ct : Nat → Int32} {i : Nat} (h : ok i ∧ ((ag_B ok ct i).1 = -2 ∨ ¬ (ag_B ok ct i).2 ≤ ct i)) : ag_B ok ct (i + 1) = (nI i, ct i) := by
  rw [ag_B]
  exact if_pos h
theorem ag_Bc {ok ok' : Nat → Prop} {ct ct' : Nat → Int32} : ∀ n, (∀ i, i < n → (ok i ↔ ok' i)) → (∀ i, i < n → ct i = ct' i) → ag_B ok ct n = ag_B ok' ct' n := by
  intro n
  induction n with
  | zero => intro _ _; rfl
  | succ n ih =>
    intro h1 h2
    have e := ih (fun i hi => h1 i (by omega)) (fun i hi => h2 i (by omega))
    have e1 := h1 n (by omega)
    have e2 := h2 n (by omega)
    by_cases hc : ok n ∧ ((ag_B ok ct n).1 = -2 ∨ ¬ (ag_B ok ct n).2 ≤ ct n)
    · rw [ag_Bt hc, ag_Bt (by rw [← e, ← e2, ← e1]; exact hc), e2]
    · rw [ag_Bk hc, ag_Bk (by rw [← e, ← e2, ← e1]; exact hc), e]
theorem ag_Bv {ok : Nat → Prop} {ct : Nat → Int32} : ∀ n, (ag_B ok ct n).1 = -2 ∨ ∃ j, j < n ∧ (ag_B ok ct n).1 = nI j := by
  intro n
  induction n with
  | zero => exact Or.inl rfl
  | succ n ih =>
    by_cases hc : ok n ∧ ((ag_B ok ct n).1 = -2 ∨ ¬ (ag_B ok ct n).2 ≤ ct n)
    · rw [ag_Bt hc]
      exact Or.inr ⟨n, by omega, rfl⟩
    · rw [ag_Bk hc]
      exact ih.elim Or.inl (fun ⟨j, h1, h2⟩ => Or.inr ⟨j, by omega, h2⟩)
def ag_ok (sd : Int32 → Prop) (w b : Int32) (i : Nat) : Prop := (nI i &&& w) = w ∧ (nI i &&& b) = 0 ∧ sd (nI i)
noncomputable def ag_gv (w b : Int32) (i : Nat) : Int32 := nI (ag_sz (w &&& (nI i ^^^ (-1)))) + nI (ag_sz (b &&& nI i))
noncomputable def ag_E (sd : Int32 → Prop) (w b : Int32) : Nat → Int32
  | 0 => 99
  | i + 1 => @ite Int32 (¬ ag_E sd w b i ≤ ag_gv w b i ∧ sd (nI i)) (Classical.propDecidable _) (ag_gv w b i) (ag_E sd w b i)
theorem ag_Ek {sd : Int32 → Prop} {w b : Int32} {i : Nat} (h : ¬ (¬ ag_E sd w b i ≤ ag_gv w b i ∧ sd (nI i))) : ag_E sd w b (i + 1) = ag_E sd w b i := by
  rw [ag_E]
  exact if_neg h
theorem ag_Et {sd : Int32 → Prop} {w b : Int32} {i : Nat} (h : ¬ ag_E sd w b i ≤ ag_gv w b i ∧ sd (nI i)) : ag_E sd w b (i + 1) = ag_gv w b i := by
  rw [ag_E]
  exact if_pos h
theorem ag_Ec {sd sd' : Int32 → Prop} {w b : Int32} : ∀ n, (∀ i, i < n → (sd (nI i) ↔ sd' (nI i))) → ag_E sd w b n = ag_E sd' w b n := by
  intro n
  induction n with
  | zero => intro _; rfl
  | succ n ih =>
    intro h1
    have e := ih (fun i hi => h1 i (by omega))
    have e1 := h1 n (by omega)
    by_cases hc : ¬ ag_E sd w b n ≤ ag_gv w b n ∧ sd (nI n)
    · rw [ag_Et hc, ag_Et (by rw [← e, ← e1]; exact hc)]
    · rw [ag_Ek hc, ag_Ek (by rw [← e, ← e1]; exact hc), e]
/-- the twenty places of a change: nine down to nought, then nought up to nine -/
def ag_o (t : Nat) : Nat := if t < 10 then 9 - t else t - 10
def ag_c (p s : Int32) (t : Nat) : Prop := (t < 10 ∧ bt p (9 - t) = true ∧ ¬ bt s (9 - t) = true) ∨ (10 ≤ t ∧ bt s (t - 10) = true ∧ ¬ bt p (t - 10) = true)
noncomputable def ag_G (c : Nat → Prop) (m : Nat) (tm : Int32) (a : Nat → Int32) : Nat → (Nat → Int32)
  | 0 => a
  | t + 1 => @ite (Nat → Int32) (c t ∧ ag_C c t < m) (Classical.propDecidable _) (upd (ag_G c m tm a t) (ag_o t) (ag_G c m tm a t (ag_o t) + tm)) (ag_G c m tm a t)
theorem ag_Gk {c : Nat → Prop} {m t : Nat} {tm : Int32} {a : Nat → Int32} (h : ¬ (c t ∧ ag_C c t < m)) : ag_G c m tm a (t + 1) = ag_G c m tm a t := by
  rw [ag_G]
  exact if_neg h
theorem ag_Gt {c : Nat → Prop} {m t : Nat} {tm : Int32} {a : Nat → Int32} (h : c t ∧ ag_C c t < m) : ag_G c m tm a (t + 1) = upd (ag_G c m tm a t) (ag_o t) (ag_G c m tm a t (ag_o t) + tm) := by
  rw [ag_G]
  exact if_pos h
theorem ag_Cs (c : Nat → Prop) (t : Nat) : ag_C c (t + 1) = ag_C c t + ag_n (c t) := rfl
theorem ag_Cm (c : Nat → Prop) (t : Nat) : ∀ e, ag_C c t ≤ ag_C c (t + e) := by
  intro e
  induction e with
  | zero => exact Nat.le_refl _
  | succ e ih =>
    have := ag_Cs c (t + e)
    show ag_C c t ≤ ag_C c (t + e + 1)
    omega
theorem ag_Gd {c : Nat → Prop} {m t : Nat} {tm : Int32} {a : Nat → Int32} (h : m ≤ ag_C c t) : ∀ e, ag_G c m tm a (t + e) = ag_G c m tm a t := by
  intro e
  induction e with
  | zero => rfl
  | succ e ih =>
    have := ag_Cm c t e
    show ag_G c m tm a (t + e + 1) = _
    rw [ag_Gk (fun z => by omega), ih]
theorem ag_Gm {c : Nat → Prop} {m m' : Nat} {tm : Int32} {a : Nat → Int32} (h : ag_C c 20 ≤ m) (h' : ag_C c 20 ≤ m') : ∀ t, t ≤ 20 → ag_G c m tm a t = ag_G c m' tm a t := by
  intro t
  induction t with
  | zero => intro _; rfl
  | succ t ih =>
    intro ht
    have e := ih (by omega)
    by_cases hc : c t
    · have h1 := ag_Cs c t
      rw [ag_nt hc] at h1
      have h2 := ag_Cm c (t + 1) (20 - (t + 1))
      rw [show t + 1 + (20 - (t + 1)) = 20 by omega] at h2
      rw [ag_Gt ⟨hc, by omega⟩, ag_Gt ⟨hc, by omega⟩, e]
    · rw [ag_Gk (fun z => hc z.1), ag_Gk (fun z => hc z.1), e]
def ag_D (nt : Nat → Nat) (i : Nat) : Nat → Nat := fun j => if j < i then nt (j + 1) else nt j
theorem ag_Ds (nt : Nat → Nat) (i : Nat) : ag_u (ag_D nt i) i (ag_D nt i (i + 1)) = ag_D nt (i + 1) := by
  funext j
  unfold ag_u ag_D
  by_cases h : j = i
  · rw [if_pos h, if_neg (by omega), if_pos (by omega), h]
  · rw [if_neg h]
    by_cases h2 : j < i
    · rw [if_pos h2, if_pos (by omega)]
    · rw [if_neg h2, if_neg (by omega)]
def ag_nK (K : Nat) : Nat := if K < 8 then K + 1 else 8
def ag_nN (nt : Nat → Nat) (K s : Nat) : Nat → Nat := if K < 8 then ag_u nt K s else ag_u (ag_D nt 7) 7 s
section
variable {N P K : Nat} {eb : Int32} {nm vr nv oc nc kd lo ah nt fd fv hs : Nat → Nat} {sg tc og ae : Nat → Int32}
noncomputable def ag_XW (eb : Int32) (nm vr nv : Nat → Nat) (og : Nat → Int32) (nc kd lo ah : Nat → Nat) (s : Int32) (u : Nat) : Int32 := if bt s u = true then 2 * nI (ag_C (fun k => ag_Q eb og kd lo ah s 1 (3 * u + k)) (nc u)) + (nI (nv (nm u)) - nI (vr u)) else 0
noncomputable def ag_XC (N P : Nat) (eb : Int32) (nm vr nv : Nat → Nat) (og : Nat → Int32) (nc kd lo ah : Nat → Nat) (s : Int32) : Int32 := (5 * nI (ag_sz (s &&& (nI P ^^^ (-1)))) + 3 * nI (ag_sz (nI P &&& (s ^^^ (-1))))) + ag_S (ag_XW eb nm vr nv og nc kd lo ah s) N
theorem ag_Xcost_go {post : Int32 → Prop} (s c0 : Int32) (hN : N ≤ 10) (hnm : ∀ j, nm j < 5) (hkd : ∀ j, kd j < 64 ∧ kd j % 8 ≤ 5) (hlo : ∀ j, lo j ≤ 9) (hhi : ∀ j, ah j ≤ 9) (hnc : ∀ j, nc j ≤ 3) (h : post (c0 + ag_S (ag_XW eb nm vr nv og nc kd lo ah s) N)) : ∀ d i : Nat, i + d = N → wX_costOf_30 post s (nI N) eb (nI P) (nI K) (ag_f nm) (ag_f vr) sg tc (ag_f nv) (ag_f oc) og (ag_f nc) (ag_f (ag_kc kd)) (ag_f lo) (ag_f ah) (ag_f (ag_kn kd)) (ag_f (ag_ko kd)) (ag_f nt) (d + 1) (c0 + ag_S (ag_XW eb nm vr nv og nc kd lo ah s) i) (nI i) := by
  intro d
  induction d with
  | zero =>
    intro i hi
    obtain rfl : i = N := by omega
    exact br_t (nI_le (by omega) (by omega)) h
  | succ d ih =>
    intro i hi
    have n1 := hnm i
    have es : ag_S (ag_XW eb nm vr nv og nc kd lo ah s) (i + 1) = ag_S (ag_XW eb nm vr nv og nc kd lo ah s) i + ag_XW eb nm vr nv og nc kd lo ah s i := rfl
    have g := ih (i + 1) (by omega)
    have hi10 : vp_in (nI i) 10 := pk_in i 10 (by omega)
    refine br_f (nI_ge (by omega) (by omega)) (ag_Xholds s (by omega) (ag_br (fun hb => ?_) (fun hb => nm_r (nI_1 i) ?_)))
    · refine ag_Xcount (o := 1) s (by omega) (by omega) hkd hlo hhi (hnc i) (nm_e ⟨hi10, pk_in (nm i) 5 n1 (ag_at nm (by omega)), hi10, nm_r ?_ (nm_r (nI_1 i) g)⟩)
      rw [es, ag_at nm (by omega), ag_at nv (by omega), ag_at vr (by omega), show ag_XW eb nm vr nv og nc kd lo ah s i = _ from if_pos hb]
      grind
    · rw [es, show ag_XW eb nm vr nv og nc kd lo ah s i = 0 from if_neg hb, Int32.add_zero] at g
      exact g
theorem ag_Xcost {post : Int32 → Prop} (s : Int32) (hN : N ≤ 10) (hnm : ∀ j, nm j < 5) (hkd : ∀ j, kd j < 64 ∧ kd j % 8 ≤ 5) (hlo : ∀ j, lo j ≤ 9) (hhi : ∀ j, ah j ≤ 9) (hnc : ∀ j, nc j ≤ 3) (h : post (ag_XC N P eb nm vr nv og nc kd lo ah s)) : wpX_costOf post ((nI N), eb, (nI P), (nI K), (ag_f nm), (ag_f vr), sg, tc, (ag_f nv), (ag_f oc), og, (ag_f nc), (ag_f (ag_kc kd)), (ag_f lo), (ag_f ah), (ag_f (ag_kn kd)), (ag_f (ag_ko kd)), (ag_f nt)) s := by
  unfold wpX_costOf
  refine ag_Xsize _ (ag_Xsize _ (nm_e ⟨N + 1, ?_⟩))
  have g := ag_Xcost_go (tc := tc) (oc := oc) (nt := nt) (P := P) (K := K) (sg := sg) s (5 * nI (ag_sz (s &&& (nI P ^^^ (-1)))) + 3 * nI (ag_sz (nI P &&& (s ^^^ (-1))))) hN hnm hkd hlo hhi hnc h N 0 (by omega)
  rw [show ag_S (ag_XW eb nm vr nv og nc kd lo ah s) 0 = 0 from rfl, Int32.add_zero] at g
  exact g
theorem ag_Xbest_go {post : Int32 → Prop} (w b : Int32) (hN : N ≤ 10) (hnm : ∀ j, nm j < 5) (hkd : ∀ j, kd j < 64 ∧ kd j % 8 ≤ 5) (hlo : ∀ j, lo j ≤ 9) (hhi : ∀ j, ah j ≤ 9) (hnc : ∀ j, nc j ≤ 3) (h : post (ag_B (ag_ok (ag_XS N eb nm sg og nc kd lo ah) w b) (fun i => ag_XC N P eb nm vr nv og nc kd lo ah (nI i)) (2 ^ N)).1) : ∀ d i : Nat, i + d = 2 ^ N → wX_bestSet_17 post w b (nI (2 ^ N)) (nI N) eb (nI P) (nI K) (ag_f nm) (ag_f vr) sg tc (ag_f nv) (ag_f oc) og (ag_f nc) (ag_f (ag_kc kd)) (ag_f lo) (ag_f ah) (ag_f (ag_kn kd)) (ag_f (ag_ko kd)) (ag_f nt) (d + 1) (ag_B (ag_ok (ag_XS N eb nm sg og nc kd lo ah) w b) (fun i => ag_XC N P eb nm vr nv og nc kd lo ah (nI i)) i).1 (ag_B (ag_ok (ag_XS N eb nm sg og nc kd lo ah) w b) (fun i => ag_XC N P eb nm vr nv og nc kd lo ah (nI i)) i).2 (nI i) := by
  have hE := ag_pw hN
  intro d
  induction d with
  | zero =>
    intro i hi
    obtain rfl : i = 2 ^ N := by omega
    exact br_t (nI_le (by omega) (by omega)) h
  | succ d ih =>
    intro i hi
    have g := ih (i + 1) (by omega)
    generalize hok : ag_ok (ag_XS N eb nm sg og nc kd lo ah) w b = ok at g h ⊢
    have hct : (fun i => ag_XC N P eb nm vr nv og nc kd lo ah (nI i)) i = ag_XC N P eb nm vr nv og nc kd lo ah (nI i) := rfl
    have okI : ok i ↔ (nI i &&& w) = w ∧ (nI i &&& b) = 0 ∧ ag_XS N eb nm sg og nc kd lo ah (nI i) := by rw [← hok]; exact Iff.rfl
    generalize (fun i => ag_XC N P eb nm vr nv og nc kd lo ah (nI i)) = ct at g h hct ⊢
    have keep : ¬ (ok i ∧ ((ag_B ok ct i).1 = -2 ∨ ¬ (ag_B ok ct i).2 ≤ ct i)) → wX_bestSet_17 post w b (nI (2 ^ N)) (nI N) eb (nI P) (nI K) (ag_f nm) (ag_f vr) sg tc (ag_f nv) (ag_f oc) og (ag_f nc) (ag_f (ag_kc kd)) (ag_f lo) (ag_f ah) (ag_f (ag_kn kd)) (ag_f (ag_ko kd)) (ag_f nt) (d + 1) (ag_B ok ct i).1 (ag_B ok ct i).2 (nI (i + 1)) := fun hn => by
      rw [ag_Bk hn] at g
      exact g
    have take : (ok i ∧ ((ag_B ok ct i).1 = -2 ∨ ¬ (ag_B ok ct i).2 ≤ ct i)) → wX_bestSet_17 post w b (nI (2 ^ N)) (nI N) eb (nI P) (nI K) (ag_f nm) (ag_f vr) sg tc (ag_f nv) (ag_f oc) og (ag_f nc) (ag_f (ag_kc kd)) (ag_f lo) (ag_f ah) (ag_f (ag_kn kd)) (ag_f (ag_ko kd)) (ag_f nt) (d + 1) (nI i) (ct i) (nI (i + 1)) := fun hn => by
      rw [ag_Bt hn] at g
      exact g
    refine br_f (nI_ge (by omega) (by omega)) (br_c (fun h1 => br_c (fun h2 => ?_) (fun h2 => ?_)) (fun h1 => ?_))
    · unfold wX_bestSet_44
      refine br_f (by decide) (ag_Xsound (nI i) hN hnm hkd hlo hhi hnc (ag_br (fun hs => ?_) (fun hs => nm_r (nI_1 i) (keep fun z => hs (okI.mp z.1).2.2))))
      refine ag_Xcost (nI i) hN hnm hkd hlo hhi hnc ?_
      rw [← hct]
      exact br_c (fun e => nm_r (nI_1 i) (take ⟨okI.mpr ⟨h1, h2, hs⟩, Or.inl e⟩)) (fun e => br_c (fun l => nm_r (nI_1 i) (keep fun z => z.2.elim e (fun y => y l))) (fun l => nm_r (nI_1 i) (take ⟨okI.mpr ⟨h1, h2, hs⟩, Or.inr l⟩)))
    · unfold wX_bestSet_43 wX_bestSet_44
      exact br_t rfl (nm_r (nI_1 i) (keep fun z => h2 (okI.mp z.1).2.1))
    · unfold wX_bestSet_43 wX_bestSet_44
      exact br_t rfl (nm_r (nI_1 i) (keep fun z => h1 (okI.mp z.1).1))
theorem ag_Xbest {post : Int32 → Prop} (w b : Int32) (hN : N ≤ 10) (hnm : ∀ j, nm j < 5) (hkd : ∀ j, kd j < 64 ∧ kd j % 8 ≤ 5) (hlo : ∀ j, lo j ≤ 9) (hhi : ∀ j, ah j ≤ 9) (hnc : ∀ j, nc j ≤ 3) (h : post (ag_B (ag_ok (ag_XS N eb nm sg og nc kd lo ah) w b) (fun i => ag_XC N P eb nm vr nv og nc kd lo ah (nI i)) (2 ^ N)).1) : wpX_bestSet post ((nI N), eb, (nI P), (nI K), (ag_f nm), (ag_f vr), sg, tc, (ag_f nv), (ag_f oc), og, (ag_f nc), (ag_f (ag_kc kd)), (ag_f lo), (ag_f ah), (ag_f (ag_kn kd)), (ag_f (ag_ko kd)), (ag_f nt)) w b := by
  unfold wpX_bestSet
  exact nm_r (ag_shl hN) ⟨2 ^ N + 1, ag_Xbest_go w b hN hnm hkd hlo hhi hnc h (2 ^ N) 0 (by omega)⟩
theorem ag_Xexcess_go {post : Int32 → Prop} (w b : Int32) (hN : N ≤ 10) (hnm : ∀ j, nm j < 5) (hkd : ∀ j, kd j < 64 ∧ kd j % 8 ≤ 5) (hlo : ∀ j, lo j ≤ 9) (hhi : ∀ j, ah j ≤ 9) (hnc : ∀ j, nc j ≤ 3) (h : post (ag_E (ag_XS N eb nm sg og nc kd lo ah) w b (2 ^ N))) : ∀ d i : Nat, i + d = 2 ^ N → wX_excess_34 post w b (nI (2 ^ N)) (nI N) eb (nI P) (nI K) (ag_f nm) (ag_f vr) sg tc (ag_f nv) (ag_f oc) og (ag_f nc) (ag_f (ag_kc kd)) (ag_f lo) (ag_f ah) (ag_f (ag_kn kd)) (ag_f (ag_ko kd)) (ag_f nt) (d + 1) (ag_E (ag_XS N eb nm sg og nc kd lo ah) w b i) (nI i) := by
  have hE := ag_pw hN
  intro d
  induction d with
  | zero =>
    intro i hi
    obtain rfl : i = 2 ^ N := by omega
    exact br_t (nI_le (by omega) (by omega)) h
  | succ d ih =>
    intro i hi
    have g := ih (i + 1) (by omega)
    have keep : ¬ (¬ ag_E (ag_XS N eb nm sg og nc kd lo ah) w b i ≤ ag_gv w b i ∧ ag_XS N eb nm sg og nc kd lo ah (nI i)) → wX_excess_34 post w b (nI (2 ^ N)) (nI N) eb (nI P) (nI K) (ag_f nm) (ag_f vr) sg tc (ag_f nv) (ag_f oc) og (ag_f nc) (ag_f (ag_kc kd)) (ag_f lo) (ag_f ah) (ag_f (ag_kn kd)) (ag_f (ag_ko kd)) (ag_f nt) (d + 1) (ag_E (ag_XS N eb nm sg og nc kd lo ah) w b i) (nI (i + 1)) := fun hn => by
      rw [ag_Ek hn] at g
      exact g
    have take : (¬ ag_E (ag_XS N eb nm sg og nc kd lo ah) w b i ≤ ag_gv w b i ∧ ag_XS N eb nm sg og nc kd lo ah (nI i)) → wX_excess_34 post w b (nI (2 ^ N)) (nI N) eb (nI P) (nI K) (ag_f nm) (ag_f vr) sg tc (ag_f nv) (ag_f oc) og (ag_f nc) (ag_f (ag_kc kd)) (ag_f lo) (ag_f ah) (ag_f (ag_kn kd)) (ag_f (ag_ko kd)) (ag_f nt) (d + 1) (ag_gv w b i) (nI (i + 1)) := fun hn => by
      rw [ag_Et hn] at g
      exact g
    exact br_f (nI_ge (by omega) (by omega)) (ag_Xsize _ (ag_Xsize _ (nm_r (e' := ag_gv w b i) rfl (br_c (fun l => nm_r (nI_1 i) (keep fun z => z.1 l)) (fun l => ag_Xsound (nI i) hN hnm hkd hlo hhi hnc (ag_br (fun hs => nm_r (nI_1 i) (take ⟨l, hs⟩)) (fun hs => nm_r (nI_1 i) (keep fun z => hs z.2))))))))
theorem ag_X56_go {post : SX → Prop} (s : Int32) (m : Nat) (tm : Int32) (hm : m ≤ 20) (h : post ((nI N), eb, (nI P), (nI K), (ag_f nm), (ag_f vr), sg, (ag_G (ag_c (nI P) s) m tm tc 20), (ag_f nv), (ag_f oc), og, (ag_f nc), (ag_f (ag_kc kd)), (ag_f lo), (ag_f ah), (ag_f (ag_kn kd)), (ag_f (ag_ko kd)), (ag_f nt))) : ∀ d i : Nat, i + d = 10 → wX_touchSteps_56 post s tm (nI N) eb (nI P) (nI K) (d + 1) (nI (m - ag_C (ag_c (nI P) s) (10 + i))) (nI i) (ag_f nm) (ag_f vr) sg (ag_G (ag_c (nI P) s) m tm tc (10 + i)) (ag_f nv) (ag_f oc) og (ag_f nc) (ag_f (ag_kc kd)) (ag_f lo) (ag_f ah) (ag_f (ag_kn kd)) (ag_f (ag_ko kd)) (ag_f nt) := by
  intro d
  induction d with
  | zero =>
    intro i hi
    obtain rfl : i = 10 := by omega
    exact br_t (nI_le (a := 10) (b := 10) (by omega) (by omega)) h
  | succ d ih =>
    intro i hi
    have g := ih (i + 1) (by omega)
    have eo : ag_o (10 + i) = i := by
      unfold ag_o
      rw [if_neg (by omega)]
      omega
    have ec : ag_c (nI P) s (10 + i) ↔ bt (s &&& (nI P ^^^ (-1))) i = true := by
      rw [ag_diff _ _ (by omega)]
      unfold ag_c
      rw [show 10 + i - 10 = i by omega]
      exact ⟨fun z => z.elim (fun y => absurd y.1 (by omega)) (fun y => y.2), fun z => Or.inr ⟨by omega, z⟩⟩
    have hC := ag_Cs (ag_c (nI P) s) (10 + i)
    have hi10 : vp_in (nI i) 10 := pk_in i 10 (by omega)
    refine br_f (nI_ge (b := 10) (by omega) (by decide)) (pk_le (m - ag_C (ag_c (nI P) s) (10 + i)) 0 (fun z => ?_) (fun z => ?_) rfl rfl)
    · have e := ag_Gd (tm := tm) (a := tc) (show m ≤ ag_C (ag_c (nI P) s) (10 + i) by omega) (10 - i)
      rw [show 10 + i + (10 - i) = 20 by omega] at e
      rw [← e]
      exact h
    · refine ag_Xholds _ (by omega) (ag_br (fun hb => ⟨hi10, hi10, nm_r ?_ (nm_r ?_ (nm_r (nI_1 i) g))⟩) (fun hb => nm_r (nI_1 i) ?_))
      · rw [nI_clamp (by omega)]
        rw [show 10 + (i + 1) = 10 + i + 1 from rfl, ag_Gt ⟨ec.mpr hb, by omega⟩, eo]
      · rw [show 10 + (i + 1) = 10 + i + 1 from rfl, hC, ag_nt (ec.mpr hb)]
        obtain ⟨x, hx⟩ : ∃ x, m - ag_C (ag_c (nI P) s) (10 + i) = x + 1 := ⟨m - ag_C (ag_c (nI P) s) (10 + i) - 1, by omega⟩
        rw [hx, pk_m1]
        exact congrArg nI (by omega)
      · rw [show 10 + (i + 1) = 10 + i + 1 from rfl, hC, ag_nf (fun z => hb (ec.mp z)), ag_Gk (fun z => hb (ec.mp z.1))] at g
        exact g
theorem ag_X7_go {post : SX → Prop} (s : Int32) (m : Nat) (tm : Int32) (hm : m ≤ 20) (h : post ((nI N), eb, (nI P), (nI K), (ag_f nm), (ag_f vr), sg, (ag_G (ag_c (nI P) s) m tm tc 20), (ag_f nv), (ag_f oc), og, (ag_f nc), (ag_f (ag_kc kd)), (ag_f lo), (ag_f ah), (ag_f (ag_kn kd)), (ag_f (ag_ko kd)), (ag_f nt))) : ∀ d t : Nat, t + d = 10 → wX_touchSteps_7 post s tm (nI N) eb (nI P) (nI K) (d + 1) (nI (m - ag_C (ag_c (nI P) s) t)) (nI d + (-1)) (ag_f nm) (ag_f vr) sg (ag_G (ag_c (nI P) s) m tm tc t) (ag_f nv) (ag_f oc) og (ag_f nc) (ag_f (ag_kc kd)) (ag_f lo) (ag_f ah) (ag_f (ag_kn kd)) (ag_f (ag_ko kd)) (ag_f nt) := by
  intro d
  induction d with
  | zero =>
    intro t ht
    obtain rfl : t = 10 := by omega
    exact br_t (by decide) ⟨11, ag_X56_go s m tm hm h 10 0 rfl⟩
  | succ d ih =>
    intro t ht
    have g := ih (t + 1) (by omega)
    rw [pk_m1]
    have eo : ag_o t = d := by
      unfold ag_o
      rw [if_pos (by omega)]
      omega
    have ec : ag_c (nI P) s t ↔ bt (nI P &&& (s ^^^ (-1))) d = true := by
      rw [ag_diff _ _ (by omega)]
      unfold ag_c
      rw [show 9 - t = d by omega]
      exact ⟨fun z => z.elim (fun y => y.2) (fun y => absurd y.1 (by omega)), fun z => Or.inl ⟨by omega, z⟩⟩
    have hC := ag_Cs (ag_c (nI P) s) t
    have hd10 : vp_in (nI d) 10 := pk_in d 10 (by omega)
    refine br_f (nI_pos (by omega)) (pk_le (m - ag_C (ag_c (nI P) s) t) 0 (fun z => ?_) (fun z => ?_) rfl rfl)
    · have e := ag_Gd (tm := tm) (a := tc) (show m ≤ ag_C (ag_c (nI P) s) t by omega) (20 - t)
      rw [show t + (20 - t) = 20 by omega] at e
      rw [show m - ag_C (ag_c (nI P) s) t = 0 by omega, ← e]
      exact ⟨1, br_f (by decide) (br_t (by decide) h)⟩
    · refine ag_Xholds _ (by omega) (ag_br (fun hb => ⟨hd10, hd10, nm_r ?_ (nm_r ?_ (nm_r rfl g))⟩) (fun hb => nm_r rfl ?_))
      · rw [nI_clamp (by omega), ag_Gt ⟨ec.mpr hb, by omega⟩, eo]
      · rw [hC, ag_nt (ec.mpr hb)]
        obtain ⟨x, hx⟩ : ∃ x, m - ag_C (ag_c (nI P) s) t = x + 1 := ⟨m - ag_C (ag_c (nI P) s) t - 1, by omega⟩
        rw [hx, pk_m1]
        exact congrArg nI (by omega)
      · rw [hC, ag_nf (fun z => hb (ec.mp z)), ag_Gk (fun z => hb (ec.mp z.1))] at g
        exact g
theorem ag_Xtouch {post : SX → Prop} (s : Int32) (m : Nat) (tm : Int32) (hm : m ≤ 20) (h : post ((nI N), eb, (nI P), (nI K), (ag_f nm), (ag_f vr), sg, (ag_G (ag_c (nI P) s) m tm tc 20), (ag_f nv), (ag_f oc), og, (ag_f nc), (ag_f (ag_kc kd)), (ag_f lo), (ag_f ah), (ag_f (ag_kn kd)), (ag_f (ag_ko kd)), (ag_f nt))) : wpX_touchSteps post ((nI N), eb, (nI P), (nI K), (ag_f nm), (ag_f vr), sg, tc, (ag_f nv), (ag_f oc), og, (ag_f nc), (ag_f (ag_kc kd)), (ag_f lo), (ag_f ah), (ag_f (ag_kn kd)), (ag_f (ag_ko kd)), (ag_f nt)) s (nI m) tm := by
  unfold wpX_touchSteps
  exact ⟨11, ag_X7_go s m tm hm h 10 0 rfl⟩
theorem ag_Xdrop_go {post : SX → Prop} (h : post ((nI N), eb, (nI P), (nI 7), (ag_f nm), (ag_f vr), sg, tc, (ag_f nv), (ag_f oc), og, (ag_f nc), (ag_f (ag_kc kd)), (ag_f lo), (ag_f ah), (ag_f (ag_kn kd)), (ag_f (ag_ko kd)), (ag_f (ag_D nt 7)))) : ∀ d i : Nat, i + d = 7 → wX_dropFirstNote_2 post (nI N) eb (nI P) (nI 8) (d + 1) (nI (i + 1)) (ag_f nm) (ag_f vr) sg tc (ag_f nv) (ag_f oc) og (ag_f nc) (ag_f (ag_kc kd)) (ag_f lo) (ag_f ah) (ag_f (ag_kn kd)) (ag_f (ag_ko kd)) (ag_f (ag_D nt i)) := by
  intro d
  induction d with
  | zero =>
    intro i hi
    obtain rfl : i = 7 := by omega
    exact br_t (nI_le (by omega) (by omega)) (nm_r (nI_pred 7) h)
  | succ d ih =>
    intro i hi
    refine br_f (nI_ge (by omega) (by omega)) ⟨pk_in (i + 1) 8 (by omega), pk_in i 8 (by omega) (nI_pred i), nm_r ?_ (nm_r (nI_1 (i + 1)) (ih (i + 1) (by omega)))⟩
    rw [nI_pred, nI_clamp (n := i) (by omega), ag_at _ (by omega), ag_fu, ag_Ds]
theorem ag_Xdrop {post : SX → Prop} (h : post ((nI N), eb, (nI P), (nI 7), (ag_f nm), (ag_f vr), sg, tc, (ag_f nv), (ag_f oc), og, (ag_f nc), (ag_f (ag_kc kd)), (ag_f lo), (ag_f ah), (ag_f (ag_kn kd)), (ag_f (ag_ko kd)), (ag_f (ag_D nt 7)))) : wpX_dropFirstNote post ((nI N), eb, (nI P), (nI 8), (ag_f nm), (ag_f vr), sg, tc, (ag_f nv), (ag_f oc), og, (ag_f nc), (ag_f (ag_kc kd)), (ag_f lo), (ag_f ah), (ag_f (ag_kn kd)), (ag_f (ag_ko kd)), (ag_f nt)) := by
  unfold wpX_dropFirstNote
  exact ⟨8, ag_Xdrop_go h 7 0 rfl⟩
theorem ag_Xnote {post : SX → Prop} (s : Nat) (hK : K ≤ 8) (h : post ((nI N), eb, (nI P), (nI (ag_nK K)), (ag_f nm), (ag_f vr), sg, tc, (ag_f nv), (ag_f oc), og, (ag_f nc), (ag_f (ag_kc kd)), (ag_f lo), (ag_f ah), (ag_f (ag_kn kd)), (ag_f (ag_ko kd)), (ag_f (ag_nN nt K s)))) : wpX_addNote post ((nI N), eb, (nI P), (nI K), (ag_f nm), (ag_f vr), sg, tc, (ag_f nv), (ag_f oc), og, (ag_f nc), (ag_f (ag_kc kd)), (ag_f lo), (ag_f ah), (ag_f (ag_kn kd)), (ag_f (ag_ko kd)), (ag_f nt)) (nI s) := by
  unfold wpX_addNote
  by_cases k8 : K < 8
  · refine br_t (nI_lt (b := 8) k8 (by decide)) ?_
    unfold wX_addNote_13
    refine ⟨pk_in K 8 k8, nm_r (by rw [nI_clamp (by omega), ag_fu]) (nm_r (nI_1 K) ?_)⟩
    unfold ag_nK ag_nN at h
    rw [if_pos k8, if_pos k8] at h
    exact h
  · obtain rfl : K = 8 := by omega
    refine br_f (nI_nlt (b := 8) (by omega) (by decide)) (ag_Xdrop ?_)
    unfold wX_addNote_13
    unfold ag_nK ag_nN at h
    rw [if_neg k8, if_neg k8] at h
    exact ⟨pk_in 7 8 (by omega), nm_r (by rw [nI_clamp (by omega), ag_fu]) (nm_r (nI_1 7) h)⟩
theorem ag_Xchange {post : Int32 → SX → Prop} (s : Nat) (hK : K ≤ 8) (h : post (nI (ag_sz (nI P ^^^ nI s))) ((nI N), eb, (nI s), (nI (ag_nK K)), (ag_f nm), (ag_f vr), sg, (ag_G (ag_c (nI P) (nI s)) (ag_sz (nI P ^^^ nI s)) 1 tc 20), (ag_f nv), (ag_f oc), og, (ag_f nc), (ag_f (ag_kc kd)), (ag_f lo), (ag_f ah), (ag_f (ag_kn kd)), (ag_f (ag_ko kd)), (ag_f (ag_nN nt K s)))) : wpX_changeTo post ((nI N), eb, (nI P), (nI K), (ag_f nm), (ag_f vr), sg, tc, (ag_f nv), (ag_f oc), og, (ag_f nc), (ag_f (ag_kc kd)), (ag_f lo), (ag_f ah), (ag_f (ag_kn kd)), (ag_f (ag_ko kd)), (ag_f nt)) (nI s) := by
  unfold wpX_changeTo
  have hz : ag_sz (nI P ^^^ nI s) ≤ 10 := ag_Cle _ 10
  exact ag_Xsize _ (ag_Xtouch (nI s) _ 1 (by omega) (ag_Xnote s hK h))
def ag_L (N : Nat) (nm vr : Nat → Nat) (a b : Nat) : Prop := ∃ j, j < N ∧ nm j = a ∧ vr j = b
theorem ag_Xlisted_go {post : Int32 → Prop} {a b : Nat} (ha : a < 100) (hb : b < 100) (hN : N ≤ 10) (hnm : ∀ j, nm j < 5) (hvr : ∀ j, vr j ≤ 9) (h : post (ag_v (ag_L N nm vr a b))) : ∀ d i : Nat, i + d = N → (∀ j, j < i → ¬ (nm j = a ∧ vr j = b)) → wX_isListed_2 post (nI a) (nI b) (nI N) eb (nI P) (nI K) (ag_f nm) (ag_f vr) sg tc (ag_f nv) (ag_f oc) og (ag_f nc) (ag_f (ag_kc kd)) (ag_f lo) (ag_f ah) (ag_f (ag_kn kd)) (ag_f (ag_ko kd)) (ag_f nt) (d + 1) (nI i) := by
  intro d
  induction d with
  | zero =>
    intro i hi hl
    exact br_t (nI_le (by omega) (by omega)) (ag_pf post h (fun ⟨j, h1, h2⟩ => hl j (by omega) h2))
  | succ d ih =>
    intro i hi hl
    have n1 := hnm i
    have n2 := hvr i
    have hi10 : vp_in (nI i) 10 := pk_in i 10 (by omega)
    have step : ¬ (nm i = a ∧ vr i = b) → wX_isListed_2 post (nI a) (nI b) (nI N) eb (nI P) (nI K) (ag_f nm) (ag_f vr) sg tc (ag_f nv) (ag_f oc) og (ag_f nc) (ag_f (ag_kc kd)) (ag_f lo) (ag_f ah) (ag_f (ag_kn kd)) (ag_f (ag_ko kd)) (ag_f nt) (d + 1) (nI (i + 1)) := fun hn => ih (i + 1) (by omega) (fun j hj => by
      by_cases e : j = i
      · rw [e]; exact hn
      · exact hl j (by omega))
    exact br_f (nI_ge (by omega) (by omega)) ⟨hi10, pk_eq (nm i) a (fun e1 => ⟨hi10, pk_eq (vr i) b (fun e2 => ag_pt post h ⟨i, by omega, e1, e2⟩) (fun e2 => nm_r (nI_1 i) (step fun z => e2 z.2)) (ag_at vr (by omega)) rfl⟩) (fun e1 => nm_r (nI_1 i) (step fun z => e1 z.1)) (ag_at nm (by omega)) rfl⟩
theorem ag_Xlisted {post : Int32 → Prop} {a b : Nat} (ha : a < 100) (hb : b < 100) (hN : N ≤ 10) (hnm : ∀ j, nm j < 5) (hvr : ∀ j, vr j ≤ 9) (h : post (ag_v (ag_L N nm vr a b))) : wpX_isListed post ((nI N), eb, (nI P), (nI K), (ag_f nm), (ag_f vr), sg, tc, (ag_f nv), (ag_f oc), og, (ag_f nc), (ag_f (ag_kc kd)), (ag_f lo), (ag_f ah), (ag_f (ag_kn kd)), (ag_f (ag_ko kd)), (ag_f nt)) (nI a) (nI b) := by
  unfold wpX_isListed
  exact ⟨N + 1, ag_Xlisted_go ha hb hN hnm hvr h N 0 (by omega) (fun j hj => absurd hj (by omega))⟩
theorem ag_Xgu_t {post : Int32 → Prop} {j : Nat} (hN : N ≤ 10) (hj : j < N) (h : post 1) : wpX_isGoodUnit post ((nI N), eb, (nI P), (nI K), (ag_f nm), (ag_f vr), sg, tc, (ag_f nv), (ag_f oc), og, (ag_f nc), (ag_f (ag_kc kd)), (ag_f lo), (ag_f ah), (ag_f (ag_kn kd)), (ag_f (ag_ko kd)), (ag_f nt)) (nI j) := by
  unfold wpX_isGoodUnit
  exact br_f (nI_pos (by omega)) (br_f (nI_ge hj (by omega)) h)
theorem ag_Xgu_f {post : Int32 → Prop} {x : Int32} (hx : x < 0 ∨ nI N ≤ x) (h : post 0) : wpX_isGoodUnit post ((nI N), eb, (nI P), (nI K), (ag_f nm), (ag_f vr), sg, tc, (ag_f nv), (ag_f oc), og, (ag_f nc), (ag_f (ag_kc kd)), (ag_f lo), (ag_f ah), (ag_f (ag_kn kd)), (ag_f (ag_ko kd)), (ag_f nt)) x := by
  unfold wpX_isGoodUnit
  exact br_c (fun _ => h) (fun z => br_c (fun _ => h) (fun y => absurd hx (fun w => w.elim z y)))
theorem ag_Xgn_t {post : Int32 → Prop} {j : Nat} (hK : K ≤ 8) (hj : j < K) (h : post 1) : wpX_isNote post ((nI N), eb, (nI P), (nI K), (ag_f nm), (ag_f vr), sg, tc, (ag_f nv), (ag_f oc), og, (ag_f nc), (ag_f (ag_kc kd)), (ag_f lo), (ag_f ah), (ag_f (ag_kn kd)), (ag_f (ag_ko kd)), (ag_f nt)) (nI j) := by
  unfold wpX_isNote
  exact br_f (nI_pos (by omega)) (br_f (nI_ge hj (by omega)) h)
theorem ag_Xgn_f {post : Int32 → Prop} {x : Int32} (hx : x < 0 ∨ nI K ≤ x) (h : post 0) : wpX_isNote post ((nI N), eb, (nI P), (nI K), (ag_f nm), (ag_f vr), sg, tc, (ag_f nv), (ag_f oc), og, (ag_f nc), (ag_f (ag_kc kd)), (ag_f lo), (ag_f ah), (ag_f (ag_kn kd)), (ag_f (ag_ko kd)), (ag_f nt)) x := by
  unfold wpX_isNote
  exact br_c (fun _ => h) (fun z => br_c (fun _ => h) (fun y => absurd hx (fun w => w.elim z y)))
theorem ag_Xgs_t {post : Int32 → Prop} {j : Nat} (hN : N ≤ 10) (hj : j < 2 ^ N) (h : post 1) : wpX_isGoodSet post ((nI N), eb, (nI P), (nI K), (ag_f nm), (ag_f vr), sg, tc, (ag_f nv), (ag_f oc), og, (ag_f nc), (ag_f (ag_kc kd)), (ag_f lo), (ag_f ah), (ag_f (ag_kn kd)), (ag_f (ag_ko kd)), (ag_f nt)) (nI j) := by
  have hE := ag_pw hN
  unfold wpX_isGoodSet
  exact br_f (nI_pos (by omega)) (br_f (by rw [ag_shl hN]; exact nI_ge hj (by omega)) h)
theorem ag_Xgs_f {post : Int32 → Prop} {x : Int32} (hN : N ≤ 10) (hx : x < 0 ∨ nI (2 ^ N) ≤ x) (h : post 0) : wpX_isGoodSet post ((nI N), eb, (nI P), (nI K), (ag_f nm), (ag_f vr), sg, tc, (ag_f nv), (ag_f oc), og, (ag_f nc), (ag_f (ag_kc kd)), (ag_f lo), (ag_f ah), (ag_f (ag_kn kd)), (ag_f (ag_ko kd)), (ag_f nt)) x := by
  unfold wpX_isGoodSet
  exact br_c (fun _ => h) (fun z => br_c (fun _ => h) (fun y => absurd hx (fun w => w.elim z (fun v => y (by rw [ag_shl hN]; exact v)))))
end
