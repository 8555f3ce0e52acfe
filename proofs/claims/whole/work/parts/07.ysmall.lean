/-! the reference's state holds the project c -/
def ps_Yc (c : ps_Cf) (gc gl : Int32) (bD bA bC bB bR bU : Nat → Int32) : Prop :=
  gc = nI (ps_n c) ∧ gl = (if ps_l c = true then 1 else 0) ∧ (∀ t, t < ps_n c → bD t = nI (ps_D c t) ∧ bR t = nI (ps_R c t) ∧ bU t = nI (ps_U c t)) ∧ (∀ m t, m < 2 → t < ps_n c → bA (t * 2 + m) = nI (ps_A c m t)) ∧ (∀ m, m < 2 → bC m = nI (ps_C c m)) ∧ (∀ t, t < ps_n c → ∀ i, i < 32 → bt (bB t) i = (decide (i < t) && ps_B c i t))
def ps_Mk (p : Int32) (l : List Nat) : Prop := ∀ i, i < 32 → bt p i = decide (i ∈ l)
theorem py_feas {c : ps_Cf} (hg : ps_gd c) (gc gp gl : Int32) (bD bA bC bB bR bU bO bS bW : Nat → Int32) (hY : ps_Yc c gc gl bD bA bC bB bR bU) (post : Int32 → Prop) (h1 : ps_fe c → post 1) (h0 : ¬ ps_fe c → post 0) : wpY_feasible post (gc, gp, gl, bD, bA, bC, bB, bR, bU, bO, bS, bW) := by
  have hn := hg.1
  have key : ∀ d t, t + d = ps_n c → (∀ k, k < t → ps_A c 0 k ≤ ps_C c 0 ∧ ps_A c 1 k ≤ ps_C c 1) → wY_feasible_2 post gc gp gl bD bA bC bB bR bU bO bS bW (d + 1) (nI t) := by
    intro d
    induction d with
    | zero =>
      intro t ht hk
      refine br_t (by rw [hY.1]; exact nI_le (by omega) (by omega)) ?_
      exact pk_le (ps_n c) 0 (fun z => h0 (fun q => by have := q.1; omega)) (fun z => h1 ⟨by omega, fun k hk2 => hk k (by omega)⟩) hY.1 rfl (by omega) (by omega)
    | succ d ih =>
      intro t ht hk
      have hA0 := ps_A4 hg (m := 0) (t := t) (by omega) (by omega)
      have hA1 := ps_A4 hg (m := 1) (t := t) (by omega) (by omega)
      have hC0 := ps_C8 hg (m := 0) (by omega)
      have hC1 := ps_C8 hg (m := 1) (by omega)
      refine br_f (by rw [hY.1]; exact nI_ge (by omega) (by omega)) ⟨pk_in (t * 2) 12 (by omega) (ps_ix20 t), ?_⟩
      refine pk_lt (ps_C c 0) (ps_A c 0 t) (fun z => h0 (fun q => by have := (q.2 t (by omega)).1; omega)) (fun z => ⟨pk_in (t * 2 + 1) 12 (by omega) (ps_ix21 t), ?_⟩) (hY.2.2.2.2.1 0 (by omega)) ?_ (by omega) (by omega)
      · refine pk_le (ps_A c 1 t) (ps_C c 1) (fun y => nm_r (nI_1 t) (ih (t + 1) (by omega) (fun k hk2 => ?_))) (fun y => h0 (fun q => by have := (q.2 t (by omega)).2; omega)) ?_ (hY.2.2.2.2.1 1 (by omega)) (by omega) (by omega)
        · by_cases e : k = t
          · subst e; exact ⟨z, y⟩
          · exact hk k (by omega)
        · rw [ps_ix21, nI_clamp (by omega)]
          exact hY.2.2.2.1 1 t (by omega) (by omega)
      · rw [ps_ix20, nI_clamp (by omega)]
        exact hY.2.2.2.1 0 t (by omega) (by omega)
  exact ⟨_, key (ps_n c) 0 (by omega) (fun k hk => absurd hk (Nat.not_lt_zero k))⟩
theorem py_used {c : ps_Cf} (hg : ps_gd c) (hf : ps_fe c) (gc gp gl : Int32) (bD bA bC bB bR bU bO bS bW : Nat → Int32) (hY : ps_Yc c gc gl bD bA bC bB bR bU) {l : List Nat} (hok : ps_ok c l) (hM : ps_Mk gp l) (hB : ∀ t, t ∈ l → bS t = nI (ps_run c l t - ps_D c t)) {m τ : Nat} (hm : m < 2) (hτ : τ < 1000) (post : Int32 → Prop) (h : post (nI (ps_use c (ps_run c l) m τ))) : wpY_used post (gc, gp, gl, bD, bA, bC, bB, bR, bU, bO, bS, bW) (nI m) (nI τ) := by
  have hn := hg.1
  obtain ⟨i1, i2, i3⟩ := ps_inv hg hf l hok
  have hle := ps_run_le hg hf hok
  have key : ∀ d t, t + d = ps_n c → wY_used_5 post (nI m) (nI τ) gc gp gl bD bA bC bB bR bU bO bS bW (d + 1) (nI (ps_sum (fun t => if ps_run c l t ≤ τ + ps_D c t ∧ τ < ps_run c l t then ps_A c m t else 0) t)) (nI t) := by
    intro d
    induction d with
    | zero =>
      intro t ht
      have et : t = ps_n c := by omega
      subst et
      exact br_t (by rw [hY.1]; exact nI_le (by omega) (by omega)) h
    | succ d ih =>
      intro t ht
      have ih' := ih (t + 1) (by omega)
      rw [ps_sum] at ih'
      refine br_f (by rw [hY.1]; exact nI_ge (by omega) (by omega)) ?_
      refine ps_bit1 (by omega) (fun z => ⟨vp_in_nI (by omega) (by omega), ?_⟩) (fun z => nm_r (nI_1 t) ?_)
      · rw [hM t (by omega), decide_eq_true_eq] at z
        have hD := (i2 t z).1
        have hl := hle t
        have es : bS (nI t).toNatClampNeg = nI (ps_run c l t - ps_D c t) := by rw [nI_clamp (by omega)]; exact hB t z
        refine pk_lt τ (ps_run c l t - ps_D c t) (fun y => nm_r (nI_1 t) ?_) (fun y => ⟨vp_in_nI (by omega) (by omega), vp_in_nI (by omega) (by omega), ?_⟩) rfl es (by omega) (by omega)
        · rw [if_neg (by omega), Nat.add_zero] at ih'
          exact ih'
        · refine pk_le (ps_run c l t) τ (fun x => nm_r (nI_1 t) ?_) (fun x => ⟨pk_in (t * 2 + m) 12 (by omega) (ps_ix2 t m), nm_r (e' := nI (ps_sum (fun t => if ps_run c l t ≤ τ + ps_D c t ∧ τ < ps_run c l t then ps_A c m t else 0) t + ps_A c m t)) ?_ (nm_r (nI_1 t) ?_)⟩) ?_ rfl (by omega) (by omega)
          · rw [if_neg (by omega), Nat.add_zero] at ih'
            exact ih'
          · rw [ps_ix2, nI_clamp (by omega), hY.2.2.2.1 m t hm (by omega), nI_add]
          · rw [if_pos (by omega)] at ih'
            exact ih'
          · rw [es, nI_clamp (by omega), (hY.2.2.1 t (by omega)).1, nI_add]
            exact congrArg nI (by omega)
      · have z2 : ¬ t ∈ l := by
          intro q
          rw [hM t (by omega), decide_eq_true q] at z
          exact absurd z (by decide)
        have e0 : ps_run c l t = 0 := by
          by_cases q : ps_run c l t = 0
          · exact q
          · exact absurd ((i1 t).mpr q) z2
        rw [if_neg (by omega), Nat.add_zero] at ih'
        exact ih'
  exact ⟨_, key (ps_n c) 0 (by omega)⟩
theorem py_fits {c : ps_Cf} (hg : ps_gd c) (hf : ps_fe c) (gc gp gl : Int32) (bD bA bC bB bR bU bO bS bW : Nat → Int32) (hY : ps_Yc c gc gl bD bA bC bB bR bU) {l : List Nat} (hok : ps_ok c l) (hM : ps_Mk gp l) (hB : ∀ t, t ∈ l → bS t = nI (ps_run c l t - ps_D c t)) {t s : Nat} (ht : t < ps_n c) (hs : s < 200) (post : Int32 → Prop) (h1 : ps_fit c (ps_run c l) t s → post 1) (h0 : ¬ ps_fit c (ps_run c l) t s → post 0) : wpY_fits post (gc, gp, gl, bD, bA, bC, bB, bR, bU, bO, bS, bW) (nI t) (nI s) := by
  have hn := hg.1
  have hD := hg.2.1 t ht
  have key : ∀ d τ, τ + d = s + ps_D c t → s ≤ τ → (ps_l c = true → ∀ q, s ≤ q → q < τ → ps_use c (ps_run c l) 0 q + ps_A c 0 t ≤ ps_C c 0 ∧ ps_use c (ps_run c l) 1 q + ps_A c 1 t ≤ ps_C c 1) → wY_fits_2 post (nI t) (nI s) gc gp gl bD bA bC bB bR bU bO bS bW (d + 1) (nI τ) := by
    intro d
    induction d with
    | zero =>
      intro τ hτ hsτ hq
      refine ⟨vp_in_nI (by omega) (by omega), br_t ?_ (h1 (fun hl q q1 q2 => hq hl q q1 (by omega)))⟩
      rw [nI_clamp (by omega), (hY.2.2.1 t ht).1, nI_add]
      exact nI_le (by omega) (by omega)
    | succ d ih =>
      intro τ hτ hsτ hq
      have hA0 := ps_A4 hg (m := 0) (t := t) (by omega) (by omega)
      have hA1 := ps_A4 hg (m := 1) (t := t) (by omega) (by omega)
      have hC0 := ps_C8 hg (m := 0) (by omega)
      have hC1 := ps_C8 hg (m := 1) (by omega)
      have hu0 := ps_use_le hg (ps_run c l) (m := 0) (by omega) τ
      have hu1 := ps_use_le hg (ps_run c l) (m := 1) (by omega) τ
      refine ⟨vp_in_nI (by omega) (by omega), br_f ?_ ?_⟩
      · rw [nI_clamp (by omega), (hY.2.2.1 t ht).1, nI_add]
        exact nI_ge (by omega) (by omega)
      · refine py_used hg hf gc gp gl bD bA bC bB bR bU bO bS bW hY hok hM hB (m := 0) (by omega) (by omega) _ ?_
        refine py_used hg hf gc gp gl bD bA bC bB bR bU bO bS bW hY hok hM hB (m := 1) (by omega) (by omega) _ ?_
        by_cases hl : ps_l c = true
        · have egl : gl = 1 := by rw [hY.2.1, if_pos hl]
          refine br_f (by rw [egl]; decide) ⟨pk_in (t * 2) 12 (by omega) (ps_ix20 t), ?_⟩
          refine pk_lt (ps_C c 0) (ps_use c (ps_run c l) 0 τ + ps_A c 0 t) (fun z => h0 (fun f => by have := (f hl τ hsτ (by omega)).1; omega)) (fun z => ⟨pk_in (t * 2 + 1) 12 (by omega) (ps_ix21 t), ?_⟩) (hY.2.2.2.2.1 0 (by omega)) ?_ (by omega) (by omega)
          · refine pk_le (ps_use c (ps_run c l) 1 τ + ps_A c 1 t) (ps_C c 1) (fun y => nm_r (nI_1 τ) (ih (τ + 1) (by omega) (by omega) (fun _ q q1 q2 => ?_))) (fun y => h0 (fun f => by have := (f hl τ hsτ (by omega)).2; omega)) ?_ (hY.2.2.2.2.1 1 (by omega)) (by omega) (by omega)
            · by_cases e : q = τ
              · subst e; exact ⟨z, y⟩
              · exact hq hl q q1 (by omega)
            · rw [ps_ix21, nI_clamp (by omega), hY.2.2.2.1 1 t (by omega) ht, nI_add]
          · rw [ps_ix20, nI_clamp (by omega), show bA (t * 2) = nI (ps_A c 0 t) from hY.2.2.2.1 0 t (by omega) ht, nI_add]
        · have egl : gl = 0 := by rw [hY.2.1, if_neg hl]
          exact br_t egl (nm_r (nI_1 τ) (ih (τ + 1) (by omega) (by omega) (fun z => absurd z hl)))
  exact ⟨_, key (ps_D c t) s (by omega) (by omega) (fun _ q q1 q2 => by omega)⟩
theorem py_place {c : ps_Cf} (hg : ps_gd c) (hf : ps_fe c) (gc gp gl : Int32) (bD bA bC bB bR bU bO bS bW : Nat → Int32) (hY : ps_Yc c gc gl bD bA bC bB bR bU) {l : List Nat} {t : Nat} (hok : ps_ok c (t :: l)) (hM : ps_Mk gp l) (hB : ∀ t, t ∈ l → bS t = nI (ps_run c l t - ps_D c t)) (post : SY → Prop)
    (h : ∀ gp' bS', ps_Mk gp' (t :: l) → bS' t = nI (ps_run c (t :: l) t - ps_D c t) → (∀ j, j ≠ t → bS' j = bS j) → post (gc, gp', gl, bD, bA, bC, bB, bR, bU, bO, bS', bW)) : wpY_place post (gc, gp, gl, bD, bA, bC, bB, bR, bU, bO, bS, bW) (nI t) := by
  have hn := hg.1
  have ht := hok.2.1
  have hD := hg.2.1 t ht
  obtain ⟨i1, i2, i3⟩ := ps_inv hg hf l hok.1
  have hle := ps_run_le hg hf hok.1
  obtain ⟨hF, hs75⟩ := ps_first hg hf hok
  have er : ps_run c (t :: l) t - ps_D c t = ps_est c (ps_run c l) t := by rw [ps_run_s]; omega
  obtain ⟨f1, f2, f3⟩ := hF
  generalize hse : ps_est c (ps_run c l) t = s at f1 f2 f3 hs75 er
  have k60 : ∀ d k q, k + d = 100 → ps_rdy c (ps_run c l) t t ≤ q → q ≤ s → (q < s → q = ps_rdy c (ps_run c l) t t + k) → wY_place_60 post (nI t) gc gp gl bD bA bC bB bR bU bO bS bW (d + 1) (nI q) (nI k) := by
    intro d
    induction d with
    | zero =>
      intro k q hk h1 h2 h3
      have eq : q = s := by
        by_cases z : q < s
        · have := h3 z; omega
        · omega
      refine br_t (nI_le (a := 100) (b := k) (by omega) (by omega)) ⟨vp_in_nI (by omega) (by omega), nm_e (nm_e (h _ _ (fun i hi => ?_) ?_ (fun j hj => ?_)))⟩
      · rw [ps_set (by omega) hi, hM i hi, ← Bool.decide_or]
        congr 1
        rw [List.mem_cons]
        exact propext ⟨fun z => z.elim Or.inr Or.inl, fun z => z.elim Or.inr Or.inl⟩
      · rw [nI_clamp (by omega), pk_us, er, eq]
      · rw [nI_clamp (by omega), pk_un hj]
    | succ d ih =>
      intro k q hk h1 h2 h3
      refine br_f (nI_ge (b := 100) (a := k) (by omega) (by omega)) ?_
      refine py_fits hg hf gc gp gl bD bA bC bB bR bU bO bS bW hY hok.1 hM hB ht (by omega) _ (fun z => br_f (by decide) (nm_r (nI_1 k) (ih (k + 1) q (by omega) h1 h2 (fun y => absurd z (f3 q h1 y))))) (fun z => br_t rfl (nm_r (nI_1 q) (nm_r (nI_1 k) (ih (k + 1) (q + 1) (by omega) (by omega) ?_ ?_))))
      · by_cases e : q = s
        · subst e; exact absurd f2 z
        · omega
      · intro y
        have := h3 (by omega)
        omega
  have k9 : ∀ d b, b + d = t → wY_place_9 post (nI t) gc gp gl bD bA bC bB bR bU bO bS bW (d + 1) (nI (ps_rdy c (ps_run c l) t b)) (nI b) := by
    intro d
    induction d with
    | zero =>
      intro b hb
      have eb : b = t := by omega
      subst eb
      exact br_t (nI_le (by omega) (by omega)) ⟨101, k60 100 0 _ (by omega) (by omega) f1 (fun _ => rfl)⟩
    | succ d ih =>
      intro b hb
      have ih' := ih (b + 1) (by omega)
      rw [ps_rdy] at ih'
      have hrb := ps_rdy_le (c := c) (E := ps_run c l) (t := t) (M := 75) (by omega) hle b
      have hbb : bt (bB (nI t).toNatClampNeg) b = (decide (b < t) && ps_B c b t) := by rw [nI_clamp (by omega)]; exact hY.2.2.2.2.2 t ht b (by omega)
      rw [decide_eq_true (by omega : b < t), Bool.true_and] at hbb
      refine br_f (nI_ge (by omega) (by omega)) ⟨vp_in_nI (by omega) (by omega), vp_in_nI (by omega) (by omega), nm_e ⟨vp_in_nI (by omega) (by omega), ?_⟩⟩
      refine ps_bit1 (by omega) (fun z => ?_) (fun z => nm_r (nI_1 b) ?_)
      · rw [hbb] at z
        have hbl := hok.2.2.2 b (by omega) z
        have hDb := (i2 b hbl).1
        have hlb := hle b
        have ee : bS (nI b).toNatClampNeg + bD (nI b).toNatClampNeg = nI (ps_run c l b) := by
          rw [nI_clamp (by omega), hB b hbl, (hY.2.2.1 b (by omega)).1, nI_add]
          exact congrArg nI (by omega)
        refine pk_le (ps_run c l b) (ps_rdy c (ps_run c l) t b) (fun y => nm_r (nI_1 b) ?_) (fun y => nm_r (nI_1 b) ?_) ee rfl (by omega) (by omega)
        · rw [if_neg (by omega)] at ih'
          exact ih'
        · rw [if_pos ⟨z, y⟩] at ih'
          rw [ee]
          exact ih'
      · rw [hbb] at z
        rw [if_neg (fun q => by rw [z] at q; exact absurd q.1 (by decide))] at ih'
        exact ih'
  exact ⟨vp_in_nI (by omega) (by omega), nm_r (e' := nI (ps_R c t)) (by rw [nI_clamp (by omega)]; exact (hY.2.2.1 t ht).2.1) ⟨_, k9 t 0 (by omega)⟩⟩
def ps_aim (c : ps_Cf) (p : Int32) (w : Nat → Nat → Int) : Prop := (p = -1 ∧ w = ps_wl) ∨ (p = -2 ∧ w = ps_wt c) ∨ ∃ a, a < ps_n c ∧ p = nI a ∧ w = ps_we a
theorem ps_aim_wb {c : ps_Cf} (hg : ps_gd c) {p : Int32} {w : Nat → Nat → Int} (h : ps_aim c p w) : ps_wb c w := by
  rcases h with ⟨_, e⟩ | ⟨_, e⟩ | ⟨a, _, _, e⟩
  · rw [e]; exact ps_wb_l c
  · rw [e]; exact ps_wb_t hg
  · rw [e]; exact ps_wb_e c a
theorem ps_nm2 {x : Nat} (h : x < 2147483648) : ¬ nI x = -2 := by
  intro q
  have := nI_pos (n := x) (by omega)
  rw [q] at this
  exact this (by decide)
theorem py_worth {c : ps_Cf} (hg : ps_gd c) (gc gp gl : Int32) (bD bA bC bB bR bU bO bS bW : Nat → Int32) (hY : ps_Yc c gc gl bD bA bC bB bR bU) {p : Int32} {w : Nat → Nat → Int} (hp : ps_aim c p w) {t e : Nat} (ht : t < ps_n c) (he : ps_D c t ≤ e) (he2 : e ≤ 75) (hS : bS t = nI (e - ps_D c t)) (post : Int32 → Prop) (h : post (ps_i (w t e))) : wpY_worth post (gc, gp, gl, bD, bA, bC, bB, bR, bU, bO, bS, bW) (nI t) p := by
  have hn := hg.1
  have hU := hg.2.1 t ht
  have ee : bS (nI t).toNatClampNeg + bD (nI t).toNatClampNeg = nI e := by
    rw [nI_clamp (by omega), hS, (hY.2.2.1 t ht).1, nI_add]
    exact congrArg nI (by omega)
  refine ⟨vp_in_nI (by omega) (by omega), vp_in_nI (by omega) (by omega), nm_r ee ?_⟩
  rcases hp with ⟨e1, e2⟩ | ⟨e1, e2⟩ | ⟨a, ha, e1, e2⟩
  · subst e1 e2
    refine br_t rfl ?_
    rw [ps_i_n (by omega)]
    exact h
  · subst e1 e2
    refine br_f (by decide) (br_t rfl ⟨vp_in_nI (by omega) (by omega), ?_⟩)
    rw [nI_clamp (by omega), (hY.2.2.1 t ht).2.2, ps_i_sub (by omega) (by omega)]
    exact h
  · subst e1 e2
    refine br_f (ps_nm1 (by omega)) (br_f (ps_nm2 (by omega)) ?_)
    refine pk_eq a t (fun z => ?_) (fun z => ?_) rfl rfl (by omega) (by omega)
    · rw [ps_i_n (by omega)]
      unfold ps_we at h
      rw [if_pos z.symm] at h
      exact h
    · unfold ps_we at h
      rw [if_neg (fun q => z q.symm)] at h
      rw [show (-100000 : Int32) = ps_i (-100000) from by decide]
      exact h
theorem py_cand {c : ps_Cf} (hg : ps_gd c) (gc gp gl : Int32) (bD bA bC bB bR bU bO bS bW : Nat → Int32) (hY : ps_Yc c gc gl bD bA bC bB bR bU) {l : List Nat} (hok : ps_ok c l) (hM : ps_Mk gp l) {v cc : Nat} (hv : v < 7) (hcc : cc ≤ ps_n c) (hO : bO v + 1 = nI cc) (post : Int32 → Prop)
    (h1 : ∀ t, cc ≤ t → t < ps_n c → ps_ok c (t :: l) → (∀ q, cc ≤ q → q < t → ¬ ps_ok c (q :: l)) → post (nI t)) (h2 : (∀ q, cc ≤ q → q < ps_n c → ¬ ps_ok c (q :: l)) → post (nI (ps_n c))) : wpY_candidate post (gc, gp, gl, bD, bA, bC, bB, bR, bU, bO, bS, bW) (nI v) := by
  have hn := hg.1
  have key : ∀ d t, t + d = ps_n c → cc ≤ t → (∀ q, cc ≤ q → q < t → ¬ ps_ok c (q :: l)) → wY_candidate_9 post gc gp gl bD bA bC bB bR bU bO bS bW (d + 1) (nI t) := by
    intro d
    induction d with
    | zero =>
      intro t ht hct hq
      have et : t = ps_n c := by omega
      subst et
      exact br_t (by rw [hY.1]; exact nI_le (by omega) (by omega)) (by rw [hY.1]; exact h2 hq)
    | succ d ih =>
      intro t ht hct hq
      have ih' : ¬ ps_ok c (t :: l) → wY_candidate_9 post gc gp gl bD bA bC bB bR bU bO bS bW (d + 1) (nI (t + 1)) := fun z => ih (t + 1) (by omega) (by omega) (fun q q1 q2 => by
        by_cases e : q = t
        · subst e; exact z
        · exact hq q q1 (by omega))
      refine br_f (by rw [hY.1]; exact nI_ge (by omega) (by omega)) ?_
      refine ps_bit0 (by omega) (fun z => ⟨vp_in_nI (by omega) (by omega), ?_⟩) (fun z => nm_r (nI_1 t) (ih' (fun q => ?_)))
      · rw [hM t (by omega), decide_eq_false_iff_not] at z
        have eb : (bB (nI t).toNatClampNeg &&& (gp ^^^ (-1))) = 0 ↔ ∀ b, b < t → ps_B c b t = true → b ∈ l := by
          rw [nI_clamp (by omega), ps_sub0]
          constructor
          · intro q b hb hB
            have := q b (by omega) (by rw [hY.2.2.2.2.2 t (by omega) b (by omega), decide_eq_true hb, hB]; rfl)
            rw [hM b (by omega), decide_eq_true_eq] at this
            exact this
          · intro q i hi hb
            rw [hY.2.2.2.2.2 t (by omega) i hi, Bool.and_eq_true, decide_eq_true_eq] at hb
            rw [hM i hi, decide_eq_true_eq]
            exact q i hb.1 hb.2
        rw [eb]
        exact br_c (fun q => h1 t hct (by omega) ⟨hok, by omega, z, q⟩ hq) (fun q => nm_r (nI_1 t) (ih' (fun f => q f.2.2.2)))
      · rw [hM t (by omega), decide_eq_true_eq] at z
        exact q.2.2.1 z
  exact ⟨vp_in_nI (by omega) (by omega), nm_r (e' := nI cc) (by rw [nI_clamp (by omega)]; exact hO) ⟨_, key (ps_n c - cc) cc (by omega) (by omega) (fun q q1 q2 => by omega)⟩⟩
