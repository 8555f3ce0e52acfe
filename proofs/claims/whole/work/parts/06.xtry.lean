def ps_wl : Nat → Nat → Int := fun _ e => (e : Int)
def ps_wt (c : ps_Cf) : Nat → Nat → Int := fun t e => (e : Int) - (ps_U c t : Int)
def ps_we (a : Nat) : Nat → Nat → Int := fun t e => if t = a then (e : Int) else -100000
theorem ps_wb_l (c : ps_Cf) : ps_wb c ps_wl := by
  intro t e _
  unfold ps_wl
  omega
theorem ps_wb_t {c : ps_Cf} (hg : ps_gd c) : ps_wb c (ps_wt c) := by
  intro t e ht
  have := hg.2.1 t ht
  unfold ps_wt
  omega
theorem ps_wb_e (c : ps_Cf) (a : Nat) : ps_wb c (ps_we a) := by
  intro t e _
  unfold ps_we
  split <;> omega
theorem ps_we_mx {c : ps_Cf} {a : Nat} (ha : a < ps_n c) (E : Nat → Nat) : ps_mx c (ps_we a) E (E a : Int) := by
  refine ⟨fun t _ => ?_, a, ha, if_pos rfl⟩
  unfold ps_we
  split
  · rename_i e; rw [e]; exact Int.le_refl _
  · omega
theorem px_len {c : ps_Cf} (hg : ps_gd c) (fc fl ft : Int32) (aD aR aU aA aC aB aO aE aS aL : Nat → Int32) (hfc : fc = nI (ps_n c)) (h0 : 0 < ps_n c) {E : Nat → Nat} (hE : ∀ t, t < ps_n c → aE t = nI (E t) ∧ E t ≤ 75) (post : Int32 → Prop) (h : ∀ z, ps_mx c ps_wl E z → 0 ≤ z → z ≤ 75 → post (ps_i z)) : wpX_lengthOfPlan post (fc, fl, ft, aD, aR, aU, aA, aC, aB, aO, aE, aS, aL) := by
  have hn := hg.1
  have key : ∀ d t z x, x = ps_i z → t + d = ps_n c → 0 ≤ z → z ≤ 75 → (∀ k, k < t → (E k : Int) ≤ z) → (z = 0 ∨ ∃ k, k < t ∧ (E k : Int) = z) → wX_lengthOfPlan_4 post fc fl ft aD aR aU aA aC aB aO aE aS aL (d + 1) x (nI t) := by
    intro d
    induction d with
    | zero =>
      intro t z x hx ht z0 z1 hk hz
      subst hx
      refine br_t (by rw [hfc]; exact nI_le (by omega) (by omega)) (h z ⟨fun k hk2 => hk k (by omega), ?_⟩ z0 z1)
      rcases hz with e | ⟨k, hk2, e⟩
      · have := hk 0 (by omega)
        exact ⟨0, h0, by unfold ps_wl; omega⟩
      · exact ⟨k, by omega, e⟩
    | succ d ih =>
      intro t z x hx ht z0 z1 hk hz
      have hEt := hE t (by omega)
      refine br_f (by rw [hfc]; exact nI_ge (by omega) (by omega)) ⟨vp_in_nI (by omega) (by omega), ?_⟩
      have ex : aE (nI t).toNatClampNeg = ps_i (E t : Int) := by rw [nI_clamp (by omega), hEt.1, ps_i_n (by omega)]
      refine ps_cle (E t : Int) z (fun y => nm_r (nI_1 t) (ih (t + 1) z x hx (by omega) z0 z1 (fun k hk2 => ?_) ?_)) (fun y => ⟨vp_in_nI (by omega) (by omega), nm_r ex (nm_r (nI_1 t) (ih (t + 1) (E t : Int) _ rfl (by omega) (by omega) (by omega) (fun k hk2 => ?_) (Or.inr ⟨t, by omega, rfl⟩)))⟩) ex hx (by omega) (by omega) (by omega) (by omega)
      · by_cases e : k = t
        · subst e; exact y
        · exact hk k (by omega)
      · rcases hz with e | ⟨k, hk2, e⟩
        · exact Or.inl e
        · exact Or.inr ⟨k, by omega, e⟩
      · by_cases e : k = t
        · subst e; exact Int.le_refl _
        · have := hk k (by omega)
          omega
  exact ⟨_, key (ps_n c) 0 0 0 (by decide) (by omega) (by omega) (by omega) (fun k hk => absurd hk (Nat.not_lt_zero k)) (Or.inl rfl)⟩
theorem px_late {c : ps_Cf} (hg : ps_gd c) (fc fl ft : Int32) (aD aR aU aA aC aB aO aE aS aL : Nat → Int32) (hX : ps_Xc c fc aD aR aU aA aC aB) (h0 : 0 < ps_n c) {E : Nat → Nat} (hE : ∀ t, t < ps_n c → aE t = nI (E t) ∧ E t ≤ 75) (post : Int32 → Prop) (h : ∀ z, ps_mx c (ps_wt c) E z → -99 ≤ z → z ≤ 75 → post (ps_i z)) : wpX_latenessOfPlan post (fc, fl, ft, aD, aR, aU, aA, aC, aB, aO, aE, aS, aL) := by
  have hn := hg.1
  have hfc := hX.1
  have key : ∀ d t z x, x = ps_i z → t + d = ps_n c → -1000000 ≤ z → z ≤ 75 → (∀ k, k < t → (E k : Int) - ps_U c k ≤ z) → (z = -1000000 ∨ ∃ k, k < t ∧ (E k : Int) - ps_U c k = z) → wX_latenessOfPlan_5 post fc fl ft aD aR aU aA aC aB aO aE aS aL (d + 1) x (nI t) := by
    intro d
    induction d with
    | zero =>
      intro t z x hx ht z0 z1 hk hz
      subst hx
      have hk0 := hk 0 (by omega)
      have hU0 := (hg.2.1 0 h0)
      refine br_t (by rw [hfc]; exact nI_le (by omega) (by omega)) (h z ⟨fun k hk2 => hk k (by omega), ?_⟩ (by omega) z1)
      rcases hz with e | ⟨k, hk2, e⟩
      · omega
      · exact ⟨k, by omega, e⟩
    | succ d ih =>
      intro t z x hx ht z0 z1 hk hz
      have hEt := hE t (by omega)
      have hUt := (hg.2.1 t (by omega))
      refine br_f (by rw [hfc]; exact nI_ge (by omega) (by omega)) ⟨vp_in_nI (by omega) (by omega), vp_in_nI (by omega) (by omega), ?_⟩
      have ex : aE (nI t).toNatClampNeg - aU (nI t).toNatClampNeg = ps_i ((E t : Int) - ps_U c t) := by rw [nI_clamp (by omega), hEt.1, (hX.2.1 t (by omega)).2.2, ps_i_sub (by omega) (by omega)]
      refine nm_r ex (ps_cle ((E t : Int) - ps_U c t) z (fun y => nm_r (nI_1 t) (ih (t + 1) z x hx (by omega) z0 z1 (fun k hk2 => ?_) ?_)) (fun y => nm_r (nI_1 t) (ih (t + 1) ((E t : Int) - ps_U c t) _ rfl (by omega) (by omega) (by omega) (fun k hk2 => ?_) (Or.inr ⟨t, by omega, rfl⟩))) rfl hx (by omega) (by omega) (by omega) (by omega))
      · by_cases e : k = t
        · subst e; exact y
        · exact hk k (by omega)
      · rcases hz with e | ⟨k, hk2, e⟩
        · exact Or.inl e
        · exact Or.inr ⟨k, by omega, e⟩
      · by_cases e : k = t
        · subst e; exact Int.le_refl _
        · have := hk k (by omega)
          omega
  exact ⟨_, key (ps_n c) 0 (-1000000) (-1000000) (by decide) (by omega) (by omega) (by omega) (fun k hk => absurd hk (Nat.not_lt_zero k)) (Or.inl rfl)⟩
theorem px_note38 {c : ps_Cf} (hg : ps_gd c) (fc fl ft : Int32) (aD aR aU aA aC aB aO aE aS aL : Nat → Int32) (hfc : fc = nI (ps_n c)) {E : Nat → Nat} (hE : ∀ t, t < ps_n c → aE t = nI (E t) ∧ E t ≤ 75) {ze : Nat → Int} (hz : ∀ t, t < ps_n c → -1000 ≤ ze t ∧ ze t ≤ 1000000) (hL : ∀ t, t < ps_n c → aL t = ps_i (ze t)) (post : SX → Prop)
    (h : ∀ aL', (∀ t, t < ps_n c → aL' t = ps_i (if ze t ≤ (E t : Int) then ze t else (E t : Int))) → post (fc, fl, ft, aD, aR, aU, aA, aC, aB, aO, aE, aS, aL')) : ∃ n38, wX_noteLeast_38 post fc fl ft n38 0 aD aR aU aA aC aB aO aE aS aL := by
  have hn := hg.1
  have key : ∀ d t aL, t + d = ps_n c → (∀ k, k < ps_n c → aL k = ps_i (if k < t then (if ze k ≤ (E k : Int) then ze k else (E k : Int)) else ze k)) → wX_noteLeast_38 post fc fl ft (d + 1) (nI t) aD aR aU aA aC aB aO aE aS aL := by
    intro d
    induction d with
    | zero =>
      intro t aL ht hk
      refine br_t (by rw [hfc]; exact nI_le (by omega) (by omega)) (h aL (fun k hk2 => ?_))
      rw [hk k hk2, if_pos (by omega)]
    | succ d ih =>
      intro t aL ht hk
      have hEt := hE t (by omega)
      have hzt := hz t (by omega)
      have e1 : aL (nI t).toNatClampNeg = ps_i (ze t) := by rw [nI_clamp (by omega), hk t (by omega), if_neg (by omega)]
      have e2 : aE (nI t).toNatClampNeg = ps_i (E t : Int) := by rw [nI_clamp (by omega), hEt.1, ps_i_n (by omega)]
      refine br_f (by rw [hfc]; exact nI_ge (by omega) (by omega)) ⟨vp_in_nI (by omega) (by omega), vp_in_nI (by omega) (by omega), ?_⟩
      refine ps_cle (ze t) (E t : Int) (fun y => nm_r (nI_1 t) (ih (t + 1) aL (by omega) (fun k hk2 => ?_))) (fun y => ⟨vp_in_nI (by omega) (by omega), vp_in_nI (by omega) (by omega), nm_e (nm_r (nI_1 t) (ih (t + 1) _ (by omega) (fun k hk2 => ?_)))⟩) e1 e2 (by omega) (by omega) (by omega) (by omega)
      · rw [hk k hk2]
        by_cases e : k = t
        · subst e
          rw [if_neg (by omega), if_pos (by omega), if_pos y]
        · by_cases f : k < t
          · rw [if_pos f, if_pos (show k < t + 1 from by omega)]
          · rw [if_neg f, if_neg (show ¬ k < t + 1 from by omega)]
      · rw [e2, nI_clamp (by omega)]
        by_cases e : k = t
        · subst e
          rw [pk_us, if_pos (by omega), if_neg (by omega)]
        · rw [pk_un e, hk k hk2]
          by_cases f : k < t
          · rw [if_pos f, if_pos (show k < t + 1 from by omega)]
          · rw [if_neg f, if_neg (show ¬ k < t + 1 from by omega)]
  exact ⟨_, key (ps_n c) 0 aL (by omega) (fun k hk => by rw [hL k hk, if_neg (Nat.not_lt_zero k)])⟩
theorem px_note18 {c : ps_Cf} (hg : ps_gd c) (fc fl ft : Int32) (aD aR aU aA aC aB aO aE aS aL : Nat → Int32) (hX : ps_Xc c fc aD aR aU aA aC aB) (h0 : 0 < ps_n c) {E : Nat → Nat} (hE : ∀ t, t < ps_n c → aE t = nI (E t) ∧ E t ≤ 75) {zt : Int} (ht : ft = ps_i zt) (zt1 : -1000 ≤ zt ∧ zt ≤ 1000000) {ze : Nat → Int} (hz : ∀ t, t < ps_n c → -1000 ≤ ze t ∧ ze t ≤ 1000000) (hL : ∀ t, t < ps_n c → aL t = ps_i (ze t)) (post : SX → Prop)
    (h : ∀ T, ps_mx c (ps_wt c) E T → -99 ≤ T → T ≤ 75 → ∀ aL', (∀ t, t < ps_n c → aL' t = ps_i (if ze t ≤ (E t : Int) then ze t else (E t : Int))) → post (fc, fl, ps_i (if zt ≤ T then zt else T), aD, aR, aU, aA, aC, aB, aO, aE, aS, aL')) : wX_noteLeast_18 post fc fl ft aD aR aU aA aC aB aO aE aS aL := by
  refine px_late hg fc fl ft aD aR aU aA aC aB aO aE aS aL hX h0 hE _ (fun T hT t1 t2 => ?_)
  refine ps_cle zt T (fun y => ?_) (fun y => ?_) ht rfl (by omega) (by omega) (by omega) (by omega)
  · refine px_note38 hg fc fl ft aD aR aU aA aC aB aO aE aS aL hX.1 hE hz hL post (fun aL' hL' => ?_)
    have := h T hT t1 t2 aL' hL'
    rw [if_pos y, ← ht] at this
    exact this
  · refine px_note38 hg fc fl (ps_i T) aD aR aU aA aC aB aO aE aS aL hX.1 hE hz hL post (fun aL' hL' => ?_)
    have := h T hT t1 t2 aL' hL'
    rw [if_neg (by omega)] at this
    exact this
theorem px_note {c : ps_Cf} (hg : ps_gd c) (fc fl ft : Int32) (aD aR aU aA aC aB aO aE aS aL : Nat → Int32) (hX : ps_Xc c fc aD aR aU aA aC aB) (h0 : 0 < ps_n c) {E : Nat → Nat} (hE : ∀ t, t < ps_n c → aE t = nI (E t) ∧ E t ≤ 75) {zl zt : Int} (hl : fl = ps_i zl) (zl1 : -1000 ≤ zl ∧ zl ≤ 1000000) (ht : ft = ps_i zt) (zt1 : -1000 ≤ zt ∧ zt ≤ 1000000) {ze : Nat → Int} (hz : ∀ t, t < ps_n c → -1000 ≤ ze t ∧ ze t ≤ 1000000) (hL : ∀ t, t < ps_n c → aL t = ps_i (ze t)) (post : SX → Prop)
    (h : ∀ L T, ps_mx c ps_wl E L → -99 ≤ L → L ≤ 75 → ps_mx c (ps_wt c) E T → -99 ≤ T → T ≤ 75 → ∀ aL', (∀ t, t < ps_n c → aL' t = ps_i (if ze t ≤ (E t : Int) then ze t else (E t : Int))) → post (fc, ps_i (if zl ≤ L then zl else L), ps_i (if zt ≤ T then zt else T), aD, aR, aU, aA, aC, aB, aO, aE, aS, aL')) : wpX_noteLeast post (fc, fl, ft, aD, aR, aU, aA, aC, aB, aO, aE, aS, aL) := by
  refine px_len hg fc fl ft aD aR aU aA aC aB aO aE aS aL hX.1 h0 hE _ (fun L hLm l1 l2 => ?_)
  refine ps_cle zl L (fun y => ?_) (fun y => ?_) hl rfl (by omega) (by omega) (by omega) (by omega)
  · refine px_note18 hg fc fl ft aD aR aU aA aC aB aO aE aS aL hX h0 hE ht zt1 hz hL post (fun T hT t1 t2 aL' hL' => ?_)
    have := h L T hLm (by omega) l2 hT t1 t2 aL' hL'
    rw [if_pos y, ← hl] at this
    exact this
  · refine px_note18 hg fc (ps_i L) ft aD aR aU aA aC aB aO aE aS aL hX h0 hE ht zt1 hz hL post (fun T hT t1 t2 aL' hL' => ?_)
    have := h L T hLm (by omega) l2 hT t1 t2 aL' hL'
    rw [if_neg (show ¬ zl ≤ L from by omega)] at this
    exact this
/-! the least over the numbers so far -/
def ps_li (c : ps_Cf) (u : Nat) : List Nat := ps_lst (ps_ro u (ps_n c)) (ps_n c)
def ps_MI (c : ps_Cf) (w : Nat → Nat → Int) (i : Nat) (z : Int) : Prop := (-1000 ≤ z ∧ z ≤ 1000000) ∧ (z = 1000000 ∨ ∃ u, ps_ok c (ps_li c u) ∧ ps_mx c w (ps_run c (ps_li c u)) z) ∧ ∀ u, u < i → ps_ok c (ps_li c u) → ∀ q, ps_mx c w (ps_run c (ps_li c u)) q → z ≤ q
theorem ps_MI0 (c : ps_Cf) (w : Nat → Nat → Int) : ps_MI c w 0 1000000 := ⟨by omega, Or.inl rfl, fun u hu => absurd hu (Nat.not_lt_zero u)⟩
theorem ps_MIn {c : ps_Cf} {w : Nat → Nat → Int} {i : Nat} {z : Int} (h : ps_MI c w i z) (ho : ¬ ps_ok c (ps_li c i)) : ps_MI c w (i + 1) z := by
  refine ⟨h.1, h.2.1, fun u hu hk q hq => ?_⟩
  by_cases e : u = i
  · subst e; exact absurd hk ho
  · exact h.2.2 u (by omega) hk q hq
theorem ps_MIs {c : ps_Cf} {w : Nat → Nat → Int} {i : Nat} {z L : Int} (h : ps_MI c w i z) (ho : ps_ok c (ps_li c i)) (hL : ps_mx c w (ps_run c (ps_li c i)) L) (l1 : -99 ≤ L) (l2 : L ≤ 75) : ps_MI c w (i + 1) (if z ≤ L then z else L) := by
  obtain ⟨h1, h2, h3⟩ := h
  by_cases y : z ≤ L
  · rw [if_pos y]
    refine ⟨h1, h2, fun u hu hk q hq => ?_⟩
    by_cases e : u = i
    · subst e
      rw [ps_mx_u hq hL]
      exact y
    · exact h3 u (by omega) hk q hq
  · rw [if_neg y]
    refine ⟨by omega, Or.inr ⟨i, ho, hL⟩, fun u hu hk q hq => ?_⟩
    by_cases e : u = i
    · subst e
      rw [ps_mx_u hq hL]
      exact Int.le_refl _
    · have := h3 u (by omega) hk q hq
      omega
theorem ps_MIe {c : ps_Cf} {w : Nat → Nat → Int} (hg : ps_gd c) (hw : ps_wb c w) (hf : ps_fe c) {z : Int} (h : ps_MI c w (ps_fac (ps_n c)) z) : z = ps_best c w := by
  have hall : ∀ l q, ps_full c l → ps_mx c w (ps_run c l) q → z ≤ q := by
    intro l q hl hq
    obtain ⟨u, hu, e⟩ := ps_full_ro hl
    have e2 : l = ps_li c u := e
    subst e2
    exact h.2.2 u hu hl.1 q hq
  refine (ps_best_eq ⟨?_, hall⟩).symm
  rcases h.2.1 with e | ⟨u, hu, hm⟩
  · have h1 := hall _ _ (ps_idl_full c) (ps_wst_mx hw hf (ps_idl_full c))
    have h2 := ps_wst_le hg hw hf (ps_idl_full c)
    omega
  · exact ⟨ps_li c u, ⟨hu, ps_lst_len _ _⟩, hm⟩
theorem ps_fac_le : ∀ n, n ≤ 6 → ps_fac n ≤ 720 := by
  intro n h
  have : ∀ n, n < 7 → ps_fac n ≤ 720 := by decide
  exact this n (by omega)
theorem px_try46 {c : ps_Cf} (hg : ps_gd c) (hf : ps_fe c) (hl : ps_l c = true) (post : SX → Prop) (fc : Int32) (aD aR aU aA aC aB : Nat → Int32) (hX : ps_Xc c fc aD aR aU aA aC aB)
    (h : ∀ aO aE aS aL, (∀ t, t < ps_n c → aL t = ps_i (ps_best c (ps_we t))) → post (fc, ps_i (ps_best c ps_wl), ps_i (ps_best c (ps_wt c)), aD, aR, aU, aA, aC, aB, aO, aE, aS, aL)) :
    ∀ (d i : Nat) (zl zt : Int) (ze : Nat → Int) (fl ft : Int32) (aO aE aS aL : Nat → Int32), i + d = ps_fac (ps_n c) → fl = ps_i zl → ft = ps_i zt → (∀ t, t < ps_n c → aL t = ps_i (ze t)) → ps_MI c ps_wl i zl → ps_MI c (ps_wt c) i zt → (∀ t, t < ps_n c → ps_MI c (ps_we t) i (ze t)) → wX_tryAllOrders_46 post (nI (ps_fac (ps_n c))) (d + 1) (nI i) fc fl ft aD aR aU aA aC aB aO aE aS aL := by
  have hn := hg.1
  have hfac := ps_fac_le _ hn
  intro d
  induction d with
  | zero =>
    intro i zl zt ze fl ft aO aE aS aL hi hfl hft haL ml mt me
    have ei : i = ps_fac (ps_n c) := by omega
    subst ei
    refine br_t (nI_le (by omega) (by omega)) ?_
    rw [hfl, hft, ps_MIe hg (ps_wb_l c) hf ml, ps_MIe hg (ps_wb_t hg) hf mt]
    exact h aO aE aS aL (fun t ht => by rw [haL t ht, ps_MIe hg (ps_wb_e c t) hf (me t ht)])
  | succ d ih =>
    intro i zl zt ze fl ft aO aE aS aL hi hfl hft haL ml mt me
    refine br_f (nI_ge (by omega) (by omega)) ?_
    refine px_ro hg fc fl ft aD aR aU aA aC aB aO aE aS aL hX.1 (by omega) _ (fun aO' hO' => ?_)
    refine px_place hg hf hl fc fl ft aD aR aU aA aC aB aO' aE aS aL hX hO' (ps_ro_lt i _) (ps_ro_inj i _) _ (fun ho aE' aS' hE' => ?_) (fun ho aE' aS' => ?_)
    · refine br_f (by decide) ?_
      refine px_note hg fc fl ft aD aR aU aA aC aB aO' aE' aS' aL hX hf.1 (E := ps_run c (ps_li c i)) (fun t ht => ⟨hE' t ht, ps_run_le hg hf ho t⟩) hfl ml.1 hft mt.1 (fun t ht => (me t ht).1) haL _ (fun L T hL l1 l2 hT t1 t2 aL' hL' => ?_)
      refine nm_r (nI_1 i) (ih (i + 1) _ _ (fun t => if ze t ≤ (ps_run c (ps_li c i) t : Int) then ze t else (ps_run c (ps_li c i) t : Int)) _ _ aO' aE' aS' aL' (by omega) rfl rfl hL' (ps_MIs ml ho hL l1 l2) (ps_MIs mt ho hT t1 t2) (fun t ht => ps_MIs (me t ht) ho (ps_we_mx ht _) (by omega) ?_))
      have : ps_run c (ps_li c i) t ≤ 75 := ps_run_le hg hf ho t
      exact (by omega : (ps_run c (ps_li c i) t : Int) ≤ 75)
    · refine br_t rfl (nm_r (nI_1 i) (ih (i + 1) zl zt ze fl ft aO' aE' aS' aL (by omega) hfl hft haL (ps_MIn ml ho) (ps_MIn mt ho) (fun t ht => ps_MIn (me t ht) ho)))
theorem px_try {c : ps_Cf} (hg : ps_gd c) (hf : ps_fe c) (hl : ps_l c = true) (fc fl ft : Int32) (aD aR aU aA aC aB aO aE aS aL : Nat → Int32) (hX : ps_Xc c fc aD aR aU aA aC aB) (post : SX → Prop)
    (h : ∀ aO aE aS aL, (∀ t, t < ps_n c → aL t = ps_i (ps_best c (ps_we t))) → post (fc, ps_i (ps_best c ps_wl), ps_i (ps_best c (ps_wt c)), aD, aR, aU, aA, aC, aB, aO, aE, aS, aL)) : wpX_tryAllOrders post (fc, fl, ft, aD, aR, aU, aA, aC, aB, aO, aE, aS, aL) := by
  have hn := hg.1
  have hfac := ps_fac_le _ hn
  have key : ∀ d k aL, k + d = ps_n c → (∀ t, t < k → aL t = ps_i 1000000) → wX_tryAllOrders_16 post fc 1000000 1000000 (d + 1) (nI (ps_fac k)) (nI k) aD aR aU aA aC aB aO aE aS aL := by
    intro d
    induction d with
    | zero =>
      intro k aL hk hL
      have ek : k = ps_n c := by omega
      subst ek
      exact br_t (by rw [hX.1]; exact nI_le (by omega) (by omega)) ⟨ps_fac (ps_n c) + 1, px_try46 hg hf hl post fc aD aR aU aA aC aB hX h _ 0 1000000 1000000 (fun _ => 1000000) _ _ aO aE aS aL (by omega) (by decide) (by decide) hL (ps_MI0 _ _) (ps_MI0 _ _) (fun t _ => ps_MI0 _ _)⟩
    | succ d ih =>
      intro k aL hk hL
      refine br_f (by rw [hX.1]; exact nI_ge (by omega) (by omega)) ⟨vp_in_nI (by omega) (by omega), nm_e (nm_r (e' := nI (ps_fac (k + 1))) (by rw [nI_1, pk_mul]; rfl) (nm_r (nI_1 k) (ih (k + 1) _ (by omega) (fun t ht => ?_))))⟩
      rw [nI_clamp (by omega)]
      by_cases e : t = k
      · rw [e, pk_us]; decide
      · rw [pk_un e]; exact hL t (by omega)
  exact ⟨_, key (ps_n c) 0 aL (by omega) (fun t ht => absurd ht (Nat.not_lt_zero t))⟩
