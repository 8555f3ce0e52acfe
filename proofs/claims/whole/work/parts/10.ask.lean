noncomputable def ps_sh (c : ps_Cf) : Int := @ite Int (ps_fe c) (Classical.propDecidable (ps_fe c)) (ps_best c ps_wl) (-1000)
theorem ps_sh_t {c : ps_Cf} (h : ps_fe c) : ps_sh c = ps_best c ps_wl := by
  unfold ps_sh
  exact if_pos h
theorem ps_sh_f {c : ps_Cf} (h : ¬ ps_fe c) : ps_sh c = -1000 := by
  unfold ps_sh
  exact if_neg h
theorem ps_sh_in {c : ps_Cf} (hg : ps_gd c) (hf : ps_fe c) : 0 ≤ ps_sh c ∧ ps_sh c ≤ 75 := by
  rw [ps_sh_t hf]
  have hx := ps_wst_mx (ps_wb_l c) hf (ps_idl_full c)
  obtain ⟨t, ht, e⟩ := hx.2
  have hP : ∃ l, ps_full c l ∧ ps_mx c ps_wl (ps_run c l) ((0 + ps_run c (ps_idl (ps_n c)) t : Nat) : Int) := by
    refine ⟨_, ps_idl_full c, ?_⟩
    rw [Nat.zero_add]
    have e2 : ps_wl t (ps_run c (ps_idl (ps_n c)) t) = (ps_run c (ps_idl (ps_n c)) t : Int) := rfl
    rw [← e2, e]
    exact hx
  obtain ⟨s, _, _, h3, h4⟩ := ps_least (P := fun k => ∃ l, ps_full c l ∧ ps_mx c ps_wl (ps_run c l) (k : Int)) 0 _ hP
  have hls : ps_ls c ps_wl (s : Int) := by
    refine ⟨h3, fun l q hl hq => ?_⟩
    obtain ⟨t2, _, e2⟩ := hq.2
    have e3 : (ps_run c l t2 : Int) = q := e2
    by_cases z : ps_run c l t2 < s
    · exact absurd ⟨l, hl, by rw [e3]; exact hq⟩ (h4 _ (Nat.zero_le _) z)
    · omega
  have hb := ps_ls_in hg (ps_wb_l c) hf hls
  rw [ps_best_eq hls]
  omega
theorem ps_sh_b {c : ps_Cf} (hg : ps_gd c) : -1000 ≤ ps_sh c ∧ ps_sh c ≤ 75 := by
  by_cases hf : ps_fe c
  · have := ps_sh_in hg hf
    omega
  · rw [ps_sh_f hf]
    omega
theorem px_short {c : ps_Cf} (hg : ps_gd c) (hl : ps_l c = true) (fc fl ft : Int32) (aD aR aU aA aC aB aO aE aS aL : Nat → Int32) (hX : ps_Xc c fc aD aR aU aA aC aB) (post : Int32 → SX → Prop) (h : ∀ fl ft aO aE aS aL, post (ps_i (ps_sh c)) (fc, fl, ft, aD, aR, aU, aA, aC, aB, aO, aE, aS, aL)) : wpX_leastLengthOfPlans post (fc, fl, ft, aD, aR, aU, aA, aC, aB, aO, aE, aS, aL) := by
  refine px_feas hg fc fl ft aD aR aU aA aC aB aO aE aS aL hX _ (fun hf => br_f (by decide) (px_try hg hf hl fc fl ft aD aR aU aA aC aB aO aE aS aL hX _ (fun aO aE aS aL _ => ?_))) (fun hf => br_t rfl ?_)
  · rw [← ps_sh_t hf]
    exact h _ _ aO aE aS aL
  · have := h fl ft aO aE aS aL
    rw [ps_sh_f hf] at this
    rw [show (-1000 : Int32) = ps_i (-1000) from by decide]
    exact this
theorem py_short {c : ps_Cf} (hg : ps_gd c) (gc gp gl : Int32) (bD bA bC bB bR bU bO bS bW : Nat → Int32) (hY : ps_Yc c gc gl bD bA bC bB bR bU) (post : Int32 → SY → Prop) (h : ∀ gp bO bS bW, post (ps_i (ps_sh c)) (gc, gp, gl, bD, bA, bC, bB, bR, bU, bO, bS, bW)) : wpY_shortest post (gc, gp, gl, bD, bA, bC, bB, bR, bU, bO, bS, bW) := by
  refine py_feas hg gc gp gl bD bA bC bB bR bU bO bS bW hY _ (fun hf => br_f (by decide) (py_search hg hf (w := ps_wl) (Or.inl ⟨rfl, rfl⟩) gc gp gl bD bA bC bB bR bU bO bS bW hY _ (fun gp' bO' bS' bW' => ?_))) (fun hf => br_t rfl ?_)
  · rw [← ps_sh_t hf]
    exact h gp' bO' bS' bW'
  · have := h gp bO bS bW
    rw [ps_sh_f hf] at this
    rw [show (-1000 : Int32) = ps_i (-1000) from by decide]
    exact this
theorem i_vc_shortest {k : Nat} {u : SX} {v : SY} (I : i_Rel k u v) (hk : k + 4 ≤ 2048) : wpX_shortest (fun r u' => wpY_shortest (fun r' v' => r' = r ∧ i_Rel (k + 4) u' v') v) u := by
  obtain ⟨fc, fl, ft, aD, aR, aU, aA, aC, aB, aO, aE, aS, aL⟩ := u
  obtain ⟨gc, gp, gl, bD, bA, bC, bB, bR, bU, bO, bS, bW⟩ := v
  obtain ⟨c, hG, hX, hY⟩ := I
  have hg := ps_G9_gd hG
  unfold wpX_shortest
  dsimp only
  exact px_short hg hG.2.2.2.1 fc fl ft aD aR aU aA aC aB aO aE aS aL hX _ (fun fl ft aO aE aS aL => py_short hg gc gp gl bD bA bC bB bR bU bO bS bW hY _ (fun gp bO bS bW => ⟨rfl, c, hG, hX, hY⟩))
theorem i_vc_leastLateness {k : Nat} {u : SX} {v : SY} (I : i_Rel k u v) (hk : k + 4 ≤ 2048) : wpX_leastLateness (fun r u' => wpY_leastLateness (fun r' v' => r' = r ∧ i_Rel (k + 4) u' v') v) u := by
  obtain ⟨fc, fl, ft, aD, aR, aU, aA, aC, aB, aO, aE, aS, aL⟩ := u
  obtain ⟨gc, gp, gl, bD, bA, bC, bB, bR, bU, bO, bS, bW⟩ := v
  obtain ⟨c, hG, hX, hY⟩ := I
  have hg := ps_G9_gd hG
  unfold wpX_leastLateness wpY_leastLateness
  dsimp only
  refine px_feas hg fc fl ft aD aR aU aA aC aB aO aE aS aL hX _ (fun hf => br_f (by decide) (px_try hg hf hG.2.2.2.1 fc fl ft aD aR aU aA aC aB aO aE aS aL hX _ (fun aO aE aS aL _ => ?_))) (fun hf => br_t rfl ?_)
  · exact py_feas hg gc gp gl bD bA bC bB bR bU bO bS bW hY _ (fun _ => br_f (by decide) (py_search hg hf (w := ps_wt c) (Or.inr (Or.inl ⟨rfl, rfl⟩)) gc gp gl bD bA bC bB bR bU bO bS bW hY _ (fun gp bO bS bW => ⟨rfl, c, hG, hX, hY⟩))) (fun q => absurd hf q)
  · exact py_feas hg gc gp gl bD bA bC bB bR bU bO bS bW hY _ (fun q => absurd q hf) (fun _ => br_t rfl ⟨rfl, c, hG, hX, hY⟩)
theorem i_vc_earliestEnd {k : Nat} {u : SX} {v : SY} (I : i_Rel k u v) (hk : k + 4 ≤ 2048) (v1 : Int32) : wpX_earliestEnd (fun r u' => wpY_earliestEnd (fun r' v' => r' = r ∧ i_Rel (k + 4) u' v') v v1) u v1 := by
  obtain ⟨fc, fl, ft, aD, aR, aU, aA, aC, aB, aO, aE, aS, aL⟩ := u
  obtain ⟨gc, gp, gl, bD, bA, bC, bB, bR, bU, bO, bS, bW⟩ := v
  obtain ⟨c, hG, hX, hY⟩ := I
  have hg := ps_G9_gd hG
  have g1 := hG.1
  have hX1 : fc = nI (ps_n c) := hX.1
  have hY1 : gc = nI (ps_n c) := hY.1
  unfold wpX_earliestEnd wpY_earliestEnd
  dsimp only
  rcases ps_tc v1 g1 with hb | ⟨t, ht, rfl⟩
  · exact px_isT0 _ fc fl ft aD aR aU aA aC aB aO aE aS aL hX1 v1 hb _ (br_t rfl (py_bad1 _ gc gp gl bD bA bC bB bR bU bO bS bW hY1 v1 hb _ (br_f (by decide) ⟨rfl, c, hG, hX, hY⟩)))
  · refine px_isT1 _ t ht g1 fc fl ft aD aR aU aA aC aB aO aE aS aL hX1 _ (br_f (by decide) ?_)
    refine px_feas hg fc fl ft aD aR aU aA aC aB aO aE aS aL hX _ (fun hf => br_f (by decide) (px_try hg hf hG.2.2.2.1 fc fl ft aD aR aU aA aC aB aO aE aS aL hX _ (fun aO aE aS aL hL => ⟨vp_in_nI (by omega) (by omega), ?_⟩))) (fun hf => br_t rfl ?_)
    · refine py_bad0 _ t ht g1 gc gp gl bD bA bC bB bR bU bO bS bW hY1 _ (br_t rfl ?_)
      refine py_feas hg gc gp gl bD bA bC bB bR bU bO bS bW hY _ (fun _ => br_f (by decide) (py_search hg hf (w := ps_we t) (Or.inr (Or.inr ⟨t, ht, rfl, rfl⟩)) gc gp gl bD bA bC bB bR bU bO bS bW hY _ (fun gp bO bS bW => ⟨?_, c, hG, hX, hY⟩))) (fun q => absurd hf q)
      rw [nI_clamp (by omega)]
      exact (hL t ht).symm
    · exact py_bad0 _ t ht g1 gc gp gl bD bA bC bB bR bU bO bS bW hY1 _ (br_t rfl (py_feas hg gc gp gl bD bA bC bB bR bU bO bS bW hY _ (fun q => absurd q hf) (fun _ => br_t rfl ⟨rfl, c, hG, hX, hY⟩)))
def ps_c1 (c : ps_Cf) : ps_Cf := (ps_n c, ps_D c, ps_R c, ps_U c, ps_A c, ps_C c, ps_B c, false)
theorem px_nolim {c : ps_Cf} (hg : ps_gd c) (hf : ps_fe c) (hl : ps_l c = false) (fc fl ft : Int32) (aD aR aU aA aC aB aO aE aS aL : Nat → Int32) (hX : ps_Xc c fc aD aR aU aA aC aB) (post : Int32 → SX → Prop) (h : ∀ aE, post (ps_i (ps_best c ps_wl)) (fc, fl, ft, aD, aR, aU, aA, aC, aB, aO, aE, aS, aL)) : ∃ n13, wX_withoutLimits_13 post fc fl ft n13 0 aD aR aU aA aC aB aO aE aS aL := by
  have hn := hg.1
  have key : ∀ d t aE, t + d = ps_n c → (∀ j, j < t → aE j = nI (ps_run c (ps_idl t) j)) → wX_withoutLimits_13 post fc fl ft (d + 1) (nI t) aD aR aU aA aC aB aO aE aS aL := by
    intro d
    induction d with
    | zero =>
      intro t aE ht hE
      have et : t = ps_n c := by omega
      subst et
      refine br_t (by rw [hX.1]; exact nI_le (by omega) (by omega)) ?_
      refine px_len hg fc fl ft aD aR aU aA aC aB aO aE aS aL hX.1 hf.1 (E := ps_run c (ps_idl (ps_n c))) (fun j hj => ⟨hE j hj, ps_run_le hg hf (ps_idl_full c).1 j⟩) _ (fun z hz _ _ => ?_)
      rw [← ps_best_eq (ps_nl_ls hl hz)]
      exact h aE
    | succ d ih =>
      intro t aE ht hE
      have hok := ps_idl_ok (c := c) t (by omega)
      have hin := ps_inv hg hf _ hok
      refine br_f (by rw [hX.1]; exact nI_ge (by omega) (by omega)) ?_
      refine px_ready hg fc fl ft aD aR aU aA aC aB aO aE aS aL hX (t := t) (by omega) (E := ps_run c (ps_idl t)) (fun b hb => ⟨hE b hb, ps_run_le hg hf hok b⟩) _ (fun _ => ?_) (fun q => absurd (fun b hb _ => (hin.1 b).mp ((ps_idl_mem t b).mpr hb)) q)
      refine ⟨vp_in_nI (by omega) (by omega), vp_in_nI (by omega) (by omega), nm_e (nm_r (nI_1 t) (ih (t + 1) _ (by omega) (fun j hj => ?_)))⟩
      rw [nI_clamp (by omega), (hX.2.1 t (by omega)).1, nI_add, ps_idl]
      by_cases e : j = t
      · rw [e, pk_us, ps_run_s, ps_nl_est hl]
      · rw [pk_un e, ps_run_n e]
        exact hE j (by omega)
  exact ⟨_, key (ps_n c) 0 aE (by omega) (fun j hj => absurd hj (Nat.not_lt_zero j))⟩
theorem i_vc_withoutLimits {k : Nat} {u : SX} {v : SY} (I : i_Rel k u v) (hk : k + 4 ≤ 2048) : wpX_withoutLimits (fun r u' => wpY_withoutLimits (fun r' v' => r' = r ∧ i_Rel (k + 4) u' v') v) u := by
  obtain ⟨fc, fl, ft, aD, aR, aU, aA, aC, aB, aO, aE, aS, aL⟩ := u
  obtain ⟨gc, gp, gl, bD, bA, bC, bB, bR, bU, bO, bS, bW⟩ := v
  obtain ⟨c, hG, hX, hY⟩ := I
  have hg := ps_G9_gd hG
  have egl : gl = 1 := by rw [(hY : ps_Yc c gc gl bD bA bC bB bR bU).2.1, hG.2.2.2.1]; rfl
  subst egl
  unfold wpX_withoutLimits wpY_withoutLimits
  dsimp only
  have hg1 : ps_gd (ps_c1 c) := hg
  have hX1 : ps_Xc (ps_c1 c) fc aD aR aU aA aC aB := hX
  have hY' : ps_Yc c gc 1 bD bA bC bB bR bU := hY
  have hY1 : ps_Yc (ps_c1 c) gc 0 bD bA bC bB bR bU := ⟨hY'.1, rfl, hY'.2.2⟩
  refine px_feas hg fc fl ft aD aR aU aA aC aB aO aE aS aL hX _ (fun hf => br_f (by decide) ?_) (fun hf => br_t rfl ?_)
  · have hf1 : ps_fe (ps_c1 c) := hf
    refine px_nolim hg1 hf1 rfl fc fl ft aD aR aU aA aC aB aO aE aS aL hX1 _ (fun aE => ?_)
    exact py_feas hg gc gp 1 bD bA bC bB bR bU bO bS bW hY _ (fun _ => br_f (by decide) (py_search hg1 hf1 (w := ps_wl) (Or.inl ⟨rfl, rfl⟩) gc gp 0 bD bA bC bB bR bU bO bS bW hY1 _ (fun gp bO bS bW => ⟨rfl, c, hG, hX, hY⟩))) (fun q => absurd hf q)
  · exact py_feas hg gc gp 1 bD bA bC bB bR bU bO bS bW hY _ (fun q => absurd q hf) (fun _ => br_t rfl ⟨rfl, c, hG, hX, hY⟩)
