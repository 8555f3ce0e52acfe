def ps_cD (c : ps_Cf) (t : Nat) : ps_Cf := (ps_n c, ps_up (ps_D c) t (ps_D c t + 1), ps_R c, ps_U c, ps_A c, ps_C c, ps_B c, ps_l c)
theorem ps_cD_gd {c : ps_Cf} (hG : ps_G9 c) {t : Nat} (ht : t < ps_n c) : ps_gd (ps_cD c t) := by
  have hg := ps_G9_gd hG
  obtain ⟨g1, g2, g3, g4, g5⟩ := hG
  refine ⟨g1, fun j hj => ?_, ?_, hg.2.2.2.1, hg.2.2.2.2⟩
  · have h1 := g2 j hj
    have h2 := g2 t ht
    show 1 ≤ ps_up (ps_D c) t (ps_D c t + 1) j ∧ ps_up (ps_D c) t (ps_D c t + 1) j ≤ 10 ∧ ps_R c j ≤ 20 ∧ ps_U c j ≤ 99 ∧ ps_A c 0 j ≤ 4 ∧ ps_A c 1 j ≤ 4
    by_cases e : j = t
    · subst e; rw [ps_up_s]; omega
    · rw [ps_up_n e]; omega
  · show ps_sum (ps_up (ps_D c) t (ps_D c t + 1)) (ps_n c) ≤ 55
    have h1 := ps_sum_const (f := ps_D c) (n := ps_n c) (d := 9) (fun t ht => (g2 t ht).2.1)
    rw [ps_sum_add (f := ps_D c) (d := 1) ht (fun j _ hj => ps_up_n hj) ps_up_s]
    omega
noncomputable def ps_cr (c : ps_Cf) : Nat → Nat
  | 0 => 0
  | t + 1 => if ps_sh (ps_cD c t) ≤ ps_sh c then ps_cr c t else ps_cr c t + 1
theorem px_cr {c : ps_Cf} (hG : ps_G9 c) (fc : Int32) (aR aU aA aC aB : Nat → Int32) (post : Int32 → SX → Prop)
    (h : ∀ fl ft aD aO aE aS aL, ps_Xc c fc aD aR aU aA aC aB → post (nI (ps_cr c (ps_n c))) (fc, fl, ft, aD, aR, aU, aA, aC, aB, aO, aE, aS, aL)) :
    ∀ (d t : Nat) (fl ft : Int32) (aD aO aE aS aL : Nat → Int32), t + d = ps_n c → ps_Xc c fc aD aR aU aA aC aB → wX_critical_20 post (ps_i (ps_sh c)) (d + 1) (nI (ps_cr c t)) (nI t) fc fl ft aD aR aU aA aC aB aO aE aS aL := by
  have hg := ps_G9_gd hG
  have hn := hG.1
  have hsc := ps_sh_b hg
  intro d
  induction d with
  | zero =>
    intro t fl ft aD aO aE aS aL ht hX
    have et : t = ps_n c := by omega
    subst et
    exact br_t (by rw [hX.1]; exact nI_le (by omega) (by omega)) (h fl ft aD aO aE aS aL hX)
  | succ d ih =>
    intro t fl ft aD aO aE aS aL ht hX
    have hgt := ps_cD_gd hG (t := t) (by omega)
    have hst := ps_sh_b hgt
    have hX2 : ps_Xc (ps_cD c t) fc (upd aD t (nI (ps_D c t + 1))) aR aU aA aC aB := ⟨hX.1, fun j hj => ⟨ps_upd rfl (fun _ => (hX.2.1 j hj).1), (hX.2.1 j hj).2⟩, hX.2.2⟩
    have hX3 : ps_Xc c fc (upd (upd aD t (nI (ps_D c t + 1))) t (nI (ps_D c t))) aR aU aA aC aB := by
      refine ⟨hX.1, fun j hj => ⟨?_, (hX.2.1 j hj).2⟩, hX.2.2⟩
      by_cases e : j = t
      · rw [e, pk_us]
      · rw [pk_un e, pk_un e]; exact (hX.2.1 j hj).1
    refine br_f (by rw [hX.1]; exact nI_ge (by omega) (by omega)) ⟨vp_in_nI (by omega) (by omega), nm_r (e' := nI (ps_D c t)) (by rw [nI_clamp (by omega)]; exact (hX.2.1 t (by omega)).1) ⟨vp_in_nI (by omega) (by omega), nm_r (e' := upd aD t (nI (ps_D c t + 1))) (by rw [nI_clamp (by omega), nI_1]) ?_⟩⟩
    refine px_short hgt hG.2.2.2.1 fc fl ft (upd aD t (nI (ps_D c t + 1))) aR aU aA aC aB aO aE aS aL hX2 _ (fun fl ft aO aE aS aL => ?_)
    refine ⟨vp_in_nI (by omega) (by omega), nm_r (e' := upd (upd aD t (nI (ps_D c t + 1))) t (nI (ps_D c t))) (by rw [nI_clamp (by omega)]) ?_⟩
    have ih' := ih (t + 1) fl ft _ aO aE aS aL (by omega) hX3
    rw [ps_cr] at ih'
    refine ps_cle (ps_sh (ps_cD c t)) (ps_sh c) (fun y => nm_r (nI_1 t) ?_) (fun y => nm_r (nI_1 _) (nm_r (nI_1 t) ?_)) rfl rfl (by omega) (by omega) (by omega) (by omega)
    · rw [if_pos y] at ih'
      exact ih'
    · rw [if_neg (by omega)] at ih'
      exact ih'
theorem py_cr {c : ps_Cf} (hG : ps_G9 c) (gc gl : Int32) (bA bC bB bR bU : Nat → Int32) (post : Int32 → SY → Prop)
    (h : ∀ gp bD bO bS bW, ps_Yc c gc gl bD bA bC bB bR bU → post (nI (ps_cr c (ps_n c))) (gc, gp, gl, bD, bA, bC, bB, bR, bU, bO, bS, bW)) :
    ∀ (d t : Nat) (gp : Int32) (bD bO bS bW : Nat → Int32), t + d = ps_n c → ps_Yc c gc gl bD bA bC bB bR bU → wY_critical_20 post (ps_i (ps_sh c)) (d + 1) (nI (ps_cr c t)) (nI t) gc gp gl bD bA bC bB bR bU bO bS bW := by
  have hg := ps_G9_gd hG
  have hn := hG.1
  have hsc := ps_sh_b hg
  intro d
  induction d with
  | zero =>
    intro t gp bD bO bS bW ht hY
    have et : t = ps_n c := by omega
    subst et
    exact br_t (by rw [hY.1]; exact nI_le (by omega) (by omega)) (h gp bD bO bS bW hY)
  | succ d ih =>
    intro t gp bD bO bS bW ht hY
    have hgt := ps_cD_gd hG (t := t) (by omega)
    have hst := ps_sh_b hgt
    have hY2 : ps_Yc (ps_cD c t) gc gl (upd bD t (nI (ps_D c t + 1))) bA bC bB bR bU := ⟨hY.1, hY.2.1, fun j hj => ⟨ps_upd rfl (fun _ => (hY.2.2.1 j hj).1), (hY.2.2.1 j hj).2⟩, hY.2.2.2⟩
    have hY3 : ps_Yc c gc gl (upd (upd bD t (nI (ps_D c t + 1))) t (nI (ps_D c t))) bA bC bB bR bU := by
      refine ⟨hY.1, hY.2.1, fun j hj => ⟨?_, (hY.2.2.1 j hj).2⟩, hY.2.2.2⟩
      by_cases e : j = t
      · rw [e, pk_us]
      · rw [pk_un e, pk_un e]; exact (hY.2.2.1 j hj).1
    refine br_f (by rw [hY.1]; exact nI_ge (by omega) (by omega)) ⟨vp_in_nI (by omega) (by omega), vp_in_nI (by omega) (by omega), nm_r (e' := upd bD t (nI (ps_D c t + 1))) (by rw [nI_clamp (by omega), (hY.2.2.1 t (by omega)).1, nI_1]) ?_⟩
    refine py_short hgt gc gp gl (upd bD t (nI (ps_D c t + 1))) bA bC bB bR bU bO bS bW hY2 _ (fun gp bO bS bW => ?_)
    have ih' := ih (t + 1) gp _ bO bS bW (by omega) hY3
    rw [ps_cr] at ih'
    have e3 : upd (upd bD t (nI (ps_D c t + 1))) (nI t).toNatClampNeg (upd bD t (nI (ps_D c t + 1)) (nI t).toNatClampNeg - 1) = upd (upd bD t (nI (ps_D c t + 1))) t (nI (ps_D c t)) := by
      rw [nI_clamp (by omega), pk_us, nI_pred]
    refine ps_cle (ps_sh (ps_cD c t)) (ps_sh c) (fun y => ⟨vp_in_nI (by omega) (by omega), vp_in_nI (by omega) (by omega), nm_r e3 (nm_r (nI_1 t) ?_)⟩) (fun y => nm_r (nI_1 _) ⟨vp_in_nI (by omega) (by omega), vp_in_nI (by omega) (by omega), nm_r e3 (nm_r (nI_1 t) ?_)⟩) rfl rfl (by omega) (by omega) (by omega) (by omega)
    · rw [if_pos y] at ih'
      exact ih'
    · rw [if_neg (by omega)] at ih'
      exact ih'
theorem i_vc_critical {k : Nat} {u : SX} {v : SY} (I : i_Rel k u v) (hk : k + 4 ≤ 2048) : wpX_critical (fun r u' => wpY_critical (fun r' v' => r' = r ∧ i_Rel (k + 4) u' v') v) u := by
  obtain ⟨fc, fl, ft, aD, aR, aU, aA, aC, aB, aO, aE, aS, aL⟩ := u
  obtain ⟨gc, gp, gl, bD, bA, bC, bB, bR, bU, bO, bS, bW⟩ := v
  obtain ⟨c, hG, hX, hY⟩ := I
  have hg := ps_G9_gd hG
  unfold wpX_critical wpY_critical
  dsimp only
  refine px_feas hg fc fl ft aD aR aU aA aC aB aO aE aS aL hX _ (fun hf => br_f (by decide) ?_) (fun hf => br_t rfl ?_)
  · have hs := ps_sh_in hg hf
    refine px_short hg hG.2.2.2.1 fc fl ft aD aR aU aA aC aB aO aE aS aL hX _ (fun fl ft aO aE aS aL => ⟨ps_n c + 1, ?_⟩)
    refine px_cr hG fc aR aU aA aC aB _ (fun fl ft aD' aO aE aS aL hX' => ?_) (ps_n c) 0 fl ft aD aO aE aS aL (by omega) hX
    refine py_short hg gc gp gl bD bA bC bB bR bU bO bS bW hY _ (fun gp bO bS bW => ?_)
    refine br_f (by rw [show (-1000 : Int32) = ps_i (-1000) from by decide, ps_i_eq (by omega) (by omega) (by omega) (by omega)]; omega) ⟨ps_n c + 1, ?_⟩
    exact py_cr hG gc gl bA bC bB bR bU _ (fun gp bD' bO bS bW hY' => ⟨rfl, c, hG, hX', hY'⟩) (ps_n c) 0 gp bD bO bS bW (by omega) hY
  · refine py_short hg gc gp gl bD bA bC bB bR bU bO bS bW hY _ (fun gp bO bS bW => ?_)
    exact br_t (by rw [ps_sh_f hf]; decide) ⟨rfl, c, hG, hX, hY⟩
