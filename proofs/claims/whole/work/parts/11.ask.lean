theorem ps_back2 (a : Nat → Int32) {i j : Nat} (h : i ≠ j) : upd (upd (upd (upd a i 0) j 0) i (a i)) j (a j) = a := by
  funext x
  by_cases e : x = j
  · rw [e, pk_us]
  · rw [pk_un e]
    by_cases f : x = i
    · rw [f, pk_us]
    · rw [pk_un f, pk_un e, pk_un f]
def ps_c2 (c : ps_Cf) (t : Nat) : ps_Cf := (ps_n c, ps_D c, ps_R c, ps_U c, (fun m => ps_up (ps_A c m) t 0), ps_C c, ps_B c, ps_l c)
theorem i_vc_burden {k : Nat} {u : SX} {v : SY} (I : i_Rel k u v) (hk : k + 4 ≤ 2048) (v1 : Int32) : wpX_burden (fun r u' => wpY_burden (fun r' v' => r' = r ∧ i_Rel (k + 4) u' v') v v1) u v1 := by
  obtain ⟨fc, fl, ft, aD, aR, aU, aA, aC, aB, aO, aE, aS, aL⟩ := u
  obtain ⟨gc, gp, gl, bD, bA, bC, bB, bR, bU, bO, bS, bW⟩ := v
  obtain ⟨c, hG, hX, hY⟩ := I
  have hg := ps_G9_gd hG
  have g1 := hG.1
  have hX1 : fc = nI (ps_n c) := hX.1
  have hY1 : gc = nI (ps_n c) := hY.1
  unfold wpX_burden wpY_burden
  dsimp only
  rcases ps_tc v1 g1 with hb | ⟨t, ht, rfl⟩
  · exact px_isT0 _ fc fl ft aD aR aU aA aC aB aO aE aS aL hX1 v1 hb _ (br_t rfl (py_bad1 _ gc gp gl bD bA bC bB bR bU bO bS bW hY1 v1 hb _ (br_f (by decide) ⟨rfl, c, hG, hX, hY⟩)))
  · refine px_isT1 _ t ht g1 fc fl ft aD aR aU aA aC aB aO aE aS aL hX1 _ (br_f (by decide) ?_)
    refine px_feas hg fc fl ft aD aR aU aA aC aB aO aE aS aL hX _ (fun hf => br_f (by decide) ?_) (fun hf => br_t rfl ?_)
    · have hs := ps_sh_in hg hf
      have hg2 : ps_gd (ps_c2 c t) := by
        refine ⟨hg.1, fun j hj => ?_, hg.2.2.1, hg.2.2.2.1, hg.2.2.2.2⟩
        have := hg.2.1 j hj
        show 1 ≤ ps_D c j ∧ ps_D c j ≤ 10 ∧ ps_R c j ≤ 20 ∧ ps_U c j ≤ 99 ∧ ps_up (ps_A c 0) t 0 j ≤ 4 ∧ ps_up (ps_A c 1) t 0 j ≤ 4
        by_cases e : j = t
        · subst e; rw [ps_up_s, ps_up_s]; omega
        · rw [ps_up_n e, ps_up_n e]; exact this
      have hXc : ps_Xc c fc aD aR aU aA aC aB := hX
      have hYc : ps_Yc c gc gl bD bA bC bB bR bU := hY
      have hX2 : ps_Xc (ps_c2 c t) fc aD aR aU (upd (upd aA t 0) (6 + t) 0) aC aB := by
        refine ⟨hXc.1, hXc.2.1, fun m j hm hj => ?_, hXc.2.2.2.1, hXc.2.2.2.2⟩
        have hj' : j < ps_n c := hj
        show _ = nI (ps_up (ps_A c m) t 0 j)
        by_cases e : j = t
        · subst e
          rw [ps_up_s]
          by_cases f : m = 0
          · subst f
            rw [pk_un (by omega), show 0 * 6 + j = j from by omega, pk_us]; rfl
          · rw [show m * 6 + j = 6 + j from by omega, pk_us]; rfl
        · rw [ps_up_n e, pk_un (by omega), pk_un (by omega)]
          exact hXc.2.2.1 m j hm hj'
      have hY2 : ps_Yc (ps_c2 c t) gc gl bD (upd (upd bA (t * 2) 0) (t * 2 + 1) 0) bC bB bR bU := by
        refine ⟨hYc.1, hYc.2.1, hYc.2.2.1, fun m j hm hj => ?_, hYc.2.2.2.2⟩
        have hj' : j < ps_n c := hj
        show _ = nI (ps_up (ps_A c m) t 0 j)
        by_cases e : j = t
        · subst e
          rw [ps_up_s]
          by_cases f : m = 0
          · subst f
            rw [pk_un (by omega), Nat.add_zero, pk_us]; rfl
          · rw [show m = 1 from by omega, pk_us]; rfl
        · rw [ps_up_n e, pk_un (by omega), pk_un (by omega)]
          exact hYc.2.2.2.1 m j hm hj'
      have e6 : (6 : Int32) + nI t = nI (6 + t) := nI_add 6 t
      refine px_short hg hG.2.2.2.1 fc fl ft aD aR aU aA aC aB aO aE aS aL hX _ (fun fl ft aO aE aS aL => ?_)
      refine ⟨vp_in_nI (by omega) (by omega), nm_r (e' := aA t) (by rw [nI_clamp (by omega)]) ⟨pk_in (6 + t) 12 (by omega) e6, nm_r (e' := aA (6 + t)) (by rw [e6, nI_clamp (by omega)]) ⟨vp_in_nI (by omega) (by omega), nm_r (e' := upd aA t 0) (by rw [nI_clamp (by omega)]) ⟨pk_in (6 + t) 12 (by omega) e6, nm_r (e' := upd (upd aA t 0) (6 + t) 0) (by rw [e6, nI_clamp (by omega)]) ?_⟩⟩⟩⟩
      refine px_short hg2 hG.2.2.2.1 fc fl ft aD aR aU (upd (upd aA t 0) (6 + t) 0) aC aB aO aE aS aL hX2 _ (fun fl ft aO aE aS aL => ?_)
      refine ⟨vp_in_nI (by omega) (by omega), nm_r (e' := upd (upd (upd aA t 0) (6 + t) 0) t (aA t)) (by rw [nI_clamp (by omega)]) ⟨pk_in (6 + t) 12 (by omega) e6, nm_r (e' := aA) (by rw [e6, nI_clamp (by omega), ps_back2 aA (by omega)]) ?_⟩⟩
      refine py_bad0 _ t ht g1 gc gp gl bD bA bC bB bR bU bO bS bW hY1 _ (br_t rfl ?_)
      refine py_short hg gc gp gl bD bA bC bB bR bU bO bS bW hY _ (fun gp bO bS bW => ?_)
      refine br_f (by rw [show (-1000 : Int32) = ps_i (-1000) from by decide, ps_i_eq (by omega) (by omega) (by omega) (by omega)]; omega) ?_
      refine ⟨pk_in (t * 2) 12 (by omega) (ps_ix20 t), nm_r (e' := bA (t * 2)) (by rw [ps_ix20, nI_clamp (by omega)]) ⟨pk_in (t * 2 + 1) 12 (by omega) (ps_ix21 t), nm_r (e' := bA (t * 2 + 1)) (by rw [ps_ix21, nI_clamp (by omega)]) ⟨pk_in (t * 2) 12 (by omega) (ps_ix20 t), nm_r (e' := upd bA (t * 2) 0) (by rw [ps_ix20, nI_clamp (by omega)]) ⟨pk_in (t * 2 + 1) 12 (by omega) (ps_ix21 t), nm_r (e' := upd (upd bA (t * 2) 0) (t * 2 + 1) 0) (by rw [ps_ix21, nI_clamp (by omega)]) ?_⟩⟩⟩⟩
      refine py_short hg2 gc gp gl bD (upd (upd bA (t * 2) 0) (t * 2 + 1) 0) bC bB bR bU bO bS bW hY2 _ (fun gp bO bS bW => ?_)
      exact ⟨pk_in (t * 2) 12 (by omega) (ps_ix20 t), nm_r (e' := upd (upd (upd bA (t * 2) 0) (t * 2 + 1) 0) (t * 2) (bA (t * 2))) (by rw [ps_ix20, nI_clamp (by omega)]) ⟨pk_in (t * 2 + 1) 12 (by omega) (ps_ix21 t), nm_r (e' := bA) (by rw [ps_ix21, nI_clamp (by omega), ps_back2 bA (by omega)]) ⟨rfl, c, hG, hX, hY⟩⟩⟩
    · refine py_bad0 _ t ht g1 gc gp gl bD bA bC bB bR bU bO bS bW hY1 _ (br_t rfl ?_)
      refine py_short hg gc gp gl bD bA bC bB bR bU bO bS bW hY _ (fun gp bO bS bW => ?_)
      exact br_t (by rw [ps_sh_f hf]; decide) ⟨rfl, c, hG, hX, hY⟩
def ps_cK (c : ps_Cf) (m x : Nat) : ps_Cf := (ps_n c, ps_D c, ps_R c, ps_U c, ps_A c, ps_up (ps_C c) m x, ps_B c, ps_l c)
theorem ps_cKK (c : ps_Cf) (m : Nat) : ps_cK c m (ps_C c m) = c := by
  have e : ps_up (ps_C c) m (ps_C c m) = ps_C c := by
    funext j
    by_cases e : j = m
    · rw [e, ps_up_s]
    · rw [ps_up_n e]
  unfold ps_cK
  rw [e]
  rfl
theorem ps_cK_gd {c : ps_Cf} (hg : ps_gd c) {m x : Nat} (hx : x ≤ 8) : ps_gd (ps_cK c m x) := by
  have hC : ∀ j, j < 2 → ps_up (ps_C c) m x j ≤ 8 := by
    intro j hj
    by_cases e : j = m
    · rw [e, ps_up_s]; exact hx
    · rw [ps_up_n e]; exact ps_C8 hg hj
  exact ⟨hg.1, hg.2.1, hg.2.2.1, hC 0 (by omega), hC 1 (by omega)⟩
def ps_lc (c : ps_Cf) (m r : Nat) : Prop := (1 ≤ r ∧ r ≤ ps_C c m) ∧ ps_sh (ps_cK c m r) = ps_sh c ∧ ∀ y, 1 ≤ y → y < r → ps_sh (ps_cK c m y) ≠ ps_sh c
theorem ps_lc_u {c : ps_Cf} {m r s : Nat} (h : ps_lc c m r) (g : ps_lc c m s) : r = s := by
  by_cases a : r < s
  · exact absurd h.2.1 (g.2.2 r h.1.1 a)
  · by_cases b : s < r
    · exact absurd g.2.1 (h.2.2 s g.1.1 b)
    · omega
theorem px_lc {c : ps_Cf} (hg : ps_gd c) (hl : ps_l c = true) {m : Nat} (hm : m < 2) (hC : 1 ≤ ps_C c m) (fc : Int32) (aD aR aU aA aB : Nat → Int32) (post : Int32 → SX → Prop)
    (hX : ∀ aC, (∀ j, j < 2 → j ≠ m → aC j = nI (ps_C c j)) → ∀ x, ps_Xc (ps_cK c m x) fc aD aR aU aA (upd aC m (nI x)) aB)
    (h : ∀ r, ps_lc c m r → ∀ fl ft aC aO aE aS aL, (∀ j, j < 2 → j ≠ m → aC j = nI (ps_C c j)) → post (nI r) (fc, fl, ft, aD, aR, aU, aA, upd aC m (nI (ps_C c m)), aB, aO, aE, aS, aL)) :
    ∀ (d x : Nat) (fl ft : Int32) (aC aO aE aS aL : Nat → Int32), x + d = ps_C c m → 1 ≤ x → (∀ j, j < 2 → j ≠ m → aC j = nI (ps_C c j)) → (∀ y, 1 ≤ y → y < x → ps_sh (ps_cK c m y) ≠ ps_sh c) → wX_leastCapacity_40 post (nI m) (ps_i (ps_sh c)) (nI (ps_C c m)) (nI (ps_C c m)) (d + 1) (nI x) fc fl ft aD aR aU aA aC aB aO aE aS aL := by
  have h8 := ps_C8 hg hm
  have hsc := ps_sh_b hg
  intro d
  induction d with
  | zero =>
    intro x fl ft aC aO aE aS aL hx h1 haC hy
    have ex : x = ps_C c m := by omega
    subst ex
    refine br_t (nI_le (by omega) (by omega)) ⟨vp_in_nI (by omega) (by omega), nm_r (e' := upd aC m (nI (ps_C c m))) (by rw [nI_clamp (by omega)]) (h _ ⟨by omega, by rw [ps_cKK], hy⟩ fl ft aC aO aE aS aL haC)⟩
  | succ d ih =>
    intro x fl ft aC aO aE aS aL hx h1 haC hy
    have hgx : ps_gd (ps_cK c m x) := ps_cK_gd hg (by omega)
    have hsx := ps_sh_b hgx
    refine br_f (nI_ge (by omega) (by omega)) ⟨vp_in_nI (by omega) (by omega), nm_r (e' := upd aC m (nI x)) (by rw [nI_clamp (by omega)]) ?_⟩
    refine px_short hgx hl fc fl ft aD aR aU aA (upd aC m (nI x)) aB aO aE aS aL (hX aC haC x) _ (fun fl ft aO aE aS aL => ?_)
    have haC2 : ∀ j, j < 2 → j ≠ m → upd aC m (nI x) j = nI (ps_C c j) := fun j hj hn => by rw [pk_un hn]; exact haC j hj hn
    refine ps_ceq (ps_sh (ps_cK c m x)) (ps_sh c) (fun e => ⟨vp_in_nI (by omega) (by omega), nm_r (e' := upd (upd aC m (nI x)) m (nI (ps_C c m))) (by rw [nI_clamp (by omega)]) (h x ⟨by omega, e, hy⟩ fl ft (upd aC m (nI x)) aO aE aS aL haC2)⟩) (fun e => nm_r (nI_1 x) (ih (x + 1) fl ft (upd aC m (nI x)) aO aE aS aL (by omega) (by omega) haC2 (fun y y1 y2 => ?_))) rfl rfl (by omega) (by omega) (by omega) (by omega)
    by_cases f : y = x
    · subst f; exact e
    · exact hy y y1 (by omega)
theorem py_lc {c : ps_Cf} (hg : ps_gd c) (hf : ps_fe c) {m : Nat} (hm : m < 2) (hC : 1 ≤ ps_C c m) (gc gl : Int32) (bD bA bB bR bU : Nat → Int32) (post : Int32 → SY → Prop)
    (hY : ∀ bC, (∀ j, j < 2 → j ≠ m → bC j = nI (ps_C c j)) → ∀ x, ps_Yc (ps_cK c m x) gc gl bD bA (upd bC m (nI x)) bB bR bU)
    (h : ∀ r, ps_lc c m r → ∀ gp bC bO bS bW, (∀ j, j < 2 → j ≠ m → bC j = nI (ps_C c j)) → post (nI r) (gc, gp, gl, bD, bA, upd bC m (nI (ps_C c m)), bB, bR, bU, bO, bS, bW)) :
    ∀ (x : Nat) (x4 gp : Int32) (bC bO bS bW : Nat → Int32), x ≤ 8 → (∀ j, j < 2 → j ≠ m → bC j = nI (ps_C c j)) → (ps_C c m ≤ x ∨ ∃ r, x < r ∧ r ≤ ps_C c m ∧ x4 = nI r ∧ ps_sh (ps_cK c m r) = ps_sh c ∧ ∀ y, x < y → y < r → ps_sh (ps_cK c m y) ≠ ps_sh c) → wY_leastCapacity_33 post (nI m) (ps_i (ps_sh c)) (nI (ps_C c m)) (x + 1) x4 (nI x) gc gp gl bD bA bC bB bR bU bO bS bW := by
  have h8 := ps_C8 hg hm
  have hsc := ps_sh_in hg hf
  have hne : ¬ ps_i (ps_sh c) = -1000 := by
    rw [show (-1000 : Int32) = ps_i (-1000) from by decide, ps_i_eq (by omega) (by omega) (by omega) (by omega)]
    omega
  intro x
  induction x with
  | zero =>
    intro x4 gp bC bO bS bW _ hbC hr
    rcases hr with hr | ⟨r, r1, r2, r3, r4, r5⟩
    · omega
    · subst r3
      refine br_t (by decide) ⟨vp_in_nI (by omega) (by omega), nm_r (e' := upd bC m (nI (ps_C c m))) (by rw [nI_clamp (by omega)]) (h r ⟨by omega, r4, fun y y1 y2 => r5 y (by omega) y2⟩ gp bC bO bS bW hbC)⟩
  | succ x ih =>
    intro x4 gp bC bO bS bW hx hbC hr
    have hgx : ps_gd (ps_cK c m (x + 1)) := ps_cK_gd hg (by omega)
    have hsx := ps_sh_b hgx
    have hbC2 : ∀ j, j < 2 → j ≠ m → upd bC m (nI (x + 1)) j = nI (ps_C c j) := fun j hj hn => by rw [pk_un hn]; exact hbC j hj hn
    refine br_f (nI_nle (by omega) (by omega)) ⟨vp_in_nI (by omega) (by omega), nm_r (e' := upd bC m (nI (x + 1))) (by rw [nI_clamp (by omega)]) (br_f hne ?_)⟩
    refine pk_lt (ps_C c m) (x + 1) (fun z => nm_r (pk_m1 x) (ih x4 gp _ bO bS bW (by omega) hbC2 (Or.inl (by omega)))) (fun z => ?_) rfl rfl (by omega) (by omega)
    refine py_short hgx gc gp gl bD bA (upd bC m (nI (x + 1))) bB bR bU bO bS bW (hY bC hbC (x + 1)) _ (fun gp bO bS bW => ?_)
    refine ps_ceq (ps_sh (ps_cK c m (x + 1))) (ps_sh c) (fun e => nm_r (pk_m1 x) (ih _ gp _ bO bS bW (by omega) hbC2 (Or.inr ⟨x + 1, by omega, by omega, rfl, e, fun y y1 y2 => by omega⟩))) (fun e => nm_r (pk_m1 x) (ih _ gp _ bO bS bW (by omega) hbC2 ?_)) rfl rfl (by omega) (by omega) (by omega) (by omega)
    rcases hr with hr | ⟨r, r1, r2, r3, r4, r5⟩
    · have ex : x + 1 = ps_C c m := by omega
      rw [ex, ps_cKK] at e
      exact absurd rfl e
    · refine Or.inr ⟨r, by omega, r2, r3, r4, fun y y1 y2 => ?_⟩
      by_cases f : y = x + 1
      · rw [f]; exact e
      · exact r5 y (by omega) y2
theorem py_lc0 {c : ps_Cf} {m : Nat} (hm : m < 2) (gc gl : Int32) (bD bA bB bR bU : Nat → Int32) (post : Int32 → SY → Prop)
    (h : ∀ gp bC bO bS bW, (∀ j, j < 2 → j ≠ m → bC j = nI (ps_C c j)) → post (-1000) (gc, gp, gl, bD, bA, upd bC m (nI (ps_C c m)), bB, bR, bU, bO, bS, bW)) :
    ∀ (x : Nat) (gp : Int32) (bC bO bS bW : Nat → Int32), x ≤ 8 → (∀ j, j < 2 → j ≠ m → bC j = nI (ps_C c j)) → wY_leastCapacity_33 post (nI m) (-1000) (nI (ps_C c m)) (x + 1) (-1000) (nI x) gc gp gl bD bA bC bB bR bU bO bS bW := by
  intro x
  induction x with
  | zero =>
    intro gp bC bO bS bW _ hbC
    exact br_t (by decide) ⟨vp_in_nI (by omega) (by omega), nm_r (e' := upd bC m (nI (ps_C c m))) (by rw [nI_clamp (by omega)]) (h gp bC bO bS bW hbC)⟩
  | succ x ih =>
    intro gp bC bO bS bW hx hbC
    have hbC2 : ∀ j, j < 2 → j ≠ m → upd bC m (nI (x + 1)) j = nI (ps_C c j) := fun j hj hn => by rw [pk_un hn]; exact hbC j hj hn
    exact br_f (nI_nle (by omega) (by omega)) ⟨vp_in_nI (by omega) (by omega), nm_r (e' := upd bC m (nI (x + 1))) (by rw [nI_clamp (by omega)]) (br_t rfl (nm_r (pk_m1 x) (ih gp _ bO bS bW (by omega) hbC2)))⟩
theorem i_vc_leastCapacity {k : Nat} {u : SX} {v : SY} (I : i_Rel k u v) (hk : k + 4 ≤ 2048) (v1 : Int32) : wpX_leastCapacity (fun r u' => wpY_leastCapacity (fun r' v' => r' = r ∧ i_Rel (k + 4) u' v') v v1) u v1 := by
  obtain ⟨fc, fl, ft, aD, aR, aU, aA, aC, aB, aO, aE, aS, aL⟩ := u
  obtain ⟨gc, gp, gl, bD, bA, bC, bB, bR, bU, bO, bS, bW⟩ := v
  obtain ⟨c, hG, hX, hY⟩ := I
  have hg := ps_G9_gd hG
  have g1 := hG.1
  have hXc : ps_Xc c fc aD aR aU aA aC aB := hX
  have hYc : ps_Yc c gc gl bD bA bC bB bR bU := hY
  unfold wpX_leastCapacity wpY_leastCapacity
  dsimp only
  rcases ps_tc v1 (n := 2) (by omega) with hb | ⟨m, hm, rfl⟩
  · rcases hb with a | ⟨a1, a2, a3⟩
    · exact br_t a (br_t rfl (br_t a ⟨rfl, c, hG, hX, hY⟩))
    · have a4 : ¬ v1 ≤ 1 := Int32.not_le.mpr (Int32.lt_of_lt_of_le (show (1 : Int32) < nI 2 from by decide) a2)
      exact br_f a1 (br_t a2 (br_t rfl (br_f a1 (br_f a4 ⟨rfl, c, hG, hX, hY⟩))))
  · have a1 : ¬ nI m < 0 := nI_pos (by omega)
    have a2 : ¬ 2 ≤ nI m := nI_ge (b := 2) hm (by omega)
    have a3 : nI m ≤ 1 := nI_le (b := 1) (by omega) (by omega)
    have hC := (hG.2.2.1 m hm).1
    have backX : ∀ aC', (∀ j, j < 2 → j ≠ m → aC' j = nI (ps_C c j)) → ∀ x, ps_Xc (ps_cK c m x) fc aD aR aU aA (upd aC' m (nI x)) aB := by
      intro aC' haC x
      refine ⟨hXc.1, hXc.2.1, hXc.2.2.1, fun j hj => ?_, hXc.2.2.2.2⟩
      exact ps_upd rfl (fun e => haC j hj e)
    have backY : ∀ bC', (∀ j, j < 2 → j ≠ m → bC' j = nI (ps_C c j)) → ∀ x, ps_Yc (ps_cK c m x) gc gl bD bA (upd bC' m (nI x)) bB bR bU := by
      intro bC' hbC x
      refine ⟨hYc.1, hYc.2.1, hYc.2.2.1, hYc.2.2.2.1, fun j hj => ?_, hYc.2.2.2.2.2⟩
      exact ps_upd rfl (fun e => hbC j hj e)
    have backX0 : ∀ aC', (∀ j, j < 2 → j ≠ m → aC' j = nI (ps_C c j)) → ps_Xc c fc aD aR aU aA (upd aC' m (nI (ps_C c m))) aB := by
      intro aC' haC
      have := backX aC' haC (ps_C c m)
      rw [ps_cKK] at this
      exact this
    have backY0 : ∀ bC', (∀ j, j < 2 → j ≠ m → bC' j = nI (ps_C c j)) → ps_Yc c gc gl bD bA (upd bC' m (nI (ps_C c m))) bB bR bU := by
      intro bC' hbC
      have := backY bC' hbC (ps_C c m)
      rw [ps_cKK] at this
      exact this
    refine br_f a1 (br_f a2 (br_f (by decide) ?_))
    refine px_feas hg fc fl ft aD aR aU aA aC aB aO aE aS aL hX _ (fun hf => br_f (by decide) ?_) (fun hf => br_t rfl ?_)
    · refine px_short hg hG.2.2.2.1 fc fl ft aD aR aU aA aC aB aO aE aS aL hX _ (fun fl ft aO aE aS aL => ⟨vp_in_nI (by omega) (by omega), nm_r (e' := nI (ps_C c m)) (by rw [nI_clamp (by omega)]; exact hXc.2.2.2.1 m hm) ⟨ps_C c m - 1 + 1, ?_⟩⟩)
      refine px_lc hg hG.2.2.2.1 hm hC fc aD aR aU aA aB _ backX (fun r hr fl ft aC' aO aE aS aL haC => ?_) (ps_C c m - 1) 1 fl ft aC aO aE aS aL (by omega) (by omega) (fun j hj _ => hXc.2.2.2.1 j hj) (fun y y1 y2 => by omega)
      refine br_f a1 (br_t a3 ?_)
      refine py_short hg gc gp gl bD bA bC bB bR bU bO bS bW hY _ (fun gp bO bS bW => ⟨vp_in_nI (by omega) (by omega), nm_r (e' := nI (ps_C c m)) (by rw [nI_clamp (by omega)]; exact hYc.2.2.2.2.1 m hm) ⟨9, ?_⟩⟩)
      refine py_lc hg hf hm hC gc gl bD bA bB bR bU _ backY (fun r' hr' gp bC' bO bS bW hbC => ⟨by rw [ps_lc_u hr hr'], c, hG, backX0 aC' haC, backY0 bC' hbC⟩) 8 (-1000) gp bC bO bS bW (by omega) (fun j hj _ => hYc.2.2.2.2.1 j hj) (Or.inl (hG.2.2.1 m hm).2)
    · refine br_f a1 (br_t a3 ?_)
      refine py_short hg gc gp gl bD bA bC bB bR bU bO bS bW hY _ (fun gp bO bS bW => ⟨vp_in_nI (by omega) (by omega), nm_r (e' := nI (ps_C c m)) (by rw [nI_clamp (by omega)]; exact hYc.2.2.2.2.1 m hm) ⟨9, ?_⟩⟩)
      rw [ps_sh_f hf, show ps_i (-1000) = -1000 from by decide]
      exact py_lc0 hm gc gl bD bA bB bR bU _ (fun gp bC' bO bS bW hbC => ⟨rfl, c, hG, hX, backY0 bC' hbC⟩) 8 gp bC bO bS bW (by omega) (fun j hj _ => hYc.2.2.2.2.1 j hj)
