def ps_Stk (c : ps_Cf) (w : Nat → Nat → Int) (bO bW bS : Nat → Int32) : List Nat → Prop
  | [] => bW 0 = ps_i (-100000)
  | t :: l => ps_Stk c w bO bW bS l ∧ bO l.length = nI t ∧ bW (l.length + 1) = ps_i (ps_wst c w (t :: l)) ∧ bS t = nI (ps_run c (t :: l) t - ps_D c t)
theorem ps_Stk_w {c : ps_Cf} {w : Nat → Nat → Int} {bO bW bS : Nat → Int32} : ∀ {l : List Nat}, ps_Stk c w bO bW bS l → bW l.length = ps_i (ps_wst c w l) := by
  intro l h
  cases l with
  | nil => exact h
  | cons t l => exact h.2.2.1
theorem ps_Stk_s {c : ps_Cf} {w : Nat → Nat → Int} {bO bW bS : Nat → Int32} : ∀ {l : List Nat}, ps_ok c l → ps_Stk c w bO bW bS l → ∀ t, t ∈ l → bS t = nI (ps_run c l t - ps_D c t) := by
  intro l
  induction l with
  | nil => intro _ _ t h; exact (nomatch h)
  | cons a l ih =>
    intro ho h t ht
    by_cases e : t = a
    · subst e; exact h.2.2.2
    · rw [ps_run_n e]
      exact ih ho.1 h.1 t ((List.mem_cons.mp ht).resolve_left e)
theorem ps_Stk_f {c : ps_Cf} {w : Nat → Nat → Int} {bO bW bS bO' bW' bS' : Nat → Int32} : ∀ {l : List Nat}, ps_Stk c w bO bW bS l → (∀ j, j < l.length → bO' j = bO j) → (∀ j, j ≤ l.length → bW' j = bW j) → (∀ t, t ∈ l → bS' t = bS t) → ps_Stk c w bO' bW' bS' l := by
  intro l
  induction l with
  | nil =>
    intro h _ h2 _
    show bW' 0 = _
    rw [h2 0 (Nat.le_refl _)]
    exact h
  | cons a l ih =>
    intro h h1 h2 h3
    rw [List.length_cons] at h1 h2
    refine ⟨ih h.1 (fun j hj => h1 j (by omega)) (fun j hj => h2 j (by omega)) (fun t ht => h3 t (List.mem_cons_of_mem _ ht)), ?_, ?_, ?_⟩
    · rw [h1 _ (by omega)]; exact h.2.1
    · rw [h2 _ (by omega)]; exact h.2.2.1
    · rw [h3 a List.mem_cons_self]; exact h.2.2.2
theorem ps_wst_in {c : ps_Cf} {w : Nat → Nat → Int} (hg : ps_gd c) (hw : ps_wb c w) (hf : ps_fe c) {l : List Nat} (h : ps_ok c l) : -100000 ≤ ps_wst c w l ∧ ps_wst c w l ≤ 75 := by
  rcases ps_wst_at (w := w) l h with e | ⟨t, ht, e⟩
  · omega
  · have h1 := hw t (ps_run c l t) (ps_ok_lt h t ht)
    have h2 := ps_run_le hg hf h t
    omega
theorem py_leave {c : ps_Cf} (hg : ps_gd c) {w : Nat → Nat → Int} (gc gp gl : Int32) (bD bA bC bB bR bU bO bS bW : Nat → Int32) (hgc : gc = nI (ps_n c)) {l : List Nat} (hok : ps_ok c l) (hM : ps_Mk gp l) (hS : ps_Stk c w bO bW bS l) (post : Int32 → SY → Prop) (J : Int32 → Int32 → Int32 → Int32 → Int32 → Int32 → (Nat → Int32) → (Nat → Int32) → (Nat → Int32) → (Nat → Int32) → (Nat → Int32) → (Nat → Int32) → (Nat → Int32) → (Nat → Int32) → (Nat → Int32) → Prop) (x1 x2 : Int32) {k : Nat}
    (h : ∀ gp', (∀ t l', l = t :: l' → ps_Mk gp' l') → J x2 (ps_i ((l.length : Int) - 1)) (nI (k + 1)) gc gp' gl bD bA bC bB bR bU bO bS bW) : wY_search_70 post J x1 x2 (nI l.length) (nI k) gc gc gp gl bD bA bC bB bR bU bO bS bW := by
  have hn := hg.1
  have hlen := ps_ok_len hok
  refine br_t (Int32.le_refl gc) ?_
  cases l with
  | nil =>
    refine nm_r (e' := ps_i (-1)) (by decide) (br_t (by decide) (nm_r (nI_1 k) (h gp (fun t l' e => (nomatch e)))))
  | cons t l =>
    rw [List.length_cons] at hlen
    have e1 : nI (l.length + 1) - 1 = nI l.length := nI_pred _
    have e2 : ps_i (((t :: l).length : Int) - 1) = nI l.length := by
      rw [List.length_cons, ps_i_n (by omega)]
      exact congrArg ps_i (by omega)
    have ht := hok.2.1
    rw [e2] at h
    refine nm_r e1 (br_f (nI_pos (by omega)) ⟨vp_in_nI (by omega) (by omega), nm_e (nm_r (nI_1 k) (h _ (fun t' l' e => ?_)))⟩)
    obtain ⟨e3, e4⟩ := List.cons.inj e
    subst e3 e4
    intro i hi
    rw [nI_clamp (by omega), hS.2.1, ps_clr (by omega) hi, hM i hi]
    have h3 := hok.2.2.1
    by_cases z : i = t
    · subst z
      rw [decide_eq_true (rfl : i = i), decide_eq_false h3]
      simp
    · rw [decide_eq_false z]
      by_cases y : i ∈ l
      · rw [decide_eq_true y, decide_eq_true (List.mem_cons_of_mem _ y)]; rfl
      · rw [decide_eq_false y, decide_eq_false (fun q => (List.mem_cons.mp q).elim z y)]; rfl
theorem py_146 {c : ps_Cf} (hg : ps_gd c) {w : Nat → Nat → Int} (gc gp gl : Int32) (bD bA bC bB bR bU bO bS bW : Nat → Int32) (hgc : gc = nI (ps_n c)) {l : List Nat} {t : Nat} (hok : ps_ok c (t :: l)) {b z : Int} (hb : -100000 ≤ b ∧ b ≤ 100000) (hz : z = ps_wst c w (t :: l)) (hz2 : -100000 ≤ z ∧ z ≤ 75) (hS : ps_Stk c w bO bW bS l) (hO : bO l.length = nI t) (hBt : bS t = nI (ps_run c (t :: l) t - ps_D c t))
    (post : Int32 → SY → Prop) (J : Int32 → Int32 → Int32 → Int32 → Int32 → Int32 → (Nat → Int32) → (Nat → Int32) → (Nat → Int32) → (Nat → Int32) → (Nat → Int32) → (Nat → Int32) → (Nat → Int32) → (Nat → Int32) → (Nat → Int32) → Prop) (x1 : Int32) {k : Nat}
    (h : ∀ b1 bW', (-100000 ≤ b1 ∧ b1 ≤ 100000) → b1 ≤ b → (b1 = b ∨ (ps_full c (t :: l) ∧ ps_wst c w (t :: l) = b1)) → (ps_full c (t :: l) → b1 ≤ ps_wst c w (t :: l)) → ps_Stk c w bO bW' bS (t :: l) → J (ps_i b1) (nI (l.length + 1)) (nI (k + 1)) gc gp gl bD bA bC bB bR bU bO bS bW') :
    wY_search_146 post J x1 (ps_i b) (nI (l.length + 1)) (nI k) (ps_i z) (nI (l.length + 1)) gc gp gl bD bA bC bB bR bU bO bS bW := by
  have hn := hg.1
  have hlen := ps_ok_len hok
  rw [List.length_cons] at hlen
  have hS' : ps_Stk c w bO (upd bW (nI (l.length + 1)).toNatClampNeg (ps_i z)) bS (t :: l) := by
    rw [nI_clamp (by omega)]
    refine ⟨ps_Stk_f hS (fun j _ => rfl) (fun j hj => pk_un (by omega)) (fun _ _ => rfl), hO, ?_, hBt⟩
    rw [pk_us, hz]
  refine ⟨vp_in_nI (by omega) (by omega), nm_e ?_⟩
  have ew : upd bW (nI (l.length + 1)).toNatClampNeg (ps_i z) (nI (l.length + 1)).toNatClampNeg = ps_i z := pk_us
  refine pk_eq (l.length + 1) (ps_n c) (fun e => ⟨vp_in_nI (by omega) (by omega), ?_⟩) (fun e => nm_r (nI_1 k) (h b _ hb (Int.le_refl _) (Or.inl rfl) (fun f => absurd f.2 (by rw [List.length_cons]; exact e)) hS')) rfl hgc (by omega) (by omega)
  have hfull : ps_full c (t :: l) := ⟨hok, by rw [List.length_cons]; exact e⟩
  refine ps_cle b z (fun y => nm_r (nI_1 k) (h b _ hb (Int.le_refl _) (Or.inl rfl) (fun _ => by rw [← hz]; exact y) hS')) (fun y => ⟨vp_in_nI (by omega) (by omega), nm_r ew (nm_r (nI_1 k) (h z _ (by omega) (by omega) (Or.inr ⟨hfull, hz.symm⟩) (fun _ => by rw [hz]; exact Int.le_refl _) hS'))⟩) rfl ew (by omega) (by omega) (by omega) (by omega)
theorem py_enter {c : ps_Cf} (hg : ps_gd c) (hf : ps_fe c) {w : Nat → Nat → Int} (gc gp gl : Int32) (bD bA bC bB bR bU bO bS bW : Nat → Int32) (hY : ps_Yc c gc gl bD bA bC bB bR bU) {x1 : Int32} (hp : ps_aim c x1 w) {l : List Nat} {t : Nat} (hok : ps_ok c (t :: l)) (hM : ps_Mk gp l) (hS : ps_Stk c w bO bW bS l) {b : Int} (hb : -100000 ≤ b ∧ b ≤ 100000)
    (post : Int32 → SY → Prop) (J : Int32 → Int32 → Int32 → Int32 → Int32 → Int32 → (Nat → Int32) → (Nat → Int32) → (Nat → Int32) → (Nat → Int32) → (Nat → Int32) → (Nat → Int32) → (Nat → Int32) → (Nat → Int32) → (Nat → Int32) → Prop) {k : Nat}
    (h : ∀ b1 gp' bO' bS' bW', (-100000 ≤ b1 ∧ b1 ≤ 100000) → b1 ≤ b → (b1 = b ∨ (ps_full c (t :: l) ∧ ps_wst c w (t :: l) = b1)) → (ps_full c (t :: l) → b1 ≤ ps_wst c w (t :: l)) → ps_Mk gp' (t :: l) → ps_Stk c w bO' bW' bS' (t :: l) → bO' (t :: l).length + 1 = nI 0 → J (ps_i b1) (nI (l.length + 1)) (nI (k + 1)) gc gp' gl bD bA bC bB bR bU bO' bS' bW') :
    wY_search_70 post J x1 (ps_i b) (nI l.length) (nI k) (nI t) gc gp gl bD bA bC bB bR bU bO bS bW := by
  have hn := hg.1
  have hw := ps_aim_wb hg hp
  have hlen := ps_ok_len hok
  rw [List.length_cons] at hlen
  have ht := hok.2.1
  have hwl := ps_wst_in hg hw hf hok.1
  have hwt := ps_wst_in hg hw hf hok
  have hin := ps_inv hg hf (t :: l) hok
  have hDe := (hin.2.1 t List.mem_cons_self).1
  have hle := ps_run_le hg hf hok t
  refine br_f (by rw [hY.1]; exact nI_ge (by omega) (by omega)) ?_
  refine py_place hg hf gc gp gl bD bA bC bB bR bU bO bS bW hY hok hM (ps_Stk_s hok.1 hS) _ (fun gp' bS' hM' hSt hSj => ?_)
  refine py_worth hg gc gp' gl bD bA bC bB bR bU bO bS' bW hY hp ht hDe hle hSt _ ?_
  have hS2 : ps_Stk c w (upd (upd bO l.length (nI t)) (l.length + 1) (-1)) bW bS' l := ps_Stk_f hS (fun j hj => by rw [pk_un (by omega), pk_un (by omega)]) (fun j hj => rfl) (fun j hj => hSj j (fun q => hok.2.2.1 (by rw [← q]; exact hj)))
  have hO2 : upd (upd bO l.length (nI t)) (l.length + 1) (-1) l.length = nI t := by rw [pk_un (by omega), pk_us]
  have hO3 : upd (upd bO l.length (nI t)) (l.length + 1) (-1) (t :: l).length + 1 = nI 0 := by rw [List.length_cons, pk_us]; decide
  have ep : nI (l.length + 1) - 1 = nI l.length := nI_pred _
  have ew : bW (nI (l.length + 1) - 1).toNatClampNeg = ps_i (ps_wst c w l) := by rw [ep, nI_clamp (by omega)]; exact ps_Stk_w hS
  have hv := hw t (ps_run c (t :: l) t) ht
  refine ⟨vp_in_nI (by omega) (by omega), nm_r (e' := upd bO l.length (nI t)) (by rw [nI_clamp (by omega)]) (nm_r (nI_1 _) ⟨vp_in_nI (by omega) (by omega), nm_r (e' := upd (upd bO l.length (nI t)) (l.length + 1) (-1)) (by rw [nI_clamp (by omega)]) ⟨pk_in l.length 7 (by omega) ep, ?_⟩⟩)⟩
  refine ps_cle (w t (ps_run c (t :: l) t)) (ps_wst c w l) (fun y => ⟨pk_in l.length 7 (by omega) ep, ?_⟩) (fun y => ?_) rfl ew (by omega) (by omega) (by omega) (by omega)
  · rw [ew]
    exact py_146 hg gc gp' gl bD bA bC bB bR bU (upd (upd bO l.length (nI t)) (l.length + 1) (-1)) bS' bW hY.1 hok hb (by rw [ps_wst, if_pos y]) hwl hS2 hO2 hSt post J x1 (fun b1 bW' a1 a2 a3 a4 a5 => h b1 gp' _ bS' bW' a1 a2 a3 a4 hM' a5 hO3)
  · exact py_146 hg gc gp' gl bD bA bC bB bR bU (upd (upd bO l.length (nI t)) (l.length + 1) (-1)) bS' bW hY.1 hok hb (by rw [ps_wst, if_neg (by omega)]) (by omega) hS2 hO2 hSt post J x1 (fun b1 bW' a1 a2 a3 a4 a5 => h b1 gp' _ bS' bW' a1 a2 a3 a4 hM' a5 hO3)
def py_Nd (c : ps_Cf) (w : Nat → Nat → Int) (x1 : Int32) (post : Int32 → SY → Prop) (gc gl : Int32) (bD bA bC bB bR bU : Nat → Int32) (l : List Nat) (cc T : Nat) : Prop :=
  ∀ (d k : Nat) (b : Int) (gp : Int32) (bO bS bW : Nat → Int32), k + d = 8000 → T ≤ d → (-100000 ≤ b ∧ b ≤ 100000) → ps_Mk gp l → ps_Stk c w bO bW bS l → bO l.length + 1 = nI cc →
    (∀ (d' k' : Nat) (b' : Int) (gp' : Int32) (bO' bS' bW' : Nat → Int32), k' + d' = 8000 → d ≤ d' + T → (-100000 ≤ b' ∧ b' ≤ 100000) → (∀ t l', l = t :: l' → ps_Mk gp' l') → ps_Stk c w bO' bW' bS' l → b' ≤ b → (b' = b ∨ ∃ l2, ps_full c l2 ∧ ps_wst c w l2 = b') → (∀ e t, cc ≤ t → ps_full c (e ++ t :: l) → b' ≤ ps_wst c w (e ++ t :: l)) →
      wY_search_28 post x1 (d' + 1) (ps_i b') (ps_i ((l.length : Int) - 1)) (nI k') gc gp' gl bD bA bC bB bR bU bO' bS' bW') →
    wY_search_28 post x1 (d + 1) (ps_i b) (nI l.length) (nI k) gc gp gl bD bA bC bB bR bU bO bS bW
def ps_T : Nat → Nat
  | 0 => 1
  | h + 1 => 1 + (h + 1) * (1 + ps_T h)
theorem py_node {c : ps_Cf} (hg : ps_gd c) (hf : ps_fe c) {w : Nat → Nat → Int} {x1 : Int32} (hp : ps_aim c x1 w) (post : Int32 → SY → Prop) (gc gl : Int32) (bD bA bC bB bR bU : Nat → Int32) (hY : ps_Yc c gc gl bD bA bC bB bR bU) {T : Nat} {l : List Nat} (hok : ps_ok c l) (hlen : l.length < ps_n c)
    (ihc : ∀ t, ps_ok c (t :: l) → py_Nd c w x1 post gc gl bD bA bC bB bR bU (t :: l) 0 T) :
    ∀ u cc, ps_cnt c l cc ≤ u → cc ≤ ps_n c → py_Nd c w x1 post gc gl bD bA bC bB bR bU l cc (1 + u * (1 + T)) := by
  have hn := hg.1
  have hw := ps_aim_wb hg hp
  have hwl := ps_wst_in hg hw hf hok
  intro u
  induction u with
  | zero =>
    intro cc hcnt hcc d k b gp bO bS bW hkd hT hb hM hS hO hK
    obtain ⟨d, rfl⟩ : ∃ d2, d = d2 + 1 := ⟨d - 1, by omega⟩
    refine br_f (nI_ge (b := 8000) (a := k) (by omega) (by omega)) (br_f (nI_pos (by omega)) (br_f (by rw [hY.1, nI_eq (by omega) (by omega)]; omega) ⟨vp_in_nI (by omega) (by omega), ?_⟩))
    refine ps_clt (ps_wst c w l) b (fun y => ?_) (fun y => ?_) (by rw [nI_clamp (by omega)]; exact ps_Stk_w hS) rfl (by omega) (by omega) (by omega) (by omega)
    · refine py_cand hg gc gp gl bD bA bC bB bR bU bO bS bW hY hok hM (by omega) hcc hO _ (fun t h1 h2 h3 h4 => ?_) (fun hno => ?_)
      · have := ps_cnt_step (c := c) (l := l) h1 h2 h3.2.2.1
        omega
      · rw [← hY.1]
        refine py_leave hg gc gp gl bD bA bC bB bR bU bO bS bW hY.1 hok hM hS post _ x1 _ (fun gp' hM' => hK d (k + 1) b gp' bO bS bW (by omega) (by omega) hb hM' hS (Int.le_refl _) (Or.inl rfl) (fun e t h1 h2 => ?_))
        exact absurd (ps_ok_app e h2.1) (hno t h1 (ps_ok_app e h2.1).2.1)
    · refine py_leave hg gc gp gl bD bA bC bB bR bU bO bS bW hY.1 hok hM hS post _ x1 _ (fun gp' hM' => hK d (k + 1) b gp' bO bS bW (by omega) (by omega) hb hM' hS (Int.le_refl _) (Or.inl rfl) (fun e t h1 h2 => ?_))
      have := ps_wst_mono c w l (e ++ [t])
      rw [List.append_assoc] at this
      exact Int.le_trans y this
  | succ u ih =>
    intro cc hcnt hcc d k b gp bO bS bW hkd hT hb hM hS hO hK
    have eT : 1 + (u + 1) * (1 + T) = 1 + u * (1 + T) + (1 + T) := by rw [Nat.succ_mul]; omega
    rw [eT] at hT hK
    generalize hV : 1 + u * (1 + T) = V at hT hK ih
    obtain ⟨d, rfl⟩ : ∃ d2, d = d2 + 1 := ⟨d - 1, by omega⟩
    refine br_f (nI_ge (b := 8000) (a := k) (by omega) (by omega)) (br_f (nI_pos (by omega)) (br_f (by rw [hY.1, nI_eq (by omega) (by omega)]; omega) ⟨vp_in_nI (by omega) (by omega), ?_⟩))
    refine ps_clt (ps_wst c w l) b (fun y => ?_) (fun y => ?_) (by rw [nI_clamp (by omega)]; exact ps_Stk_w hS) rfl (by omega) (by omega) (by omega) (by omega)
    · refine py_cand hg gc gp gl bD bA bC bB bR bU bO bS bW hY hok hM (by omega) hcc hO _ (fun t h1 h2 h3 h4 => ?_) (fun hno => ?_)
      · have hct := ps_cnt_step (c := c) (l := l) h1 h2 h3.2.2.1
        refine py_enter hg hf gc gp gl bD bA bC bB bR bU bO bS bW hY hp h3 hM hS hb post _ (fun b1 gp1 bO1 bS1 bW1 c1 c2 c3 c4 hM1 hS1 hO1 => ?_)
        refine ihc t h3 d (k + 1) b1 gp1 bO1 bS1 bW1 (by omega) (by omega) c1 hM1 hS1 hO1 (fun d2 k2 b2 gp2 bO2 bS2 bW2 a1 a2 a3 a4 a5 a6 a7 a8 => ?_)
        rw [show ps_i (((t :: l).length : Int) - 1) = nI l.length from by
          rw [List.length_cons, ps_i_n (by omega)]
          exact congrArg ps_i (by omega)]
        refine ih (t + 1) (by omega) (by omega) d2 k2 b2 gp2 bO2 bS2 bW2 a1 (by omega) a3 (a4 t l rfl) a5.1 (by rw [a5.2.1, nI_1]) (fun d3 k3 b3 gp3 bO3 bS3 bW3 e1 e2 e3 e4 e5 e6 e7 e8 => ?_)
        refine hK d3 k3 b3 gp3 bO3 bS3 bW3 e1 (by omega) e3 e4 e5 (by omega) ?_ (fun e q q1 q2 => ?_)
        · rcases e7 with e7 | e7
          · rcases a7 with a7 | a7
            · rcases c3 with c3 | c3
              · exact Or.inl (by omega)
              · exact Or.inr ⟨_, c3.1, by rw [c3.2]; omega⟩
            · obtain ⟨l2, l3, l4⟩ := a7
              exact Or.inr ⟨l2, l3, by omega⟩
          · exact Or.inr e7
        · by_cases f : t + 1 ≤ q
          · exact e8 e q f q2
          · have okq := ps_ok_app e q2.1
            by_cases g : q = t
            · subst g
              cases e with
              | nil =>
                have := c4 q2
                rw [List.nil_append]
                omega
              | cons a e' =>
                have hex : ∀ e'' : List Nat, e'' ≠ [] → ps_full c (e'' ++ q :: l) → b2 ≤ ps_wst c w (e'' ++ q :: l) := by
                  intro e'' hne hfu
                  obtain ⟨e3', r, hr⟩ : ∃ e3' r, e'' = e3' ++ [r] := ⟨e''.dropLast, e''.getLast hne, (List.dropLast_concat_getLast hne).symm⟩
                  rw [hr, List.append_assoc] at hfu ⊢
                  exact a8 e3' r (Nat.zero_le _) hfu
                have := hex (a :: e') (by simp) q2
                omega
            · exact absurd okq (h4 q q1 (by omega))
      · rw [← hY.1]
        refine py_leave hg gc gp gl bD bA bC bB bR bU bO bS bW hY.1 hok hM hS post _ x1 _ (fun gp' hM' => hK d (k + 1) b gp' bO bS bW (by omega) (by omega) hb hM' hS (Int.le_refl _) (Or.inl rfl) (fun e t h1 h2 => ?_))
        exact absurd (ps_ok_app e h2.1) (hno t h1 (ps_ok_app e h2.1).2.1)
    · refine py_leave hg gc gp gl bD bA bC bB bR bU bO bS bW hY.1 hok hM hS post _ x1 _ (fun gp' hM' => hK d (k + 1) b gp' bO bS bW (by omega) (by omega) hb hM' hS (Int.le_refl _) (Or.inl rfl) (fun e t h1 h2 => ?_))
      have := ps_wst_mono c w l (e ++ [t])
      rw [List.append_assoc] at this
      exact Int.le_trans y this
theorem py_leaf {c : ps_Cf} (hg : ps_gd c) {w : Nat → Nat → Int} {x1 : Int32} (post : Int32 → SY → Prop) (gc gl : Int32) (bD bA bC bB bR bU : Nat → Int32) (hY : ps_Yc c gc gl bD bA bC bB bR bU) {l : List Nat} (hok : ps_ok c l) (hlen : l.length = ps_n c) : py_Nd c w x1 post gc gl bD bA bC bB bR bU l 0 1 := by
  have hn := hg.1
  intro d k b gp bO bS bW hkd hT hb hM hS hO hK
  obtain ⟨d, rfl⟩ : ∃ d2, d = d2 + 1 := ⟨d - 1, by omega⟩
  refine br_f (nI_ge (b := 8000) (a := k) (by omega) (by omega)) (br_f (nI_pos (by omega)) (br_t (by rw [hY.1, hlen]) ?_))
  refine py_leave hg gc gp gl bD bA bC bB bR bU bO bS bW hY.1 hok hM hS post _ x1 _ (fun gp' hM' => hK d (k + 1) b gp' bO bS bW (by omega) (by omega) hb hM' hS (Int.le_refl _) (Or.inl rfl) (fun e t h1 h2 => ?_))
  have h3 := ps_ok_len (ps_ok_app e h2.1)
  rw [List.length_cons] at h3
  omega
theorem py_tree {c : ps_Cf} (hg : ps_gd c) (hf : ps_fe c) {w : Nat → Nat → Int} {x1 : Int32} (hp : ps_aim c x1 w) (post : Int32 → SY → Prop) (gc gl : Int32) (bD bA bC bB bR bU : Nat → Int32) (hY : ps_Yc c gc gl bD bA bC bB bR bU) : ∀ h l, ps_ok c l → l.length + h = ps_n c → py_Nd c w x1 post gc gl bD bA bC bB bR bU l 0 (ps_T h) := by
  intro h
  induction h with
  | zero => intro l hok hl; exact py_leaf hg post gc gl bD bA bC bB bR bU hY hok (by omega)
  | succ h ih =>
    intro l hok hl
    have hc := ps_cnt_len l hok
    exact py_node hg hf hp post gc gl bD bA bC bB bR bU hY hok (by omega) (fun t ht => ih (t :: l) ht (by rw [List.length_cons]; omega)) (h + 1) 0 (by omega) (by omega)
theorem ps_T_le : ∀ n, n ≤ 6 → ps_T n ≤ 8000 := by
  intro n h
  have : ∀ n, n < 7 → ps_T n ≤ 8000 := by decide
  exact this n (by omega)
theorem py_search {c : ps_Cf} (hg : ps_gd c) (hf : ps_fe c) {w : Nat → Nat → Int} {x1 : Int32} (hp : ps_aim c x1 w) (gc gp gl : Int32) (bD bA bC bB bR bU bO bS bW : Nat → Int32) (hY : ps_Yc c gc gl bD bA bC bB bR bU) (post : Int32 → SY → Prop)
    (h : ∀ gp' bO' bS' bW', post (ps_i (ps_best c w)) (gc, gp', gl, bD, bA, bC, bB, bR, bU, bO', bS', bW')) : wpY_search post (gc, gp, gl, bD, bA, bC, bB, bR, bU, bO, bS, bW) x1 := by
  have hn := hg.1
  have hw := ps_aim_wb hg hp
  refine nm_e (nm_e ⟨8001, ?_⟩)
  refine py_tree hg hf hp post gc gl bD bA bC bB bR bU hY (ps_n c) [] trivial (by rw [List.length_nil]; omega) 8000 0 100000 0 (upd bO 0 (-1)) bS (upd bW 0 (-100000)) (by omega) (ps_T_le _ hn) (by omega) (fun i _ => by rw [b_0]; rfl) (by show upd bW 0 (-100000) 0 = _; rw [pk_us]; decide) (by show upd bO 0 (-1) 0 + 1 = _; rw [pk_us]; decide) (fun d' k' b' gp' bO' bS' bW' a1 a2 a3 a4 a5 a6 a7 a8 => ?_)
  have hk : d' = 0 ∨ 0 < d' := by omega
  have hls : ps_ls c w b' := by
    refine ps_ls_y hg hw hf a7 (fun l hl => ?_)
    have hne : l ≠ [] := fun q => by
      have := hl.2
      rw [q, List.length_nil] at this
      have := hf.1
      omega
    obtain ⟨e, r, hr⟩ : ∃ e r, l = e ++ [r] := ⟨l.dropLast, l.getLast hne, (List.dropLast_concat_getLast hne).symm⟩
    rw [hr] at hl ⊢
    exact a8 e r (Nat.zero_le _) hl
  rw [ps_best_eq hls] at h
  exact br_c (fun _ => h gp' bO' bS' bW') (fun _ => br_t (by decide) (h gp' bO' bS' bW'))
