section
/-! sums over the tasks -/
def ps_sum (f : Nat → Nat) : Nat → Nat
  | 0 => 0
  | n + 1 => ps_sum f n + f n
theorem ps_sum_congr {f g : Nat → Nat} {n : Nat} (h : ∀ t, t < n → f t = g t) : ps_sum f n = ps_sum g n := by
  induction n with
  | zero => rfl
  | succ n ih => rw [ps_sum, ps_sum, ih (fun t ht => h t (by omega)), h n (by omega)]
theorem ps_sum_le {f g : Nat → Nat} {n : Nat} (h : ∀ t, t < n → f t ≤ g t) : ps_sum f n ≤ ps_sum g n := by
  induction n with
  | zero => exact Nat.le_refl _
  | succ n ih =>
    have h1 := ih (fun t ht => h t (by omega))
    have h2 := h n (by omega)
    rw [ps_sum, ps_sum]
    omega
theorem ps_sum_add {f g : Nat → Nat} {n k d : Nat} (hk : k < n) (h : ∀ t, t < n → t ≠ k → g t = f t) (hd : g k = f k + d) : ps_sum g n = ps_sum f n + d := by
  induction n with
  | zero => omega
  | succ n ih =>
    by_cases e : k = n
    · subst e
      rw [ps_sum, ps_sum, ps_sum_congr (f := g) (g := f) (fun t ht => h t (by omega) (by omega)), hd]
      omega
    · rw [ps_sum, ps_sum, ih (by omega) (fun t ht => h t (by omega)), h n (by omega) (fun z => e z.symm)]
      omega
theorem ps_sum_zero {f : Nat → Nat} {n : Nat} (h : ∀ t, t < n → f t = 0) : ps_sum f n = 0 := by
  induction n with
  | zero => rfl
  | succ n ih => rw [ps_sum, ih (fun t ht => h t (by omega)), h n (by omega)]
theorem ps_sum_mem {f : Nat → Nat} {k n : Nat} (hk : k < n) : f k ≤ ps_sum f n := by
  induction n with
  | zero => omega
  | succ n ih =>
    rw [ps_sum]
    by_cases e : k = n
    · subst e; omega
    · have := ih (by omega)
      omega
theorem ps_sum_const {f : Nat → Nat} {n d : Nat} (h : ∀ t, t < n → f t ≤ d) : ps_sum f n ≤ n * d := by
  induction n with
  | zero => rw [ps_sum]; omega
  | succ n ih =>
    have h1 := ih (fun t ht => h t (by omega))
    have h2 := h n (by omega)
    rw [ps_sum, Nat.succ_mul]
    omega
theorem ps_least {P : Nat → Prop} (a d : Nat) (h : P (a + d)) : ∃ s, a ≤ s ∧ s ≤ a + d ∧ P s ∧ ∀ q, a ≤ q → q < s → ¬ P q := by
  induction d generalizing a with
  | zero => exact ⟨a, by omega, by omega, h, fun q h1 h2 => by omega⟩
  | succ d ih =>
    by_cases z : P a
    · exact ⟨a, by omega, by omega, z, fun q h1 h2 => by omega⟩
    · obtain ⟨s, h1, h2, h3, h4⟩ := ih (a + 1) (by rw [show a + 1 + d = a + (d + 1) from by omega]; exact h)
      refine ⟨s, by omega, by omega, h3, fun q q1 q2 => ?_⟩
      by_cases e : q = a
      · rw [e]; exact z
      · exact h4 q (by omega) q2
/-! the numbers of a project: count, durations, releases, dues, amounts, capacities, precedences, limited -/
abbrev ps_Cf : Type := Nat × (Nat → Nat) × (Nat → Nat) × (Nat → Nat) × (Nat → Nat → Nat) × (Nat → Nat) × (Nat → Nat → Bool) × Bool
def ps_n (c : ps_Cf) : Nat := c.1
def ps_D (c : ps_Cf) : Nat → Nat := c.2.1
def ps_R (c : ps_Cf) : Nat → Nat := c.2.2.1
def ps_U (c : ps_Cf) : Nat → Nat := c.2.2.2.1
def ps_A (c : ps_Cf) : Nat → Nat → Nat := c.2.2.2.2.1
def ps_C (c : ps_Cf) : Nat → Nat := c.2.2.2.2.2.1
def ps_B (c : ps_Cf) : Nat → Nat → Bool := c.2.2.2.2.2.2.1
def ps_l (c : ps_Cf) : Bool := c.2.2.2.2.2.2.2
def ps_gd (c : ps_Cf) : Prop := ps_n c ≤ 6 ∧ (∀ t, t < ps_n c → 1 ≤ ps_D c t ∧ ps_D c t ≤ 10 ∧ ps_R c t ≤ 20 ∧ ps_U c t ≤ 99 ∧ ps_A c 0 t ≤ 4 ∧ ps_A c 1 t ≤ 4) ∧ ps_sum (ps_D c) (ps_n c) ≤ 55 ∧ ps_C c 0 ≤ 8 ∧ ps_C c 1 ≤ 8
def ps_fe (c : ps_Cf) : Prop := 0 < ps_n c ∧ ∀ t, t < ps_n c → ps_A c 0 t ≤ ps_C c 0 ∧ ps_A c 1 t ≤ ps_C c 1
/-! placing one task: E is the ends so far, 0 where a task isn't placed -/
def ps_use (c : ps_Cf) (E : Nat → Nat) (m τ : Nat) : Nat := ps_sum (fun t => if E t ≤ τ + ps_D c t ∧ τ < E t then ps_A c m t else 0) (ps_n c)
def ps_fit (c : ps_Cf) (E : Nat → Nat) (t s : Nat) : Prop := ps_l c = true → ∀ τ, s ≤ τ → τ < s + ps_D c t → ps_use c E 0 τ + ps_A c 0 t ≤ ps_C c 0 ∧ ps_use c E 1 τ + ps_A c 1 t ≤ ps_C c 1
def ps_rdy (c : ps_Cf) (E : Nat → Nat) (t : Nat) : Nat → Nat
  | 0 => ps_R c t
  | b + 1 => if ps_B c b t = true ∧ ps_rdy c E t b < E b then E b else ps_rdy c E t b
def ps_First (c : ps_Cf) (E : Nat → Nat) (t s : Nat) : Prop := ps_rdy c E t t ≤ s ∧ ps_fit c E t s ∧ ∀ q, ps_rdy c E t t ≤ q → q < s → ¬ ps_fit c E t q
noncomputable def ps_est (c : ps_Cf) (E : Nat → Nat) (t : Nat) : Nat := Classical.epsilon (fun s => ps_First c E t s)
theorem ps_First_u {c : ps_Cf} {E : Nat → Nat} {t s q : Nat} (h : ps_First c E t s) (g : ps_First c E t q) : s = q := by
  obtain ⟨h1, h2, h3⟩ := h
  obtain ⟨g1, g2, g3⟩ := g
  by_cases a : s < q
  · exact absurd h2 (g3 s h1 a)
  · by_cases b : q < s
    · exact absurd g2 (h3 q g1 b)
    · omega
theorem ps_est_eq {c : ps_Cf} {E : Nat → Nat} {t s : Nat} (h : ps_First c E t s) : ps_est c E t = s :=
  ps_First_u (Classical.epsilon_spec (p := fun s => ps_First c E t s) ⟨s, h⟩) h
noncomputable def ps_pl (c : ps_Cf) (E : Nat → Nat) (t : Nat) : Nat → Nat := fun j => if j = t then ps_est c E t + ps_D c t else E j
noncomputable def ps_run (c : ps_Cf) : List Nat → Nat → Nat
  | [] => fun _ => 0
  | t :: l => ps_pl c (ps_run c l) t
def ps_ok (c : ps_Cf) : List Nat → Prop
  | [] => True
  | t :: l => ps_ok c l ∧ t < ps_n c ∧ t ∉ l ∧ ∀ b, b < t → ps_B c b t = true → b ∈ l
theorem ps_run_s {c : ps_Cf} {t : Nat} {l : List Nat} : ps_run c (t :: l) t = ps_est c (ps_run c l) t + ps_D c t := if_pos rfl
theorem ps_run_n {c : ps_Cf} {t j : Nat} {l : List Nat} (h : j ≠ t) : ps_run c (t :: l) j = ps_run c l j := if_neg h
def ps_pd (c : ps_Cf) (E : Nat → Nat) : Nat := ps_sum (fun t => if E t = 0 then 0 else ps_D c t) (ps_n c)
theorem ps_pd_le (c : ps_Cf) (E : Nat → Nat) : ps_pd c E ≤ ps_sum (ps_D c) (ps_n c) := by
  apply ps_sum_le
  intro t _
  split <;> omega
theorem ps_rdy_le {c : ps_Cf} {E : Nat → Nat} {t M : Nat} (hR : ps_R c t ≤ M) (hE : ∀ b, E b ≤ M) : ∀ k, ps_rdy c E t k ≤ M := by
  intro k
  induction k with
  | zero => exact hR
  | succ k ih =>
    rw [ps_rdy]
    split
    · exact hE k
    · exact ih
theorem ps_rdy_congr {c : ps_Cf} {E F : Nat → Nat} {t : Nat} : ∀ k, (∀ b, b < k → ps_B c b t = true → E b = F b) → ps_rdy c E t k = ps_rdy c F t k := by
  intro k
  induction k with
  | zero => intro _; rfl
  | succ k ih =>
    intro h
    rw [ps_rdy, ps_rdy, ih (fun b hb => h b (by omega))]
    by_cases z : ps_B c k t = true
    · rw [h k (by omega) z]
    · rw [if_neg (fun q => z q.1), if_neg (fun q => z q.1)]
theorem ps_fitM {c : ps_Cf} {E : Nat → Nat} {t M : Nat} (hf : ps_fe c) (ht : t < ps_n c) (hE : ∀ b, E b ≤ M) : ps_fit c E t M := by
  intro _ τ h1 _
  have hu : ∀ m, ps_use c E m τ = 0 := by
    intro m
    apply ps_sum_zero
    intro b _
    have := hE b
    rw [if_neg (by omega)]
  rw [hu 0, hu 1]
  have := hf.2 t ht
  omega
theorem ps_first0 {c : ps_Cf} {E : Nat → Nat} {t M : Nat} (hf : ps_fe c) (ht : t < ps_n c) (hR : ps_R c t ≤ M) (hE : ∀ b, E b ≤ M) : ∃ s, ps_First c E t s ∧ s ≤ M := by
  have h1 := ps_rdy_le hR hE t
  obtain ⟨s, a1, a2, a3, a4⟩ := ps_least (P := ps_fit c E t) (ps_rdy c E t t) (M - ps_rdy c E t t) (by rw [show ps_rdy c E t t + (M - ps_rdy c E t t) = M from by omega]; exact ps_fitM hf ht hE)
  exact ⟨s, ⟨a1, a3, a4⟩, by omega⟩
theorem ps_inv {c : ps_Cf} (hg : ps_gd c) (hf : ps_fe c) : ∀ l, ps_ok c l → (∀ t, t ∈ l ↔ ps_run c l t ≠ 0) ∧ (∀ t, t ∈ l → ps_D c t ≤ ps_run c l t ∧ t < ps_n c) ∧ (∀ t, ps_run c l t ≤ 20 + ps_pd c (ps_run c l)) := by
  intro l
  induction l with
  | nil =>
    intro _
    refine ⟨fun t => ⟨fun h => (nomatch h), fun h => absurd rfl h⟩, fun t h => (nomatch h), fun t => ?_⟩
    show 0 ≤ _
    omega
  | cons t l ih =>
    intro h
    obtain ⟨h1, h2, h3, h4⟩ := h
    obtain ⟨i1, i2, i3⟩ := ih h1
    have hD := (hg.2.1 t h2)
    have e0 : ps_run c l t = 0 := by
      by_cases z : ps_run c l t = 0
      · exact z
      · exact absurd ((i1 t).mpr z) h3
    obtain ⟨s, hs, hm⟩ := ps_first0 (c := c) (E := ps_run c l) (t := t) hf h2 (M := 20 + ps_pd c (ps_run c l)) (by omega) i3
    have es : ps_run c (t :: l) t = s + ps_D c t := by rw [ps_run_s, ps_est_eq hs]
    have ep : ps_pd c (ps_run c (t :: l)) = ps_pd c (ps_run c l) + ps_D c t := by
      apply ps_sum_add h2
      · intro j _ hj
        rw [ps_run_n hj]
      · skip
        rw [if_pos e0, if_neg (by rw [es]; omega)]
        omega
    refine ⟨fun j => ?_, fun j hj => ?_, fun j => ?_⟩
    · by_cases e : j = t
      · subst e
        exact ⟨fun _ => by rw [es]; omega, fun _ => List.mem_cons_self⟩
      · rw [ps_run_n e, ← i1 j, List.mem_cons]
        exact ⟨fun q => q.resolve_left e, fun q => Or.inr q⟩
    · by_cases e : j = t
      · subst e
        rw [es]
        exact ⟨by omega, h2⟩
      · rw [ps_run_n e]
        exact i2 j ((List.mem_cons.mp hj).resolve_left e)
    · by_cases e : j = t
      · subst e
        rw [es, ep]
        omega
      · rw [ps_run_n e, ep]
        have := i3 j
        omega
theorem ps_first {c : ps_Cf} (hg : ps_gd c) (hf : ps_fe c) {t : Nat} {l : List Nat} (h : ps_ok c (t :: l)) : ps_First c (ps_run c l) t (ps_est c (ps_run c l) t) ∧ ps_est c (ps_run c l) t + ps_D c t ≤ 75 := by
  obtain ⟨h1, h2, h3, h4⟩ := h
  obtain ⟨i1, i2, i3⟩ := ps_inv hg hf l h1
  have hD := (hg.2.1 t h2)
  obtain ⟨s, hs, hm⟩ := ps_first0 (c := c) (E := ps_run c l) (t := t) hf h2 (M := 20 + ps_pd c (ps_run c l)) (by omega) i3
  have j3 := (ps_inv hg hf (t :: l) ⟨h1, h2, h3, h4⟩).2.2 t
  have hp := ps_pd_le c (ps_run c (t :: l))
  have h55 := hg.2.2.1
  rw [ps_run_s] at j3
  rw [ps_est_eq hs] at j3 ⊢
  exact ⟨hs, by omega⟩
theorem ps_run_le {c : ps_Cf} (hg : ps_gd c) (hf : ps_fe c) {l : List Nat} (h : ps_ok c l) (t : Nat) : ps_run c l t ≤ 75 := by
  have := (ps_inv hg hf l h).2.2 t
  have hp := ps_pd_le c (ps_run c l)
  have h55 := hg.2.2.1
  omega
end
section
/-! counting what isn't placed -/
def ps_cnt (c : ps_Cf) (l : List Nat) (k : Nat) : Nat := ps_sum (fun t => if k ≤ t ∧ t ∉ l then 1 else 0) (ps_n c)
theorem ps_sum_one {f : Nat → Nat} {n : Nat} (h : ∀ t, t < n → f t = 1) : ps_sum f n = n := by
  induction n with
  | zero => rfl
  | succ n ih => rw [ps_sum, ih (fun t ht => h t (by omega)), h n (by omega)]
theorem ps_cnt_len {c : ps_Cf} : ∀ l, ps_ok c l → ps_cnt c l 0 + l.length = ps_n c := by
  intro l
  induction l with
  | nil =>
    intro _
    have : ps_cnt c [] 0 = ps_n c := by
      apply ps_sum_one
      intro t _
      exact if_pos ⟨Nat.zero_le _, fun h => (nomatch h)⟩
    rw [this]
    rfl
  | cons t l ih =>
    intro h
    obtain ⟨h1, h2, h3, h4⟩ := h
    have e : ps_cnt c l 0 = ps_cnt c (t :: l) 0 + 1 := by
      apply ps_sum_add h2
      · intro j _ hj
        try dsimp only
        by_cases z : j ∈ l
        · rw [if_neg (fun q => q.2 z), if_neg (fun q => q.2 (List.mem_cons_of_mem _ z))]
        · rw [if_pos ⟨Nat.zero_le _, z⟩, if_pos ⟨Nat.zero_le _, fun q => ((List.mem_cons.mp q).elim hj z)⟩]
      · try dsimp only
        rw [if_pos ⟨Nat.zero_le _, h3⟩, if_neg (fun q => q.2 List.mem_cons_self)]
    have := ih h1
    rw [List.length_cons]
    omega
theorem ps_cnt_step {c : ps_Cf} {l : List Nat} {k t : Nat} (hk : k ≤ t) (ht : t < ps_n c) (hl : t ∉ l) : ps_cnt c l (t + 1) + 1 ≤ ps_cnt c l k := by
  have e : ps_sum (fun j => if j = t then 1 else if t + 1 ≤ j ∧ j ∉ l then 1 else 0) (ps_n c) = ps_cnt c l (t + 1) + 1 := by
    apply ps_sum_add ht
    · intro j _ hj
      try dsimp only
      rw [if_neg hj]
    · try dsimp only
      rw [if_pos rfl, if_neg (fun q => by have := q.1; omega)]
  rw [← e]
  apply ps_sum_le
  intro j _
  try dsimp only
  by_cases e1 : j = t
  · subst e1
    rw [if_pos rfl, if_pos ⟨hk, hl⟩]
    omega
  · rw [if_neg e1]
    by_cases z : t + 1 ≤ j ∧ j ∉ l
    · rw [if_pos z, if_pos ⟨by omega, z.2⟩]
      omega
    · rw [if_neg z]
      exact Nat.zero_le _
theorem ps_cnt_all {c : ps_Cf} {l : List Nat} {t : Nat} (h : ps_cnt c l 0 = 0) (ht : t < ps_n c) : t ∈ l := by
  by_cases z : t ∈ l
  · exact z
  · have h1 := ps_sum_mem (f := fun t => if 0 ≤ t ∧ t ∉ l then 1 else 0) ht
    try dsimp only at h1
    rw [if_pos ⟨Nat.zero_le _, z⟩] at h1
    unfold ps_cnt at h
    omega
def ps_full (c : ps_Cf) (l : List Nat) : Prop := ps_ok c l ∧ l.length = ps_n c
theorem ps_full_mem {c : ps_Cf} {l : List Nat} (h : ps_full c l) {t : Nat} (ht : t < ps_n c) : t ∈ l := by
  have h1 := ps_cnt_len l h.1
  exact ps_cnt_all (by have := h.2; omega) ht
theorem ps_ok_lt {c : ps_Cf} : ∀ {l : List Nat}, ps_ok c l → ∀ t, t ∈ l → t < ps_n c := by
  intro l
  induction l with
  | nil => intro _ t h; exact (nomatch h)
  | cons a l ih =>
    intro h t ht
    rcases List.mem_cons.mp ht with e | e
    · subst e; exact h.2.1
    · exact ih h.1 t e
theorem ps_ok_app {c : ps_Cf} {l : List Nat} : ∀ e, ps_ok c (e ++ l) → ps_ok c l := by
  intro e
  induction e with
  | nil => exact id
  | cons a e ih => intro h; exact ih h.1
theorem ps_ok_len {c : ps_Cf} {l : List Nat} (h : ps_ok c l) : l.length ≤ ps_n c := by
  have := ps_cnt_len l h
  omega
/-! the worst along an order -/
noncomputable def ps_wst (c : ps_Cf) (w : Nat → Nat → Int) : List Nat → Int
  | [] => -100000
  | t :: l => if w t (ps_run c (t :: l) t) ≤ ps_wst c w l then ps_wst c w l else w t (ps_run c (t :: l) t)
theorem ps_wst_c (c : ps_Cf) (w : Nat → Nat → Int) (t : Nat) (l : List Nat) : ps_wst c w l ≤ ps_wst c w (t :: l) ∧ w t (ps_run c (t :: l) t) ≤ ps_wst c w (t :: l) := by
  rw [ps_wst]
  split <;> omega
theorem ps_wst_mono (c : ps_Cf) (w : Nat → Nat → Int) (l : List Nat) : ∀ e, ps_wst c w l ≤ ps_wst c w (e ++ l) := by
  intro e
  induction e with
  | nil => exact Int.le_refl _
  | cons a e ih => exact Int.le_trans ih (ps_wst_c c w a (e ++ l)).1
theorem ps_wst_ub {c : ps_Cf} {w : Nat → Nat → Int} : ∀ l, ps_ok c l → ∀ t, t ∈ l → w t (ps_run c l t) ≤ ps_wst c w l := by
  intro l
  induction l with
  | nil => intro _ t h; exact (nomatch h)
  | cons a l ih =>
    intro h t ht
    have h2 := ps_wst_c c w a l
    rcases List.mem_cons.mp ht with e | e
    · subst e; exact h2.2
    · have hn : t ≠ a := fun q => h.2.2.1 (by rw [← q]; exact e)
      rw [ps_run_n hn]
      exact Int.le_trans (ih h.1 t e) h2.1
theorem ps_wst_at {c : ps_Cf} {w : Nat → Nat → Int} : ∀ l, ps_ok c l → ps_wst c w l = -100000 ∨ ∃ t, t ∈ l ∧ w t (ps_run c l t) = ps_wst c w l := by
  intro l
  induction l with
  | nil => intro _; exact Or.inl rfl
  | cons a l ih =>
    intro h
    rw [ps_wst]
    split
    · rcases ih h.1 with e | ⟨t, ht, e⟩
      · exact Or.inl e
      · have hn : t ≠ a := fun q => h.2.2.1 (by rw [← q]; exact ht)
        exact Or.inr ⟨t, List.mem_cons_of_mem _ ht, by rw [ps_run_n hn]; exact e⟩
    · exact Or.inr ⟨a, List.mem_cons_self, rfl⟩
def ps_mx (c : ps_Cf) (w : Nat → Nat → Int) (E : Nat → Nat) (m : Int) : Prop := (∀ t, t < ps_n c → w t (E t) ≤ m) ∧ ∃ t, t < ps_n c ∧ w t (E t) = m
theorem ps_mx_u {c : ps_Cf} {w : Nat → Nat → Int} {E : Nat → Nat} {m q : Int} (h : ps_mx c w E m) (g : ps_mx c w E q) : m = q := by
  obtain ⟨h1, t, h2, h3⟩ := h
  obtain ⟨g1, s, g2, g3⟩ := g
  have := h1 s g2
  have := g1 t h2
  omega
def ps_wb (c : ps_Cf) (w : Nat → Nat → Int) : Prop := ∀ t e, t < ps_n c → -100000 ≤ w t e ∧ w t e ≤ e
theorem ps_wst_mx {c : ps_Cf} {w : Nat → Nat → Int} (hw : ps_wb c w) (hf : ps_fe c) {l : List Nat} (h : ps_full c l) : ps_mx c w (ps_run c l) (ps_wst c w l) := by
  refine ⟨fun t ht => ps_wst_ub l h.1 t (ps_full_mem h ht), ?_⟩
  rcases ps_wst_at (w := w) l h.1 with e | ⟨t, ht, e⟩
  · have h1 := ps_wst_ub (w := w) l h.1 0 (ps_full_mem h hf.1)
    have h2 := hw 0 (ps_run c l 0) hf.1
    exact ⟨0, hf.1, by omega⟩
  · exact ⟨t, ps_ok_lt h.1 t ht, e⟩
def ps_ls (c : ps_Cf) (w : Nat → Nat → Int) (m : Int) : Prop := (∃ l, ps_full c l ∧ ps_mx c w (ps_run c l) m) ∧ ∀ l q, ps_full c l → ps_mx c w (ps_run c l) q → m ≤ q
theorem ps_ls_u {c : ps_Cf} {w : Nat → Nat → Int} {m q : Int} (h : ps_ls c w m) (g : ps_ls c w q) : m = q := by
  obtain ⟨⟨l, h1, h2⟩, h3⟩ := h
  obtain ⟨⟨k, g1, g2⟩, g3⟩ := g
  have := h3 k q g1 g2
  have := g3 l m h1 h2
  omega
noncomputable def ps_best (c : ps_Cf) (w : Nat → Nat → Int) : Int := Classical.epsilon (fun m => ps_ls c w m)
theorem ps_best_eq {c : ps_Cf} {w : Nat → Nat → Int} {m : Int} (h : ps_ls c w m) : ps_best c w = m :=
  ps_ls_u (Classical.epsilon_spec (p := fun m => ps_ls c w m) ⟨m, h⟩) h
/-! by number: there is an order -/
def ps_idl : Nat → List Nat
  | 0 => []
  | k + 1 => k :: ps_idl k
theorem ps_idl_mem : ∀ k b, b ∈ ps_idl k ↔ b < k := by
  intro k
  induction k with
  | zero => intro b; exact ⟨fun h => (nomatch h), fun h => absurd h (Nat.not_lt_zero b)⟩
  | succ k ih =>
    intro b
    rw [ps_idl, List.mem_cons, ih b]
    omega
theorem ps_idl_len : ∀ k, (ps_idl k).length = k := by
  intro k
  induction k with
  | zero => rfl
  | succ k ih => rw [ps_idl, List.length_cons, ih]
theorem ps_idl_ok {c : ps_Cf} : ∀ k, k ≤ ps_n c → ps_ok c (ps_idl k) := by
  intro k
  induction k with
  | zero => intro _; trivial
  | succ k ih =>
    intro h
    exact ⟨ih (by omega), by omega, fun q => by have := (ps_idl_mem k k).mp q; omega, fun b hb _ => (ps_idl_mem k b).mpr hb⟩
theorem ps_idl_full (c : ps_Cf) : ps_full c (ps_idl (ps_n c)) := ⟨ps_idl_ok _ (Nat.le_refl _), ps_idl_len _⟩
theorem ps_wst_le {c : ps_Cf} {w : Nat → Nat → Int} (hg : ps_gd c) (hw : ps_wb c w) (hf : ps_fe c) {l : List Nat} (h : ps_full c l) : ps_wst c w l ≤ 75 := by
  obtain ⟨_, t, ht, e⟩ := ps_wst_mx hw hf h
  have h1 := hw t (ps_run c l t) ht
  have h2 := ps_run_le hg hf h.1 t
  omega
theorem ps_ls_y {c : ps_Cf} {w : Nat → Nat → Int} (hg : ps_gd c) (hw : ps_wb c w) (hf : ps_fe c) {b : Int} (h1 : b = 100000 ∨ ∃ l, ps_full c l ∧ ps_wst c w l = b) (h2 : ∀ l, ps_full c l → b ≤ ps_wst c w l) : ps_ls c w b := by
  refine ⟨?_, fun l q hl hq => ?_⟩
  · rcases h1 with e | ⟨l, hl, e⟩
    · have h3 := h2 _ (ps_idl_full c)
      have h4 := ps_wst_le hg hw hf (ps_idl_full c)
      omega
    · exact ⟨l, hl, by rw [← e]; exact ps_wst_mx hw hf hl⟩
  · rw [ps_mx_u hq (ps_wst_mx hw hf hl)]
    exact h2 l hl
theorem ps_ls_in {c : ps_Cf} {w : Nat → Nat → Int} (hg : ps_gd c) (hw : ps_wb c w) (hf : ps_fe c) {b : Int} (h : ps_ls c w b) : -100000 ≤ b ∧ b ≤ 75 := by
  obtain ⟨⟨l, hl, hm⟩, _⟩ := h
  obtain ⟨_, t, ht, e⟩ := hm
  have h1 := hw t (ps_run c l t) ht
  have h2 := ps_run_le hg hf hl.1 t
  omega
/-! without limits every order gives the same ends -/
theorem ps_nl_est {c : ps_Cf} (h : ps_l c = false) (E : Nat → Nat) (t : Nat) : ps_est c E t = ps_rdy c E t t :=
  ps_est_eq ⟨Nat.le_refl _, (fun q => by rw [h] at q; exact absurd q (by decide)), fun q h1 h2 => by omega⟩
theorem ps_idl_st {c : ps_Cf} (t : Nat) : ∀ d k, t < k → ps_run c (ps_idl (k + d)) t = ps_run c (ps_idl k) t := by
  intro d
  induction d with
  | zero => intro k _; rfl
  | succ d ih =>
    intro k h
    rw [show k + (d + 1) = (k + d) + 1 from rfl, ps_idl, ps_run_n (by omega)]
    exact ih k h
theorem ps_nl {c : ps_Cf} (h : ps_l c = false) : ∀ l, ps_ok c l → ∀ t, t ∈ l → ps_run c l t = ps_run c (ps_idl (ps_n c)) t := by
  intro l
  induction l with
  | nil => intro _ t q; exact (nomatch q)
  | cons a l ih =>
    intro ho t ht
    by_cases e : t = a
    · subst e
      have hn := ho.2.1
      have e1 : ps_run c (ps_idl (ps_n c)) t = ps_run c (ps_idl (t + 1)) t := by
        rw [show ps_n c = (t + 1) + (ps_n c - (t + 1)) from by omega]
        exact ps_idl_st t _ _ (by omega)
      rw [e1, ps_idl, ps_run_s, ps_run_s, ps_nl_est h, ps_nl_est h]
      congr 1
      apply ps_rdy_congr
      intro b hb hB
      rw [ih ho.1 b (ho.2.2.2 b hb hB)]
      rw [show ps_n c = t + (ps_n c - t) from by omega]
      exact ps_idl_st b _ _ hb
    · rw [ps_run_n e]
      exact ih ho.1 t ((List.mem_cons.mp ht).resolve_left e)
theorem ps_nl_ls {c : ps_Cf} {w : Nat → Nat → Int} (h : ps_l c = false) {m : Int} (hm : ps_mx c w (ps_run c (ps_idl (ps_n c))) m) : ps_ls c w m := by
  refine ⟨⟨_, ps_idl_full c, hm⟩, fun l q hl hq => ?_⟩
  obtain ⟨a1, t, a2, a3⟩ := hm
  have := hq.1 t a2
  rw [ps_nl h l hl.1 t (ps_full_mem hl a2)] at this
  omega
/-! the numbers below the factorial are the orders -/
def ps_fac : Nat → Nat
  | 0 => 1
  | k + 1 => ps_fac k * (k + 1)
theorem ps_fac_pos : ∀ k, 0 < ps_fac k := by
  intro k
  induction k with
  | zero => decide
  | succ k ih => exact Nat.mul_pos ih (by omega)
def ps_ro (u : Nat) : Nat → Nat → Nat
  | 0 => fun _ => 0
  | k + 1 => fun j => if j = u / ps_fac k % (k + 1) then k else if j = k then ps_ro u k (u / ps_fac k % (k + 1)) else ps_ro u k j
theorem ps_ro_lt (u : Nat) : ∀ k j, j < k → ps_ro u k j < k := by
  intro k
  induction k with
  | zero => intro j h; omega
  | succ k ih =>
    intro j h
    have hp : u / ps_fac k % (k + 1) < k + 1 := Nat.mod_lt _ (by omega)
    rw [ps_ro]
    try dsimp only
    split
    · omega
    · split
      · have := ih (u / ps_fac k % (k + 1)) (by omega)
        omega
      · have := ih j (by omega)
        omega
theorem ps_ro_inj (u : Nat) : ∀ k i j, i < k → j < k → ps_ro u k i = ps_ro u k j → i = j := by
  intro k
  induction k with
  | zero => intro i j h; omega
  | succ k ih =>
    intro i j hi hj
    have hp : u / ps_fac k % (k + 1) < k + 1 := Nat.mod_lt _ (by omega)
    rw [ps_ro]
    try dsimp only
    generalize u / ps_fac k % (k + 1) = p at hp ⊢
    by_cases a : i = p
    · rw [if_pos a]
      by_cases b : j = p
      · intro _; omega
      · rw [if_neg b]
        by_cases d : j = k
        · rw [if_pos d]
          have := ps_ro_lt u k p (by omega)
          intro _; omega
        · rw [if_neg d]
          have := ps_ro_lt u k j (by omega)
          intro _; omega
    · rw [if_neg a]
      by_cases b : j = p
      · rw [if_pos b]
        by_cases d : i = k
        · rw [if_pos d]
          have := ps_ro_lt u k p (by omega)
          intro _; omega
        · rw [if_neg d]
          have := ps_ro_lt u k i (by omega)
          intro _; omega
      · rw [if_neg b]
        by_cases d : i = k
        · rw [if_pos d]
          by_cases f : j = k
          · intro _; omega
          · rw [if_neg f]
            intro q
            have := ih p j (by omega) (by omega) q
            omega
        · rw [if_neg d]
          by_cases f : j = k
          · rw [if_pos f]
            intro q
            have := ih i p (by omega) (by omega) q
            omega
          · rw [if_neg f]
            intro q
            exact ih i j (by omega) (by omega) q
theorem ps_ro_sur (u : Nat) : ∀ k b, b < k → ∃ j, j < k ∧ ps_ro u k j = b := by
  intro k
  induction k with
  | zero => intro b h; omega
  | succ k ih =>
    intro b hb
    have hp : u / ps_fac k % (k + 1) < k + 1 := Nat.mod_lt _ (by omega)
    rw [ps_ro]
    generalize u / ps_fac k % (k + 1) = p at hp ⊢
    by_cases a : b = k
    · exact ⟨p, hp, by try dsimp only; rw [if_pos rfl, a]⟩
    · obtain ⟨i, hi, e⟩ := ih b (by omega)
      by_cases d : i = p
      · exact ⟨k, by omega, by try dsimp only; rw [if_neg (by omega), if_pos rfl, ← d]; exact e⟩
      · exact ⟨i, by omega, by try dsimp only; rw [if_neg d, if_neg (by omega)]; exact e⟩
theorem ps_ro_add (u : Nat) : ∀ k q, ps_ro (u + q * ps_fac k) k = ps_ro u k := by
  intro k
  induction k with
  | zero => intro q; rfl
  | succ k ih =>
    intro q
    have e1 : u + q * ps_fac (k + 1) = u + (q * (k + 1)) * ps_fac k := by
      rw [ps_fac, Nat.mul_comm (ps_fac k), Nat.mul_assoc]
    have e2 : (u + (q * (k + 1)) * ps_fac k) / ps_fac k % (k + 1) = u / ps_fac k % (k + 1) := by
      rw [Nat.add_mul_div_right _ _ (ps_fac_pos k), Nat.add_mul_mod_self_right]
    rw [e1, ps_ro, ps_ro, e2, ih]
theorem ps_ro_all : ∀ k (q : Nat → Nat), (∀ j, j < k → q j < k) → (∀ i j, i < k → j < k → q i = q j → i = j) → (∀ b, b < k → ∃ j, j < k ∧ q j = b) → ∃ u, u < ps_fac k ∧ ∀ j, j < k → ps_ro u k j = q j := by
  intro k
  induction k with
  | zero => intro q _ _ _; exact ⟨0, by decide, fun j h => by omega⟩
  | succ k ih =>
    intro q h1 h2 h3
    obtain ⟨p, hp, ep⟩ := h3 k (by omega)
    have hq : ∀ j, j < k + 1 → j ≠ p → q j < k := by
      intro j hj hn
      have := h1 j hj
      by_cases e : q j = k
      · exact absurd (h2 j p hj hp (by rw [e, ep])) hn
      · omega
    obtain ⟨u, hu, eu⟩ := ih (fun j => if j = p then q k else q j)
      (by
        intro j hj
        try dsimp only
        by_cases e : j = p
        · rw [if_pos e]; exact hq k (by omega) (by omega)
        · rw [if_neg e]; exact hq j (by omega) e)
      (by
        intro i j hi hj
        try dsimp only
        by_cases e : i = p
        · rw [if_pos e]
          by_cases f : j = p
          · intro _; omega
          · rw [if_neg f]
            intro z
            have := h2 k j (by omega) (by omega) z
            omega
        · rw [if_neg e]
          by_cases f : j = p
          · rw [if_pos f]
            intro z
            have := h2 i k (by omega) (by omega) z
            omega
          · rw [if_neg f]
            exact h2 i j (by omega) (by omega))
      (by
        intro b hb
        obtain ⟨j, hj, ej⟩ := h3 b (by omega)
        have hjp : j ≠ p := fun z => by rw [z, ep] at ej; omega
        by_cases e : j = k
        · refine ⟨p, by omega, ?_⟩
          try dsimp only
          rw [if_pos rfl, ← e]
          exact ej
        · refine ⟨j, by omega, ?_⟩
          try dsimp only
          rw [if_neg hjp]
          exact ej)
    have hdig : (u + p * ps_fac k) / ps_fac k % (k + 1) = p := by
      rw [Nat.add_mul_div_right _ _ (ps_fac_pos k), Nat.div_eq_of_lt hu, Nat.zero_add]
      exact Nat.mod_eq_of_lt hp
    refine ⟨u + p * ps_fac k, ?_, fun j hj => ?_⟩
    · have h5 : p * ps_fac k ≤ k * ps_fac k := Nat.mul_le_mul_right _ (by omega)
      have h6 : ps_fac (k + 1) = k * ps_fac k + ps_fac k := by rw [ps_fac, Nat.mul_comm, Nat.succ_mul]
      omega
    · rw [ps_ro, hdig, ps_ro_add]
      try dsimp only
      by_cases e : j = p
      · rw [if_pos e, e, ep]
      · rw [if_neg e]
        by_cases f : j = k
        · rw [if_pos f, eu p (by omega)]
          try dsimp only
          rw [if_pos rfl, f]
        · rw [if_neg f, eu j (by omega)]
          try dsimp only
          rw [if_neg e]
def ps_lst (q : Nat → Nat) : Nat → List Nat
  | 0 => []
  | k + 1 => q k :: ps_lst q k
theorem ps_lst_len (q : Nat → Nat) : ∀ k, (ps_lst q k).length = k := by
  intro k
  induction k with
  | zero => rfl
  | succ k ih => rw [ps_lst, List.length_cons, ih]
theorem ps_lst_mem (q : Nat → Nat) (b : Nat) : ∀ k, b ∈ ps_lst q k ↔ ∃ j, j < k ∧ q j = b := by
  intro k
  induction k with
  | zero => exact ⟨fun h => (nomatch h), fun ⟨j, h, _⟩ => absurd h (Nat.not_lt_zero j)⟩
  | succ k ih =>
    rw [ps_lst, List.mem_cons, ih]
    constructor
    · intro h
      rcases h with e | ⟨j, hj, e⟩
      · exact ⟨k, by omega, e.symm⟩
      · exact ⟨j, by omega, e⟩
    · intro ⟨j, hj, e⟩
      by_cases f : j = k
      · exact Or.inl (by rw [← e, f])
      · exact Or.inr ⟨j, by omega, e⟩
theorem ps_lst_congr {q r : Nat → Nat} : ∀ k, (∀ j, j < k → q j = r j) → ps_lst q k = ps_lst r k := by
  intro k
  induction k with
  | zero => intro _; rfl
  | succ k ih => intro h; rw [ps_lst, ps_lst, ih (fun j hj => h j (by omega)), h k (by omega)]
theorem ps_lst_of : ∀ l : List Nat, ∃ q, l = ps_lst q l.length := by
  intro l
  induction l with
  | nil => exact ⟨fun _ => 0, rfl⟩
  | cons t l ih =>
    obtain ⟨q, e⟩ := ih
    refine ⟨fun j => if j = l.length then t else q j, ?_⟩
    rw [List.length_cons, ps_lst]
    try dsimp only
    rw [if_pos rfl, ps_lst_congr (r := q) l.length (fun j hj => if_neg (by omega)), ← e]
theorem ps_lst_ok {c : ps_Cf} {q : Nat → Nat} : ∀ d k, ps_ok c (ps_lst q (k + d)) → ps_ok c (ps_lst q k) := by
  intro d
  induction d with
  | zero => intro k h; exact h
  | succ d ih => intro k h; exact ih k h.1
theorem ps_full_ro {c : ps_Cf} {l : List Nat} (h : ps_full c l) : ∃ u, u < ps_fac (ps_n c) ∧ l = ps_lst (ps_ro u (ps_n c)) (ps_n c) := by
  obtain ⟨q, e⟩ := ps_lst_of l
  rw [h.2] at e
  have hm : ∀ b, b ∈ l ↔ ∃ j, j < ps_n c ∧ q j = b := by
    intro b
    rw [e]
    exact ps_lst_mem q b _
  have hlt : ∀ i j, i < j → j < ps_n c → q i ≠ q j := by
    intro i j hi hj he
    have ho : ps_ok c (ps_lst q ((j + 1) + (ps_n c - (j + 1)))) := by
      rw [show (j + 1) + (ps_n c - (j + 1)) = ps_n c from by omega, ← e]
      exact h.1
    have h2 := ps_lst_ok _ _ ho
    exact h2.2.2.1 ((ps_lst_mem q (q j) j).mpr ⟨i, hi, he⟩)
  obtain ⟨u, hu, eu⟩ := ps_ro_all (ps_n c) q
    (fun j hj => ps_ok_lt h.1 _ ((hm _).mpr ⟨j, hj, rfl⟩))
    (fun i j hi hj he => by
      by_cases a : i < j
      · exact absurd he (hlt i j a hj)
      · by_cases b : j < i
        · exact absurd he.symm (hlt j i b hi)
        · omega)
    (fun b hb => (hm b).mp (ps_full_mem h hb))
  exact ⟨u, hu, by rw [e]; exact (ps_lst_congr _ eu).symm⟩
end
section
theorem pk_us {f : Nat → Int32} {k : Nat} {x : Int32} : upd f k x k = x := if_pos rfl
theorem pk_un {f : Nat → Int32} {k j : Nat} {x : Int32} (h : j ≠ k) : upd f k x j = f j := if_neg h
theorem pk_sub {a b : Nat} (h : b ≤ a) : nI a - nI b = nI (a - b) := by
  obtain ⟨c, rfl⟩ : ∃ c, a = c + b := ⟨a - b, by omega⟩
  rw [← nI_add, Int32.add_sub_cancel, Nat.add_sub_cancel]
theorem pk_m1 (n : Nat) : nI (n + 1) + (-1) = nI n := by
  rw [← nI_1, Int32.add_assoc, show (1 : Int32) + (-1) = 0 from rfl, Int32.add_zero]
theorem pk_mul (a b : Nat) : nI a * nI b = nI (a * b) := (Int32.ofNat_mul a b).symm
theorem pk_div {a d : Nat} (ha : a < 2 ^ 31) (h0 : 0 < d) (hd : d < 2 ^ 31) : nI a / nI d = nI (a / d) := by
  apply Int32.toInt_inj.mp
  rw [lg_idiv_nonneg (by rw [nI_toInt ha]; omega) (by rw [nI_toInt hd]; omega), nI_toInt ha, nI_toInt hd, nI_toInt (Nat.lt_of_le_of_lt (Nat.div_le_self a d) ha)]
  first | rfl | exact (Int.natCast_ediv _ _).symm
theorem pk_rem {a d : Nat} (ha : a < 2 ^ 31) (h0 : 0 < d) (hd : d < 2 ^ 31) : nI a - nI a / nI d * nI d = nI (a % d) := by
  rw [pk_div ha h0 hd, pk_mul, pk_sub (Nat.div_mul_le_self a d)]
  exact congrArg nI (by have := Nat.div_add_mod' a d; omega)
theorem pk_sub_toInt {a b : Nat} (ha : a < 2 ^ 30) (hb : b < 2 ^ 30) : (nI a - nI b).toInt = (a : Int) - b := by
  rw [Int32.toInt_sub, nI_toInt (by omega), nI_toInt (by omega)]
  exact Int.bmod_eq_of_le (by omega) (by omega)
theorem pk_le {x y : Int32} {A B : Prop} (a b : Nat) (f : a ≤ b → A) (g : b < a → B) (hx : x = nI a := by rfl) (hy : y = nI b := by rfl) (ha : a < 2 ^ 31 := by omega) (hb : b < 2 ^ 31 := by omega) : (x ≤ y → A) ∧ (¬ x ≤ y → B) := by
  subst hx hy
  rw [nI_leI ha hb]
  exact ⟨f, fun z => g (by omega)⟩
theorem pk_lt {x y : Int32} {A B : Prop} (a b : Nat) (f : a < b → A) (g : b ≤ a → B) (hx : x = nI a := by rfl) (hy : y = nI b := by rfl) (ha : a < 2 ^ 31 := by omega) (hb : b < 2 ^ 31 := by omega) : (x < y → A) ∧ (¬ x < y → B) := by
  subst hx hy
  rw [nI_ltI ha hb]
  exact ⟨f, fun z => g (by omega)⟩
theorem pk_eq {x y : Int32} {A B : Prop} (a b : Nat) (f : a = b → A) (g : a ≠ b → B) (hx : x = nI a := by rfl) (hy : y = nI b := by rfl) (ha : a < 2 ^ 31 := by omega) (hb : b < 2 ^ 31 := by omega) : (x = y → A) ∧ (¬ x = y → B) := by
  subst hx hy
  rw [nI_eq ha hb]
  exact ⟨f, g⟩
theorem pk_in {x : Int32} (n N : Nat) (h : n < N) (hx : x = nI n := by rfl) (hN : N < 2 ^ 31 := by omega) : vp_in x N := by
  subst hx
  exact vp_in_nI h hN
theorem pk_cl {x : Int32} (n : Nat) (hx : x = nI n := by rfl) (h : n < 2 ^ 31 := by omega) : x.toNatClampNeg = n := by
  subst hx
  exact nI_clamp h
theorem pk_tn {n : Nat} (h : n < 2 ^ 32) : (nI n).toBitVec.toNat = n := Nat.mod_eq_of_lt h
theorem pk_and (x : Int32) {m : Int32} (k : Nat) (hm : m.toBitVec.toNat = 2 ^ k - 1) : x &&& m = nI (x.toBitVec.toNat % 2 ^ k) := by
  apply Int32.toBitVec_inj.mp
  apply BitVec.eq_of_toNat_eq
  rw [Int32.toBitVec_and, BitVec.toNat_and, hm, Nat.and_two_pow_sub_one_eq_mod]
  show _ = (BitVec.ofNat 32 _).toNat
  rw [BitVec.toNat_ofNat]
  exact (Nat.mod_eq_of_lt (Nat.lt_of_le_of_lt (Nat.mod_le _ _) x.toBitVec.isLt)).symm
theorem pk_andN {n : Nat} (h : n < 2 ^ 32) {m : Int32} (k : Nat) (hm : m.toBitVec.toNat = 2 ^ k - 1) : nI n &&& m = nI (n % 2 ^ k) := by
  rw [pk_and _ k hm, pk_tn h]
theorem pk_andE (x : Int32) {m : Int32} (k : Nat) (hm : m.toBitVec.toNat = 2 ^ k - 1) : ∃ j : Nat, j < 2 ^ k ∧ x &&& m = nI j := ⟨_, Nat.mod_lt _ (Nat.two_pow_pos k), pk_and x k hm⟩
def bt (x : Int32) (i : Nat) : Bool := x.toBitVec.getLsbD i
theorem b_ext {x y : Int32} (h : ∀ i, i < 32 → bt x i = bt y i) : x = y := Int32.toBitVec_inj.mp (BitVec.eq_of_getLsbD_eq (fun i hi => h i hi))
theorem b_or (x y : Int32) (i : Nat) : bt (x ||| y) i = (bt x i || bt y i) := by unfold bt; rw [Int32.toBitVec_or, BitVec.getLsbD_or]
theorem b_and (x y : Int32) (i : Nat) : bt (x &&& y) i = (bt x i && bt y i) := by unfold bt; rw [Int32.toBitVec_and, BitVec.getLsbD_and]
theorem b_xor (x y : Int32) (i : Nat) : bt (x ^^^ y) i = (bt x i ^^ bt y i) := by unfold bt; rw [Int32.toBitVec_xor, BitVec.getLsbD_xor]
theorem b_big {x : Int32} {i : Nat} (h : 32 ≤ i) : bt x i = false := BitVec.getLsbD_of_ge _ _ h
theorem b_m1 : ∀ i, i < 32 → bt (-1) i = true := by decide +kernel
theorem b_0 (i : Nat) : bt 0 i = false := BitVec.getLsbD_zero
theorem s_l : ∀ n, n < 32 → ((nI n &&& 31).toBitVec.smod 32).toNat = n := by decide +kernel
theorem b_shl (n : Nat) (hn : n < 32) (x : Int32) {i : Nat} (hi : i < 32) : bt (x <<< (nI n &&& 31)) i = (decide (n ≤ i) && bt x (i - n)) := by
  unfold bt
  rw [Int32.toBitVec_shiftLeft]
  show (x.toBitVec <<< ((nI n &&& 31).toBitVec.smod 32).toNat).getLsbD i = _
  rw [s_l n hn, BitVec.getLsbD_shiftLeft]
  rcases Nat.lt_or_ge i n with h | h
  · simp [h, Nat.not_le.mpr h]
  · simp [hi, h, Nat.not_lt.mpr h]
theorem b_sshr (n : Nat) (hn : n < 32) (x : Int32) {i : Nat} (hi : i < 32) : bt (x >>> (nI n &&& 31)) i = if n + i < 32 then bt x (n + i) else bt x 31 := by
  unfold bt
  rw [Int32.toBitVec_shiftRight]
  show (x.toBitVec.sshiftRight ((nI n &&& 31).toBitVec.smod 32).toNat).getLsbD i = _
  rw [s_l n hn, BitVec.getLsbD_sshiftRight, BitVec.msb_eq_getLsbD_last]
  simp [hi]
/-! whole numbers as Int32 -/
def ps_i (z : Int) : Int32 := Int32.ofInt z
theorem ps_i_t {z : Int} (h1 : -2147483648 ≤ z) (h2 : z < 2147483648) : (ps_i z).toInt = z := Int32.toInt_ofInt_of_le h1 h2
theorem ps_i_le {a b : Int} (a1 : -2147483648 ≤ a) (a2 : a < 2147483648) (b1 : -2147483648 ≤ b) (b2 : b < 2147483648) : ps_i a ≤ ps_i b ↔ a ≤ b := by
  rw [Int32.le_iff_toInt_le, ps_i_t a1 a2, ps_i_t b1 b2]
theorem ps_i_lt {a b : Int} (a1 : -2147483648 ≤ a) (a2 : a < 2147483648) (b1 : -2147483648 ≤ b) (b2 : b < 2147483648) : ps_i a < ps_i b ↔ a < b := by
  rw [Int32.lt_iff_toInt_lt, ps_i_t a1 a2, ps_i_t b1 b2]
theorem ps_i_eq {a b : Int} (a1 : -2147483648 ≤ a) (a2 : a < 2147483648) (b1 : -2147483648 ≤ b) (b2 : b < 2147483648) : ps_i a = ps_i b ↔ a = b := by
  rw [← Int32.toInt_inj, ps_i_t a1 a2, ps_i_t b1 b2]
theorem ps_i_n {n : Nat} (h : n < 2147483648) : nI n = ps_i (n : Int) := by
  apply Int32.toInt_inj.mp
  rw [nI_toInt (by omega), ps_i_t (by omega) (by omega)]
theorem ps_i_sub {a b : Nat} (ha : a < 1073741824) (hb : b < 1073741824) : nI a - nI b = ps_i ((a : Int) - b) := by
  apply Int32.toInt_inj.mp
  rw [pk_sub_toInt (by omega) (by omega), ps_i_t (by omega) (by omega)]
theorem ps_cle {x y : Int32} {A B : Prop} (a b : Int) (f : a ≤ b → A) (g : b < a → B) (hx : x = ps_i a) (hy : y = ps_i b) (a1 : -2000000000 ≤ a) (a2 : a < 2000000000) (b1 : -2000000000 ≤ b) (b2 : b < 2000000000) : (x ≤ y → A) ∧ (¬ x ≤ y → B) := by
  subst hx hy
  rw [ps_i_le (by omega) (by omega) (by omega) (by omega)]
  exact ⟨f, fun z => g (by omega)⟩
theorem ps_clt {x y : Int32} {A B : Prop} (a b : Int) (f : a < b → A) (g : b ≤ a → B) (hx : x = ps_i a) (hy : y = ps_i b) (a1 : -2000000000 ≤ a) (a2 : a < 2000000000) (b1 : -2000000000 ≤ b) (b2 : b < 2000000000) : (x < y → A) ∧ (¬ x < y → B) := by
  subst hx hy
  rw [ps_i_lt (by omega) (by omega) (by omega) (by omega)]
  exact ⟨f, fun z => g (by omega)⟩
theorem ps_ceq {x y : Int32} {A B : Prop} (a b : Int) (f : a = b → A) (g : a ≠ b → B) (hx : x = ps_i a) (hy : y = ps_i b) (a1 : -2000000000 ≤ a) (a2 : a < 2000000000) (b1 : -2000000000 ≤ b) (b2 : b < 2000000000) : (x = y → A) ∧ (¬ x = y → B) := by
  subst hx hy
  rw [ps_i_eq (by omega) (by omega) (by omega) (by omega)]
  exact ⟨f, g⟩
theorem ps_ix (m k t : Nat) : nI m * nI k + nI t = nI (m * k + t) := by rw [pk_mul, nI_add]
theorem ps_ix6 (m t : Nat) : nI m * 6 + nI t = nI (m * 6 + t) := ps_ix m 6 t
theorem ps_ix75 (m t : Nat) : nI m * 75 + nI t = nI (m * 75 + t) := ps_ix m 75 t
theorem ps_ix2 (m t : Nat) : nI m * 2 + nI t = nI (m * 2 + t) := ps_ix m 2 t
theorem ps_ix21 (m : Nat) : nI m * 2 + 1 = nI (m * 2 + 1) := ps_ix m 2 1
theorem ps_ix20 (m : Nat) : nI m * 2 = nI (m * 2) := pk_mul m 2
/-! one bit of an Int32 -/
theorem ps_b1 : ∀ i, i < 32 → bt 1 i = decide (i = 0) := by decide +kernel
theorem ps_and1 (x : Int32) : x &&& 1 = if bt x 0 = true then 1 else 0 := by
  apply b_ext
  intro i hi
  rw [b_and, ps_b1 i hi]
  by_cases e : i = 0
  · subst e
    by_cases z : bt x 0 = true
    · rw [z, if_pos rfl]; decide +kernel
    · rw [if_neg z, Bool.not_eq_true] at *
      rw [z]; decide +kernel
  · rw [decide_eq_false e, Bool.and_false]
    by_cases z : bt x 0 = true
    · rw [if_pos z, ps_b1 i hi, decide_eq_false e]
    · rw [if_neg z, b_0]
theorem ps_bit (x : Int32) {t : Nat} (ht : t < 32) : (x >>> (nI t &&& 31)) &&& 1 = if bt x t = true then 1 else 0 := by
  rw [ps_and1, b_sshr t ht x (by omega), if_pos (show t + 0 < 32 from by omega), Nat.add_zero]
theorem ps_bit1 {x : Int32} {t : Nat} (ht : t < 32) {A B : Prop} (f : bt x t = true → A) (g : bt x t = false → B) : (((x >>> (nI t &&& 31)) &&& 1) = 1 → A) ∧ (¬ ((x >>> (nI t &&& 31)) &&& 1) = 1 → B) := by
  rw [ps_bit x ht]
  by_cases z : bt x t = true
  · rw [if_pos z]
    exact ⟨fun _ => f z, fun q => absurd rfl q⟩
  · rw [if_neg z]
    exact ⟨fun q => absurd q (by decide), fun _ => g (Bool.not_eq_true _ ▸ z)⟩
theorem ps_bit0 {x : Int32} {t : Nat} (ht : t < 32) {A B : Prop} (f : bt x t = false → A) (g : bt x t = true → B) : (((x >>> (nI t &&& 31)) &&& 1) = 0 → A) ∧ (¬ ((x >>> (nI t &&& 31)) &&& 1) = 0 → B) := by
  rw [ps_bit x ht]
  by_cases z : bt x t = true
  · rw [if_pos z]
    exact ⟨fun q => absurd q (by decide), fun _ => g z⟩
  · rw [if_neg z]
    exact ⟨fun _ => f (Bool.not_eq_true _ ▸ z), fun q => absurd rfl q⟩
theorem ps_sh1 {t i : Nat} (ht : t < 32) (hi : i < 32) : bt ((1 : Int32) <<< (nI t &&& 31)) i = decide (i = t) := by
  rw [b_shl t ht 1 hi]
  by_cases a : t ≤ i
  · rw [decide_eq_true a, Bool.true_and, ps_b1 (i - t) (by omega)]
    by_cases e : i = t
    · rw [decide_eq_true e, decide_eq_true (by omega)]
    · rw [decide_eq_false e, decide_eq_false (by omega)]
  · rw [decide_eq_false a, Bool.false_and, decide_eq_false (by omega)]
theorem ps_set {x : Int32} {t i : Nat} (ht : t < 32) (hi : i < 32) : bt (x ||| ((1 : Int32) <<< (nI t &&& 31))) i = (bt x i || decide (i = t)) := by
  rw [b_or, ps_sh1 ht hi]
theorem ps_clr {x : Int32} {t i : Nat} (ht : t < 32) (hi : i < 32) : bt (x &&& (((1 : Int32) <<< (nI t &&& 31)) ^^^ (-1))) i = (bt x i && !decide (i = t)) := by
  rw [b_and, b_xor, ps_sh1 ht hi, b_m1 i hi, Bool.xor_true]
theorem ps_sub0 {x p : Int32} : (x &&& (p ^^^ (-1))) = 0 ↔ ∀ i, i < 32 → bt x i = true → bt p i = true := by
  constructor
  · intro h i hi hx
    have e := congrArg (fun z => bt z i) h
    rw [b_and, b_xor, b_m1 i hi, b_0, hx, Bool.true_and, Bool.xor_true] at e
    revert e
    cases bt p i <;> decide
  · intro h
    apply b_ext
    intro i hi
    rw [b_and, b_xor, b_m1 i hi, b_0, Bool.xor_true]
    have := h i hi
    revert this
    cases bt x i <;> cases bt p i <;> decide
end
section
/-! the component's state holds the project c -/
def ps_Xc (c : ps_Cf) (fc : Int32) (aD aR aU aA aC aB : Nat → Int32) : Prop :=
  fc = nI (ps_n c) ∧ (∀ t, t < ps_n c → aD t = nI (ps_D c t) ∧ aR t = nI (ps_R c t) ∧ aU t = nI (ps_U c t)) ∧ (∀ m t, m < 2 → t < ps_n c → aA (m * 6 + t) = nI (ps_A c m t)) ∧ (∀ m, m < 2 → aC m = nI (ps_C c m)) ∧ (∀ a b, a < b → b < 6 → aB (a * 6 + b) = if ps_B c a b = true then 1 else 0)
theorem ps_m2 {P : Nat → Prop} (h0 : P 0) (h1 : P 1) : ∀ m, m < 2 → P m := by
  intro m hm
  by_cases e : m = 0
  · subst e; exact h0
  · rw [show m = 1 from by omega]; exact h1
theorem ps_A4 {c : ps_Cf} (hg : ps_gd c) {m t : Nat} (hm : m < 2) (ht : t < ps_n c) : ps_A c m t ≤ 4 :=
  ps_m2 (P := fun m => ps_A c m t ≤ 4) (hg.2.1 t ht).2.2.2.2.1 (hg.2.1 t ht).2.2.2.2.2 m hm
theorem ps_C8 {c : ps_Cf} (hg : ps_gd c) {m : Nat} (hm : m < 2) : ps_C c m ≤ 8 :=
  ps_m2 (P := fun m => ps_C c m ≤ 8) hg.2.2.2.1 hg.2.2.2.2 m hm
theorem ps_fem {c : ps_Cf} (hf : ps_fe c) {m t : Nat} (hm : m < 2) (ht : t < ps_n c) : ps_A c m t ≤ ps_C c m :=
  ps_m2 (P := fun m => ps_A c m t ≤ ps_C c m) (hf.2 t ht).1 (hf.2 t ht).2 m hm
theorem px_feas12 {c : ps_Cf} (hg : ps_gd c) (fc fl ft : Int32) (aD aR aU aA aC aB aO aE aS aL : Nat → Int32) (hX : ps_Xc c fc aD aR aU aA aC aB) (post : Int32 → Prop) (J2 : Int32 → Prop) {t : Nat} (ht : t < ps_n c)
    (h1 : (∀ m, m < 2 → ps_A c m t ≤ ps_C c m) → J2 (nI (t + 1))) (h0 : ¬ (∀ m, m < 2 → ps_A c m t ≤ ps_C c m) → post 0) :
    ∀ d m, m + d = 2 → (∀ k, k < m → ps_A c k t ≤ ps_C c k) → wX_someFeasiblePlan_12 post J2 (nI t) fc fl ft aD aR aU aA aC aB aO aE aS aL (d + 1) (nI m) := by
  have hn := hg.1
  intro d
  induction d with
  | zero =>
    intro m hm hk
    exact br_t (nI_le (a := 2) (b := m) (by omega) (by omega)) (nm_r (nI_1 t) (h1 (fun k hk2 => hk k (by omega))))
  | succ d ih =>
    intro m hm hk
    have hA := ps_A4 hg (m := m) (t := t) (by omega) ht
    have hC := ps_C8 hg (m := m) (by omega)
    refine br_f (nI_ge (b := 2) (a := m) (by omega) (by omega)) ⟨pk_in (m * 6 + t) 12 (by omega) (ps_ix m 6 t), pk_in m 2 (by omega), ?_⟩
    refine pk_le (ps_A c m t) (ps_C c m) (fun z => nm_r (nI_1 m) (ih (m + 1) (by omega) (fun k hk2 => ?_))) (fun z => h0 (fun q => ?_)) ?_ ?_ (by omega) (by omega)
    · by_cases e : k = m
      · subst e; exact z
      · exact hk k (by omega)
    · have := q m (by omega)
      omega
    · rw [ps_ix6, nI_clamp (by omega)]
      exact hX.2.2.1 m t (by omega) ht
    · rw [nI_clamp (by omega)]
      exact hX.2.2.2.1 m (by omega)
theorem px_feas {c : ps_Cf} (hg : ps_gd c) (fc fl ft : Int32) (aD aR aU aA aC aB aO aE aS aL : Nat → Int32) (hX : ps_Xc c fc aD aR aU aA aC aB) (post : Int32 → Prop) (h1 : ps_fe c → post 1) (h0 : ¬ ps_fe c → post 0) : wpX_someFeasiblePlan post (fc, fl, ft, aD, aR, aU, aA, aC, aB, aO, aE, aS, aL) := by
  have hn := hg.1
  have key : ∀ d t, t + d = ps_n c → (∀ k, k < t → ∀ m, m < 2 → ps_A c m k ≤ ps_C c m) → wX_someFeasiblePlan_2 post fc fl ft aD aR aU aA aC aB aO aE aS aL (d + 1) (nI t) := by
    intro d
    induction d with
    | zero =>
      intro t ht hk
      have et : t = ps_n c := by omega
      refine br_t (by rw [hX.1]; exact nI_le (by omega) (by omega)) ?_
      refine pk_le (ps_n c) 0 (fun z => h0 (fun q => by have := q.1; omega)) (fun z => h1 ⟨by omega, fun k hk2 => ⟨hk k (by omega) 0 (by omega), hk k (by omega) 1 (by omega)⟩⟩) hX.1 rfl (by omega) (by omega)
    | succ d ih =>
      intro t ht hk
      refine br_f (by rw [hX.1]; exact nI_ge (by omega) (by omega)) ⟨3, ?_⟩
      refine px_feas12 hg fc fl ft aD aR aU aA aC aB aO aE aS aL hX post _ (t := t) (by omega) (fun q => ih (t + 1) (by omega) (fun k hk2 => ?_)) (fun q => h0 (fun f => q (fun m hm => ps_fem f hm (by omega)))) 2 0 (by omega) (fun k hk2 => absurd hk2 (Nat.not_lt_zero k))
      by_cases e : k = t
      · subst e; exact q
      · exact hk k (by omega)
  exact ⟨_, key (ps_n c) 0 (by omega) (fun k hk => absurd hk (Nat.not_lt_zero k))⟩
theorem px_ro {c : ps_Cf} (hg : ps_gd c) (fc fl ft : Int32) (aD aR aU aA aC aB aO aE aS aL : Nat → Int32) (hfc : fc = nI (ps_n c)) {u : Nat} (hu : u < 2147483648) (post : SX → Prop) (h : ∀ aO', (∀ j, j < ps_n c → aO' j = nI (ps_ro u (ps_n c) j)) → post (fc, fl, ft, aD, aR, aU, aA, aC, aB, aO', aE, aS, aL)) : wpX_readOrder post (fc, fl, ft, aD, aR, aU, aA, aC, aB, aO, aE, aS, aL) (nI u) := by
  have hn := hg.1
  have key : ∀ d k aO, k + d = ps_n c → (∀ j, j < k → aO j = nI (ps_ro u k j)) → wX_readOrder_4 post fc fl ft (d + 1) (nI (u / ps_fac k)) (nI k) aD aR aU aA aC aB aO aE aS aL := by
    intro d
    induction d with
    | zero =>
      intro k aO hk ho
      have ek : k = ps_n c := by omega
      subst ek
      exact br_t (by rw [hfc]; exact nI_le (by omega) (by omega)) (h aO ho)
    | succ d ih =>
      intro k aO hk ho
      have hv : u / ps_fac k < 2147483648 := Nat.lt_of_le_of_lt (Nat.div_le_self _ _) hu
      have hp : u / ps_fac k % (k + 1) < k + 1 := Nat.mod_lt _ (by omega)
      refine br_f (by rw [hfc]; exact nI_ge (by omega) (by omega)) ?_
      refine nm_r (nI_1 k) ⟨nI_ne0 (by omega) (by omega), ?_⟩
      refine nm_r (pk_rem (by omega) (by omega) (by omega)) ⟨nI_ne0 (by omega) (by omega), ?_⟩
      refine nm_r (e' := nI (u / ps_fac (k + 1))) (by rw [pk_div (by omega) (by omega) (by omega), Nat.div_div_eq_div_mul]; rfl) ?_
      refine ⟨vp_in_nI (by omega) (by omega), vp_in_nI (by omega) (by omega), nm_e ⟨vp_in_nI (by omega) (by omega), nm_e (nm_r (nI_1 k) (ih (k + 1) _ (by omega) ?_))⟩⟩
      intro j hj
      rw [nI_clamp (by omega), nI_clamp (by omega), ps_ro]
      dsimp only
      by_cases e : j = u / ps_fac k % (k + 1)
      · rw [if_pos e, e, pk_us]
      · rw [if_neg e, pk_un e]
        by_cases f : j = k
        · rw [if_pos f, f, pk_us]
          exact ho _ (by omega)
        · rw [if_neg f, pk_un f]
          exact ho j (by omega)
  have := key (ps_n c) 0 aO (by omega) (fun j hj => absurd hj (Nat.not_lt_zero j))
  rw [show u / ps_fac 0 = u from Nat.div_one u] at this
  exact ⟨_, this⟩
theorem px_clear {c : ps_Cf} (hg : ps_gd c) (fc fl ft : Int32) (aD aR aU aA aC aB aO aE aS aL : Nat → Int32) (hfc : fc = nI (ps_n c)) (post : SX → Prop) (h : ∀ aE' aS', (∀ j, j < ps_n c → aE' j = 0) → (∀ j, j < 150 → aS' j = 0) → post (fc, fl, ft, aD, aR, aU, aA, aC, aB, aO, aE', aS', aL)) : wpX_clearPlan post (fc, fl, ft, aD, aR, aU, aA, aC, aB, aO, aE, aS, aL) := by
  have hn := hg.1
  have k2 : ∀ aE, (∀ j, j < ps_n c → aE j = 0) → ∀ d i aS, i + d = 150 → (∀ j, j < i → aS j = 0) → wX_clearPlan_25 post fc fl ft (d + 1) (nI i) aD aR aU aA aC aB aO aE aS aL := by
    intro aE hE d
    induction d with
    | zero =>
      intro i aS hi hS
      have ei : i = 150 := by omega
      subst ei
      exact br_t (nI_le (a := 150) (b := 150) (by omega) (by omega)) (h aE aS hE hS)
    | succ d ih =>
      intro i aS hi hS
      refine br_f (nI_ge (b := 150) (a := i) (by omega) (by omega)) ⟨vp_in_nI (by omega) (by omega), nm_e (nm_r (nI_1 i) (ih (i + 1) _ (by omega) ?_))⟩
      intro j hj
      rw [nI_clamp (by omega)]
      by_cases e : j = i
      · rw [e, pk_us]
      · rw [pk_un e]; exact hS j (by omega)
  have k1 : ∀ d i aE, i + d = ps_n c → (∀ j, j < i → aE j = 0) → wX_clearPlan_2 post fc fl ft (d + 1) (nI i) aD aR aU aA aC aB aO aE aS aL := by
    intro d
    induction d with
    | zero =>
      intro i aE hi hE
      have ei : i = ps_n c := by omega
      subst ei
      exact br_t (by rw [hfc]; exact nI_le (by omega) (by omega)) ⟨151, k2 aE hE 150 0 aS (by omega) (fun j hj => absurd hj (Nat.not_lt_zero j))⟩
    | succ d ih =>
      intro i aE hi hE
      refine br_f (by rw [hfc]; exact nI_ge (by omega) (by omega)) ⟨vp_in_nI (by omega) (by omega), nm_e (nm_r (nI_1 i) (ih (i + 1) _ (by omega) ?_))⟩
      intro j hj
      rw [nI_clamp (by omega)]
      by_cases e : j = i
      · rw [e, pk_us]
      · rw [pk_un e]; exact hE j (by omega)
  exact ⟨_, k1 (ps_n c) 0 aE (by omega) (fun j hj => absurd hj (Nat.not_lt_zero j))⟩
theorem ps_rdy_E {c : ps_Cf} {E : Nat → Nat} {t M : Nat} (hR : ps_R c t ≤ M) : ∀ k, (∀ b, b < k → E b ≤ M) → ps_rdy c E t k ≤ M := by
  intro k
  induction k with
  | zero => intro _; exact hR
  | succ k ih =>
    intro hE
    rw [ps_rdy]
    split
    · exact hE k (by omega)
    · exact ih (fun b hb => hE b (by omega))
theorem px_ready {c : ps_Cf} (hg : ps_gd c) (fc fl ft : Int32) (aD aR aU aA aC aB aO aE aS aL : Nat → Int32) (hX : ps_Xc c fc aD aR aU aA aC aB) {t : Nat} (ht : t < ps_n c) {E : Nat → Nat} (hE : ∀ b, b < t → aE b = nI (E b) ∧ E b ≤ 75) (post : Int32 → Prop)
    (h1 : (∀ b, b < t → ps_B c b t = true → E b ≠ 0) → post (nI (ps_rdy c E t t))) (h0 : ¬ (∀ b, b < t → ps_B c b t = true → E b ≠ 0) → post (-1)) : wpX_readyTime post (fc, fl, ft, aD, aR, aU, aA, aC, aB, aO, aE, aS, aL) (nI t) := by
  have hn := hg.1
  have hr := (hg.2.1 t ht).2.2.1
  have key : ∀ d b, b + d = t → (∀ a, a < b → ps_B c a t = true → E a ≠ 0) → wX_readyTime_9 post (nI t) fc fl ft aD aR aU aA aC aB aO aE aS aL (d + 1) (nI (ps_rdy c E t b)) (nI b) := by
    intro d
    induction d with
    | zero =>
      intro b hb ha
      have eb : b = t := by omega
      subst eb
      exact br_t (nI_le (by omega) (by omega)) (h1 ha)
    | succ d ih =>
      intro b hb ha
      have hbE := hE b (by omega)
      have hB := hX.2.2.2.2 b t (by omega) (by omega)
      have hrb := ps_rdy_E (c := c) (E := E) (t := t) (M := 75) (by omega) b (fun a ha => (hE a (by omega)).2)
      refine br_f (nI_ge (by omega) (by omega)) ⟨pk_in (b * 6 + t) 36 (by omega) (ps_ix b 6 t), ?_⟩
      rw [ps_ix6, nI_clamp (n := b * 6 + t) (by omega), hB, nI_clamp (n := b) (by omega), hbE.1]
      by_cases z : ps_B c b t = true
      · rw [if_pos z]
        refine br_f (by decide) ⟨vp_in_nI (by omega) (by omega), ?_⟩
        refine pk_eq (E b) 0 (fun q => h0 (fun f => f b (by omega) z q)) (fun q => ⟨vp_in_nI (by omega) (by omega), ?_⟩) rfl rfl (by omega) (by omega)
        have ih' := ih (b + 1) (by omega) (fun a ha2 hBa => by
          by_cases e : a = b
          · subst e; exact q
          · exact ha a (by omega) hBa)
        refine pk_le (E b) (ps_rdy c E t b) (fun y => nm_r (nI_1 b) ?_) (fun y => ⟨vp_in_nI (by omega) (by omega), nm_e (nm_r (nI_1 b) ?_)⟩) rfl rfl (by omega) (by omega)
        · rw [ps_rdy, if_neg (by omega)] at ih'
          exact ih'
        · rw [ps_rdy, if_pos ⟨z, y⟩] at ih'
          exact ih'
      · rw [if_neg z]
        have ih' := ih (b + 1) (by omega) (fun a ha2 hBa => by
          by_cases e : a = b
          · subst e; exact absurd hBa z
          · exact ha a (by omega) hBa)
        rw [ps_rdy, if_neg (fun q => z q.1)] at ih'
        exact br_t rfl (nm_r (nI_1 b) ih')
  refine ⟨vp_in_nI (by omega) (by omega), nm_r (e' := nI (ps_R c t)) (by rw [nI_clamp (by omega)]; exact (hX.2.1 t ht).2.1) ⟨_, key t 0 (by omega) (fun a ha => absurd ha (Nat.not_lt_zero a))⟩⟩
end
section
theorem ps_use_le {c : ps_Cf} (hg : ps_gd c) (E : Nat → Nat) {m : Nat} (hm : m < 2) (τ : Nat) : ps_use c E m τ ≤ 24 := by
  have h1 : ps_use c E m τ ≤ ps_n c * 4 := by
    apply ps_sum_const
    intro t ht
    have := ps_A4 hg hm ht
    split <;> omega
  have := hg.1
  omega
theorem ps_fit_m {c : ps_Cf} (hl : ps_l c = true) {E : Nat → Nat} {t s : Nat} : ps_fit c E t s ↔ ∀ m, m < 2 → ∀ τ, s ≤ τ → τ < s + ps_D c t → ps_use c E m τ + ps_A c m t ≤ ps_C c m := by
  constructor
  · intro h m hm τ h1 h2
    exact ps_m2 (P := fun m => ps_use c E m τ + ps_A c m t ≤ ps_C c m) (h hl τ h1 h2).1 (h hl τ h1 h2).2 m hm
  · intro h _ τ h1 h2
    exact ⟨h 0 (by omega) τ h1 h2, h 1 (by omega) τ h1 h2⟩
theorem ps_use_pl {c : ps_Cf} {l : List Nat} {t : Nat} (ht : t < ps_n c) (e0 : ps_run c l t = 0) (m τ : Nat) : ps_use c (ps_run c (t :: l)) m τ = ps_use c (ps_run c l) m τ + if ps_est c (ps_run c l) t ≤ τ ∧ τ < ps_est c (ps_run c l) t + ps_D c t then ps_A c m t else 0 := by
  apply ps_sum_add ht
  · intro j _ hj
    rw [ps_run_n hj]
  · rw [ps_run_s, e0, if_neg (show ¬ (0 ≤ τ + ps_D c t ∧ τ < 0) from fun q => absurd q.2 (Nat.not_lt_zero τ)), Nat.zero_add]
    by_cases z : ps_est c (ps_run c l) t ≤ τ ∧ τ < ps_est c (ps_run c l) t + ps_D c t
    · rw [if_pos z, if_pos (by omega)]
    · rw [if_neg z, if_neg (by omega)]
theorem px_fits {c : ps_Cf} (hg : ps_gd c) (hf : ps_fe c) (hl : ps_l c = true) (fc fl ft : Int32) (aD aR aU aA aC aB aO aE aS aL : Nat → Int32) (hX : ps_Xc c fc aD aR aU aA aC aB) {t s : Nat} (ht : t < ps_n c) (hs : s + ps_D c t ≤ 75) {E : Nat → Nat}
    (hS : ∀ m τ, m < 2 → τ < 75 → aS (m * 75 + τ) = nI (ps_use c E m τ)) (post : Int32 → Prop) (h1 : ps_fit c E t s → post 1) (h0 : ¬ ps_fit c E t s → post 0) : wpX_fits post (fc, fl, ft, aD, aR, aU, aA, aC, aB, aO, aE, aS, aL) (nI t) (nI s) := by
  have hn := hg.1
  have hD := hg.2.1 t ht
  have k1 : ∀ (J2 : Int32 → Prop) m, m < 2 → ((∀ q, s ≤ q → q < s + ps_D c t → ps_use c E m q + ps_A c m t ≤ ps_C c m) → J2 (nI (m + 1))) →
      ∀ d τ, τ + d = s + ps_D c t → s ≤ τ → (∀ q, s ≤ q → q < τ → ps_use c E m q + ps_A c m t ≤ ps_C c m) → wX_fits_50 post J2 (nI t) (nI s) (nI m) (nI (ps_C c m - ps_A c m t)) (nI (m * 75 + s + ps_D c t)) fc fl ft aD aR aU aA aC aB aO aE aS aL (d + 1) (nI (m * 75 + τ)) := by
    intro J2 m hm hJ d
    induction d with
    | zero =>
      intro τ hτ _ hq
      exact br_t (nI_le (by omega) (by omega)) (nm_r (nI_1 m) (hJ (fun q q1 q2 => hq q q1 (by omega))))
    | succ d ih =>
      intro τ hτ hsτ hq
      have hu := ps_use_le hg E hm τ
      have hA := ps_A4 hg hm ht
      have hC := ps_C8 hg hm
      have hAC := ps_fem hf hm ht
      refine br_f (nI_ge (by omega) (by omega)) ⟨vp_in_nI (by omega) (by omega), ?_⟩
      refine pk_le (ps_use c E m τ) (ps_C c m - ps_A c m t) (fun z => nm_r (nI_1 (m * 75 + τ)) (ih (τ + 1) (by omega) (by omega) (fun q q1 q2 => ?_))) (fun z => h0 (fun f => ?_)) (by rw [nI_clamp (by omega)]; exact hS m τ hm (by omega)) rfl (by omega) (by omega)
      · by_cases e : q = τ
        · subst e; omega
        · exact hq q q1 (by omega)
      · have := (ps_fit_m hl).mp f m hm τ (by omega) (by omega)
        omega
  have k2 : ∀ d m, m + d = 2 → (∀ k, k < m → ∀ q, s ≤ q → q < s + ps_D c t → ps_use c E k q + ps_A c k t ≤ ps_C c k) → wX_fits_2 post (nI t) (nI s) fc fl ft aD aR aU aA aC aB aO aE aS aL (d + 1) (nI m) := by
    intro d
    induction d with
    | zero =>
      intro m hm hk
      exact br_t (nI_le (a := 2) (b := m) (by omega) (by omega)) (h1 ((ps_fit_m hl).mpr (fun k hk2 => hk k (by omega))))
    | succ d ih =>
      intro m hm hk
      have hAC := ps_fem hf (m := m) (t := t) (by omega) ht
      refine br_f (nI_ge (b := 2) (a := m) (by omega) (by omega)) ⟨vp_in_nI (by omega) (by omega), pk_in (m * 6 + t) 12 (by omega) (ps_ix6 m t), ?_⟩
      refine nm_r (e' := nI (ps_C c m - ps_A c m t)) ?_ (nm_r (ps_ix75 m s) ⟨vp_in_nI (by omega) (by omega), nm_r (e' := nI (m * 75 + s + ps_D c t)) ?_ ⟨ps_D c t + 1, ?_⟩⟩)
      · rw [ps_ix6, nI_clamp (by omega), nI_clamp (by omega), hX.2.2.2.1 m (by omega), hX.2.2.1 m t (by omega) ht, pk_sub hAC]
      · rw [nI_clamp (by omega), (hX.2.1 t ht).1, nI_add]
      · refine k1 _ m (by omega) (fun hq => ih (m + 1) (by omega) (fun k hk2 => ?_)) (ps_D c t) s (by omega) (by omega) (fun q q1 q2 => by omega)
        by_cases e : k = m
        · subst e; exact hq
        · exact hk k (by omega)
  exact ⟨3, k2 2 0 (by omega) (fun k hk => absurd hk (Nat.not_lt_zero k))⟩
theorem px_est {c : ps_Cf} (hg : ps_gd c) (hf : ps_fe c) (hl : ps_l c = true) (fc fl ft : Int32) (aD aR aU aA aC aB aO aE aS aL : Nat → Int32) (hX : ps_Xc c fc aD aR aU aA aC aB) {t s : Nat} (ht : t < ps_n c) {E : Nat → Nat} (hF : ps_First c E t s) (hs : s + ps_D c t ≤ 75)
    (hS : ∀ m τ, m < 2 → τ < 75 → aS (m * 75 + τ) = nI (ps_use c E m τ)) (post : Int32 → Prop) (h : post (nI s)) : wpX_earliestStart post (fc, fl, ft, aD, aR, aU, aA, aC, aB, aO, aE, aS, aL) (nI t) (nI (ps_rdy c E t t)) := by
  have hn := hg.1
  have hD := hg.2.1 t ht
  obtain ⟨f1, f2, f3⟩ := hF
  have key : ∀ d q, q + d = 75 - ps_D c t → ps_rdy c E t t ≤ q → q ≤ s → wX_earliestStart_13 post (nI t) (nI (75 - ps_D c t)) fc fl ft aD aR aU aA aC aB aO aE aS aL (d + 1) (nI q) := by
    intro d
    induction d with
    | zero =>
      intro q hq h1 h2
      refine br_t (nI_le (by omega) (by omega)) ?_
      rw [show 75 - ps_D c t = s from by omega]
      exact h
    | succ d ih =>
      intro q hq h1 h2
      refine br_f (nI_ge (by omega) (by omega)) ?_
      refine px_fits hg hf hl fc fl ft aD aR aU aA aC aB aO aE aS aL hX ht (by omega) hS _ (fun z => br_f (by decide) ?_) (fun z => br_t rfl (nm_r (nI_1 q) (ih (q + 1) (by omega) (by omega) ?_)))
      · have e : q = s := by
          by_cases e : q < s
          · exact absurd z (f3 q h1 e)
          · omega
        rw [e]
        exact h
      · by_cases e : q = s
        · subst e; exact absurd f2 z
        · omega
  refine ⟨vp_in_nI (by omega) (by omega), nm_r (e' := nI (75 - ps_D c t)) ?_ ⟨75 - ps_D c t - ps_rdy c E t t + 1, key _ _ (by omega) (by omega) f1⟩⟩
  rw [nI_clamp (by omega), (hX.2.1 t ht).1]
  exact pk_sub (a := 75) (by omega)
theorem px_take {c : ps_Cf} (hg : ps_gd c) (fc fl ft : Int32) (aD aR aU aA aC aB aO aE aS aL : Nat → Int32) (hX : ps_Xc c fc aD aR aU aA aC aB) {t s : Nat} (ht : t < ps_n c) (hs : s + ps_D c t ≤ 75) (V V' : Nat → Nat → Nat)
    (hV : ∀ m τ, m < 2 → V' m τ = V m τ + if s ≤ τ ∧ τ < s + ps_D c t then ps_A c m t else 0)
    (hS : ∀ m τ, m < 2 → τ < 75 → aS (m * 75 + τ) = nI (V m τ)) (post : SX → Prop) (h : ∀ aS', (∀ m τ, m < 2 → τ < 75 → aS' (m * 75 + τ) = nI (V' m τ)) → post (fc, fl, ft, aD, aR, aU, aA, aC, aB, aO, aE, aS', aL)) : wpX_takeMeans post (fc, fl, ft, aD, aR, aU, aA, aC, aB, aO, aE, aS, aL) (nI t) (nI s) := by
  have hn := hg.1
  have hD := hg.2.1 t ht
  have k1 : ∀ (J2 : Int32 → (Nat → Int32) → (Nat → Int32) → (Nat → Int32) → (Nat → Int32) → (Nat → Int32) → (Nat → Int32) → (Nat → Int32) → (Nat → Int32) → (Nat → Int32) → (Nat → Int32) → Prop) m, m < 2 →
      (∀ aS, (∀ m' τ', m' < 2 → τ' < 75 → aS (m' * 75 + τ') = nI (if m' < m + 1 then V' m' τ' else V m' τ')) → J2 (nI (m + 1)) aD aR aU aA aC aB aO aE aS aL) →
      ∀ d τ aS, τ + d = s + ps_D c t → s ≤ τ → (∀ m' τ', m' < 2 → τ' < 75 → aS (m' * 75 + τ') = nI (if m' < m ∨ (m' = m ∧ τ' < τ) then V' m' τ' else V m' τ')) →
      wX_takeMeans_30 post J2 (nI t) (nI s) (nI m) (nI (m * 75 + s + ps_D c t)) fc fl ft (d + 1) (nI (m * 75 + τ)) aD aR aU aA aC aB aO aE aS aL := by
    intro J2 m hm hJ d
    induction d with
    | zero =>
      intro τ aS hτ hsτ hq
      refine br_t (nI_le (by omega) (by omega)) (nm_r (nI_1 m) (hJ aS (fun m' τ' h1 h2 => ?_)))
      rw [hq m' τ' h1 h2]
      by_cases z : m' < m + 1
      · rw [if_pos z]
        by_cases y : m' < m ∨ (m' = m ∧ τ' < τ)
        · rw [if_pos y]
        · rw [if_neg y, hV m' τ' h1, if_neg (by omega), Nat.add_zero]
      · rw [if_neg z, if_neg (by omega)]
    | succ d ih =>
      intro τ aS hτ hsτ hq
      refine br_f (nI_ge (by omega) (by omega)) ⟨vp_in_nI (by omega) (by omega), pk_in (m * 6 + t) 12 (by omega) (ps_ix6 m t), vp_in_nI (by omega) (by omega), nm_e (nm_r (nI_1 (m * 75 + τ)) (ih (τ + 1) _ (by omega) (by omega) (fun m' τ' h1 h2 => ?_)))⟩
      rw [ps_ix6, nI_clamp (n := m * 75 + τ) (by omega), nI_clamp (n := m * 6 + t) (by omega), hX.2.2.1 m t hm ht]
      by_cases e : m' * 75 + τ' = m * 75 + τ
      · have e1 : m' = m := by omega
        have e2 : τ' = τ := by omega
        subst e1 e2
        rw [pk_us, hq m' τ' h1 h2, if_neg (by omega), if_pos (by omega), nI_add, hV m' τ' h1, if_pos (by omega)]
      · rw [pk_un e, hq m' τ' h1 h2]
        by_cases y : m' < m ∨ (m' = m ∧ τ' < τ)
        · rw [if_pos y, if_pos (by omega)]
        · rw [if_neg y, if_neg (by omega)]
  have k2 : ∀ d m aS, m + d = 2 → (∀ m' τ', m' < 2 → τ' < 75 → aS (m' * 75 + τ') = nI (if m' < m then V' m' τ' else V m' τ')) → wX_takeMeans_2 post (nI t) (nI s) fc fl ft (d + 1) (nI m) aD aR aU aA aC aB aO aE aS aL := by
    intro d
    induction d with
    | zero =>
      intro m aS hm hq
      refine br_t (nI_le (a := 2) (b := m) (by omega) (by omega)) (h aS (fun m' τ' h1 h2 => ?_))
      rw [hq m' τ' h1 h2, if_pos (by omega)]
    | succ d ih =>
      intro m aS hm hq
      refine br_f (nI_ge (b := 2) (a := m) (by omega) (by omega)) (nm_r (ps_ix75 m s) ⟨vp_in_nI (by omega) (by omega), nm_r (e' := nI (m * 75 + s + ps_D c t)) ?_ ⟨ps_D c t + 1, ?_⟩⟩)
      · rw [nI_clamp (by omega), (hX.2.1 t ht).1, nI_add]
      · refine k1 _ m (by omega) (fun aS' hq' => ih (m + 1) aS' (by omega) hq') (ps_D c t) s aS (by omega) (by omega) (fun m' τ' h1 h2 => ?_)
        rw [hq m' τ' h1 h2]
        by_cases z : m' < m
        · rw [if_pos z, if_pos (by omega)]
        · rw [if_neg z]
          by_cases y : m' < m ∨ (m' = m ∧ τ' < s)
          · rw [if_pos y, hV m' τ' h1, if_neg (by omega), Nat.add_zero]
          · rw [if_neg y]
  exact ⟨3, k2 2 0 aS (by omega) (fun m' τ' h1 h2 => by rw [hS m' τ' h1 h2, if_neg (Nat.not_lt_zero m')])⟩
theorem ps_nm1 {x : Nat} (h : x < 2147483648) : ¬ nI x = -1 := by
  intro q
  have := nI_pos (n := x) (by omega)
  rw [q] at this
  exact this (by decide)
theorem px_place {c : ps_Cf} (hg : ps_gd c) (hf : ps_fe c) (hl : ps_l c = true) (fc fl ft : Int32) (aD aR aU aA aC aB aO aE aS aL : Nat → Int32) (hX : ps_Xc c fc aD aR aU aA aC aB) {q : Nat → Nat} (hO : ∀ j, j < ps_n c → aO j = nI (q j)) (hq1 : ∀ j, j < ps_n c → q j < ps_n c) (hq2 : ∀ i j, i < ps_n c → j < ps_n c → q i = q j → i = j)
    (post : Int32 → SX → Prop) (h1 : ps_ok c (ps_lst q (ps_n c)) → ∀ aE' aS', (∀ t, t < ps_n c → aE' t = nI (ps_run c (ps_lst q (ps_n c)) t)) → post 1 (fc, fl, ft, aD, aR, aU, aA, aC, aB, aO, aE', aS', aL))
    (h0 : ¬ ps_ok c (ps_lst q (ps_n c)) → ∀ aE' aS', post 0 (fc, fl, ft, aD, aR, aU, aA, aC, aB, aO, aE', aS', aL)) : wpX_placeInOrder post (fc, fl, ft, aD, aR, aU, aA, aC, aB, aO, aE, aS, aL) := by
  have hn := hg.1
  have key : ∀ d i aE aS, i + d = ps_n c → ps_ok c (ps_lst q i) → (∀ t, t < ps_n c → aE t = nI (ps_run c (ps_lst q i) t)) → (∀ m τ, m < 2 → τ < 75 → aS (m * 75 + τ) = nI (ps_use c (ps_run c (ps_lst q i)) m τ)) → wX_placeInOrder_6 post (d + 1) (nI i) fc fl ft aD aR aU aA aC aB aO aE aS aL := by
    intro d
    induction d with
    | zero =>
      intro i aE aS hi hok hE hS
      have ei : i = ps_n c := by omega
      subst ei
      exact br_t (by rw [hX.1]; exact nI_le (by omega) (by omega)) (h1 hok aE aS hE)
    | succ d ih =>
      intro i aE aS hi hok hE hS
      have ht := hq1 i (by omega)
      have hD := hg.2.1 (q i) ht
      have hni : q i ∉ ps_lst q i := by
        intro z
        obtain ⟨j, hj, ej⟩ := (ps_lst_mem q (q i) i).mp z
        have := hq2 j i (by omega) (by omega) ej
        omega
      obtain ⟨i1, i2, i3⟩ := ps_inv hg hf _ hok
      have e0 : ps_run c (ps_lst q i) (q i) = 0 := by
        by_cases z : ps_run c (ps_lst q i) (q i) = 0
        · exact z
        · exact absurd ((i1 _).mpr z) hni
      have hr75 : ∀ b, ps_run c (ps_lst q i) b ≤ 75 := ps_run_le hg hf hok
      refine br_f (by rw [hX.1]; exact nI_ge (by omega) (by omega)) ⟨vp_in_nI (by omega) (by omega), nm_r (e' := nI (q i)) (by rw [nI_clamp (by omega)]; exact hO i (by omega)) ?_⟩
      refine px_ready hg fc fl ft aD aR aU aA aC aB aO aE aS aL hX ht (E := ps_run c (ps_lst q i)) (fun b hb => ⟨hE b (by omega), hr75 b⟩) _ (fun hb => ?_) (fun hb => br_t rfl (h0 (fun z => hb (fun b hb1 hb2 => ?_)) aE aS))
      · have hok' : ps_ok c (q i :: ps_lst q i) := ⟨hok, ht, hni, fun b hb1 hb2 => (i1 b).mpr (hb b hb1 hb2)⟩
        obtain ⟨hF, hs⟩ := ps_first hg hf hok'
        have hrd := ps_rdy_le (c := c) (E := ps_run c (ps_lst q i)) (t := q i) (M := 75) (by omega) hr75 (q i)
        refine br_f (ps_nm1 (by omega)) (px_est hg hf hl fc fl ft aD aR aU aA aC aB aO aE aS aL hX ht hF hs hS _ ?_)
        refine ⟨vp_in_nI (by omega) (by omega), vp_in_nI (by omega) (by omega), nm_e ?_⟩
        refine px_take hg fc fl ft aD aR aU aA aC aB aO _ aS aL hX ht hs (ps_use c (ps_run c (ps_lst q i))) (ps_use c (ps_run c (q i :: ps_lst q i))) (fun m τ _ => ps_use_pl ht e0 m τ) hS _ (fun aS' hS' => ?_)
        refine nm_r (nI_1 i) (ih (i + 1) _ aS' (by omega) hok' (fun t htn => ?_) hS')
        rw [nI_clamp (by omega), (hX.2.1 _ ht).1, nI_add]
        show _ = nI (ps_run c (q i :: ps_lst q i) t)
        by_cases e : t = q i
        · rw [e, pk_us, ps_run_s]
        · rw [pk_un e, ps_run_n e]
          exact hE t htn
      · have z2 : ps_ok c (ps_lst q (i + 1)) := ps_lst_ok (ps_n c - (i + 1)) (i + 1) (by rw [show i + 1 + (ps_n c - (i + 1)) = ps_n c from by omega]; exact z)
        exact (i1 b).mp (z2.2.2.2 b hb1 hb2)
  refine px_clear hg fc fl ft aD aR aU aA aC aB aO aE aS aL hX.1 _ (fun aE' aS' hE hS => ⟨ps_n c + 1, key (ps_n c) 0 aE' aS' (by omega) trivial (fun t ht => hE t ht) (fun m τ hm hτ => ?_)⟩)
  rw [hS _ (by omega)]
  have : ps_use c (ps_run c (ps_lst q 0)) m τ = 0 := ps_sum_zero (fun b _ => if_neg (fun z => absurd z.2 (Nat.not_lt_zero τ)))
  rw [this]
  rfl
end
section
def ps_wl : Nat → Nat → Int := fun _ e => (e : Int)
def ps_wt (c : ps_Cf) : Nat → Nat → Int := fun t e => (e : Int) - (ps_U c t : Int)
def ps_we (a : Nat) : Nat → Nat → Int := fun t e => if t = a then (e : Int) else -100000
theorem ps_wb_l (c : ps_Cf) : ps_wb c ps_wl := by
  intro t e _
  unfold ps_wl
  omega
theorem ps_wb_t {c : ps_Cf} (hg : ps_gd c) : ps_wb c (ps_wt c) := by
  intro t e ht
  have := hg.2.1 t ht
  unfold ps_wt
  omega
theorem ps_wb_e (c : ps_Cf) (a : Nat) : ps_wb c (ps_we a) := by
  intro t e _
  unfold ps_we
  split <;> omega
theorem ps_we_mx {c : ps_Cf} {a : Nat} (ha : a < ps_n c) (E : Nat → Nat) : ps_mx c (ps_we a) E (E a : Int) := by
  refine ⟨fun t _ => ?_, a, ha, if_pos rfl⟩
  unfold ps_we
  split
  · rename_i e; rw [e]; exact Int.le_refl _
  · omega
theorem px_len {c : ps_Cf} (hg : ps_gd c) (fc fl ft : Int32) (aD aR aU aA aC aB aO aE aS aL : Nat → Int32) (hfc : fc = nI (ps_n c)) (h0 : 0 < ps_n c) {E : Nat → Nat} (hE : ∀ t, t < ps_n c → aE t = nI (E t) ∧ E t ≤ 75) (post : Int32 → Prop) (h : ∀ z, ps_mx c ps_wl E z → 0 ≤ z → z ≤ 75 → post (ps_i z)) : wpX_lengthOfPlan post (fc, fl, ft, aD, aR, aU, aA, aC, aB, aO, aE, aS, aL) := by
  have hn := hg.1
  have key : ∀ d t z x, x = ps_i z → t + d = ps_n c → 0 ≤ z → z ≤ 75 → (∀ k, k < t → (E k : Int) ≤ z) → (z = 0 ∨ ∃ k, k < t ∧ (E k : Int) = z) → wX_lengthOfPlan_4 post fc fl ft aD aR aU aA aC aB aO aE aS aL (d + 1) x (nI t) := by
    intro d
    induction d with
    | zero =>
      intro t z x hx ht z0 z1 hk hz
      subst hx
      refine br_t (by rw [hfc]; exact nI_le (by omega) (by omega)) (h z ⟨fun k hk2 => hk k (by omega), ?_⟩ z0 z1)
      rcases hz with e | ⟨k, hk2, e⟩
      · have := hk 0 (by omega)
        exact ⟨0, h0, by unfold ps_wl; omega⟩
      · exact ⟨k, by omega, e⟩
    | succ d ih =>
      intro t z x hx ht z0 z1 hk hz
      have hEt := hE t (by omega)
      refine br_f (by rw [hfc]; exact nI_ge (by omega) (by omega)) ⟨vp_in_nI (by omega) (by omega), ?_⟩
      have ex : aE (nI t).toNatClampNeg = ps_i (E t : Int) := by rw [nI_clamp (by omega), hEt.1, ps_i_n (by omega)]
      refine ps_cle (E t : Int) z (fun y => nm_r (nI_1 t) (ih (t + 1) z x hx (by omega) z0 z1 (fun k hk2 => ?_) ?_)) (fun y => ⟨vp_in_nI (by omega) (by omega), nm_r ex (nm_r (nI_1 t) (ih (t + 1) (E t : Int) _ rfl (by omega) (by omega) (by omega) (fun k hk2 => ?_) (Or.inr ⟨t, by omega, rfl⟩)))⟩) ex hx (by omega) (by omega) (by omega) (by omega)
      · by_cases e : k = t
        · subst e; exact y
        · exact hk k (by omega)
      · rcases hz with e | ⟨k, hk2, e⟩
        · exact Or.inl e
        · exact Or.inr ⟨k, by omega, e⟩
      · by_cases e : k = t
        · subst e; exact Int.le_refl _
        · have := hk k (by omega)
          omega
  exact ⟨_, key (ps_n c) 0 0 0 (by decide) (by omega) (by omega) (by omega) (fun k hk => absurd hk (Nat.not_lt_zero k)) (Or.inl rfl)⟩
theorem px_late {c : ps_Cf} (hg : ps_gd c) (fc fl ft : Int32) (aD aR aU aA aC aB aO aE aS aL : Nat → Int32) (hX : ps_Xc c fc aD aR aU aA aC aB) (h0 : 0 < ps_n c) {E : Nat → Nat} (hE : ∀ t, t < ps_n c → aE t = nI (E t) ∧ E t ≤ 75) (post : Int32 → Prop) (h : ∀ z, ps_mx c (ps_wt c) E z → -99 ≤ z → z ≤ 75 → post (ps_i z)) : wpX_latenessOfPlan post (fc, fl, ft, aD, aR, aU, aA, aC, aB, aO, aE, aS, aL) := by
  have hn := hg.1
  have hfc := hX.1
  have key : ∀ d t z x, x = ps_i z → t + d = ps_n c → -1000000 ≤ z → z ≤ 75 → (∀ k, k < t → (E k : Int) - ps_U c k ≤ z) → (z = -1000000 ∨ ∃ k, k < t ∧ (E k : Int) - ps_U c k = z) → wX_latenessOfPlan_5 post fc fl ft aD aR aU aA aC aB aO aE aS aL (d + 1) x (nI t) := by
    intro d
    induction d with
    | zero =>
      intro t z x hx ht z0 z1 hk hz
      subst hx
      have hk0 := hk 0 (by omega)
      have hU0 := (hg.2.1 0 h0)
      refine br_t (by rw [hfc]; exact nI_le (by omega) (by omega)) (h z ⟨fun k hk2 => hk k (by omega), ?_⟩ (by omega) z1)
      rcases hz with e | ⟨k, hk2, e⟩
      · omega
      · exact ⟨k, by omega, e⟩
    | succ d ih =>
      intro t z x hx ht z0 z1 hk hz
      have hEt := hE t (by omega)
      have hUt := (hg.2.1 t (by omega))
      refine br_f (by rw [hfc]; exact nI_ge (by omega) (by omega)) ⟨vp_in_nI (by omega) (by omega), vp_in_nI (by omega) (by omega), ?_⟩
      have ex : aE (nI t).toNatClampNeg - aU (nI t).toNatClampNeg = ps_i ((E t : Int) - ps_U c t) := by rw [nI_clamp (by omega), hEt.1, (hX.2.1 t (by omega)).2.2, ps_i_sub (by omega) (by omega)]
      refine nm_r ex (ps_cle ((E t : Int) - ps_U c t) z (fun y => nm_r (nI_1 t) (ih (t + 1) z x hx (by omega) z0 z1 (fun k hk2 => ?_) ?_)) (fun y => nm_r (nI_1 t) (ih (t + 1) ((E t : Int) - ps_U c t) _ rfl (by omega) (by omega) (by omega) (fun k hk2 => ?_) (Or.inr ⟨t, by omega, rfl⟩))) rfl hx (by omega) (by omega) (by omega) (by omega))
      · by_cases e : k = t
        · subst e; exact y
        · exact hk k (by omega)
      · rcases hz with e | ⟨k, hk2, e⟩
        · exact Or.inl e
        · exact Or.inr ⟨k, by omega, e⟩
      · by_cases e : k = t
        · subst e; exact Int.le_refl _
        · have := hk k (by omega)
          omega
  exact ⟨_, key (ps_n c) 0 (-1000000) (-1000000) (by decide) (by omega) (by omega) (by omega) (fun k hk => absurd hk (Nat.not_lt_zero k)) (Or.inl rfl)⟩
theorem px_note38 {c : ps_Cf} (hg : ps_gd c) (fc fl ft : Int32) (aD aR aU aA aC aB aO aE aS aL : Nat → Int32) (hfc : fc = nI (ps_n c)) {E : Nat → Nat} (hE : ∀ t, t < ps_n c → aE t = nI (E t) ∧ E t ≤ 75) {ze : Nat → Int} (hz : ∀ t, t < ps_n c → -1000 ≤ ze t ∧ ze t ≤ 1000000) (hL : ∀ t, t < ps_n c → aL t = ps_i (ze t)) (post : SX → Prop)
    (h : ∀ aL', (∀ t, t < ps_n c → aL' t = ps_i (if ze t ≤ (E t : Int) then ze t else (E t : Int))) → post (fc, fl, ft, aD, aR, aU, aA, aC, aB, aO, aE, aS, aL')) : ∃ n38, wX_noteLeast_38 post fc fl ft n38 0 aD aR aU aA aC aB aO aE aS aL := by
  have hn := hg.1
  have key : ∀ d t aL, t + d = ps_n c → (∀ k, k < ps_n c → aL k = ps_i (if k < t then (if ze k ≤ (E k : Int) then ze k else (E k : Int)) else ze k)) → wX_noteLeast_38 post fc fl ft (d + 1) (nI t) aD aR aU aA aC aB aO aE aS aL := by
    intro d
    induction d with
    | zero =>
      intro t aL ht hk
      refine br_t (by rw [hfc]; exact nI_le (by omega) (by omega)) (h aL (fun k hk2 => ?_))
      rw [hk k hk2, if_pos (by omega)]
    | succ d ih =>
      intro t aL ht hk
      have hEt := hE t (by omega)
      have hzt := hz t (by omega)
      have e1 : aL (nI t).toNatClampNeg = ps_i (ze t) := by rw [nI_clamp (by omega), hk t (by omega), if_neg (by omega)]
      have e2 : aE (nI t).toNatClampNeg = ps_i (E t : Int) := by rw [nI_clamp (by omega), hEt.1, ps_i_n (by omega)]
      refine br_f (by rw [hfc]; exact nI_ge (by omega) (by omega)) ⟨vp_in_nI (by omega) (by omega), vp_in_nI (by omega) (by omega), ?_⟩
      refine ps_cle (ze t) (E t : Int) (fun y => nm_r (nI_1 t) (ih (t + 1) aL (by omega) (fun k hk2 => ?_))) (fun y => ⟨vp_in_nI (by omega) (by omega), vp_in_nI (by omega) (by omega), nm_e (nm_r (nI_1 t) (ih (t + 1) _ (by omega) (fun k hk2 => ?_)))⟩) e1 e2 (by omega) (by omega) (by omega) (by omega)
      · rw [hk k hk2]
        by_cases e : k = t
        · subst e
          rw [if_neg (by omega), if_pos (by omega), if_pos y]
        · by_cases f : k < t
          · rw [if_pos f, if_pos (show k < t + 1 from by omega)]
          · rw [if_neg f, if_neg (show ¬ k < t + 1 from by omega)]
      · rw [e2, nI_clamp (by omega)]
        by_cases e : k = t
        · subst e
          rw [pk_us, if_pos (by omega), if_neg (by omega)]
        · rw [pk_un e, hk k hk2]
          by_cases f : k < t
          · rw [if_pos f, if_pos (show k < t + 1 from by omega)]
          · rw [if_neg f, if_neg (show ¬ k < t + 1 from by omega)]
  exact ⟨_, key (ps_n c) 0 aL (by omega) (fun k hk => by rw [hL k hk, if_neg (Nat.not_lt_zero k)])⟩
theorem px_note18 {c : ps_Cf} (hg : ps_gd c) (fc fl ft : Int32) (aD aR aU aA aC aB aO aE aS aL : Nat → Int32) (hX : ps_Xc c fc aD aR aU aA aC aB) (h0 : 0 < ps_n c) {E : Nat → Nat} (hE : ∀ t, t < ps_n c → aE t = nI (E t) ∧ E t ≤ 75) {zt : Int} (ht : ft = ps_i zt) (zt1 : -1000 ≤ zt ∧ zt ≤ 1000000) {ze : Nat → Int} (hz : ∀ t, t < ps_n c → -1000 ≤ ze t ∧ ze t ≤ 1000000) (hL : ∀ t, t < ps_n c → aL t = ps_i (ze t)) (post : SX → Prop)
    (h : ∀ T, ps_mx c (ps_wt c) E T → -99 ≤ T → T ≤ 75 → ∀ aL', (∀ t, t < ps_n c → aL' t = ps_i (if ze t ≤ (E t : Int) then ze t else (E t : Int))) → post (fc, fl, ps_i (if zt ≤ T then zt else T), aD, aR, aU, aA, aC, aB, aO, aE, aS, aL')) : wX_noteLeast_18 post fc fl ft aD aR aU aA aC aB aO aE aS aL := by
  refine px_late hg fc fl ft aD aR aU aA aC aB aO aE aS aL hX h0 hE _ (fun T hT t1 t2 => ?_)
  refine ps_cle zt T (fun y => ?_) (fun y => ?_) ht rfl (by omega) (by omega) (by omega) (by omega)
  · refine px_note38 hg fc fl ft aD aR aU aA aC aB aO aE aS aL hX.1 hE hz hL post (fun aL' hL' => ?_)
    have := h T hT t1 t2 aL' hL'
    rw [if_pos y, ← ht] at this
    exact this
  · refine px_note38 hg fc fl (ps_i T) aD aR aU aA aC aB aO aE aS aL hX.1 hE hz hL post (fun aL' hL' => ?_)
    have := h T hT t1 t2 aL' hL'
    rw [if_neg (by omega)] at this
    exact this
theorem px_note {c : ps_Cf} (hg : ps_gd c) (fc fl ft : Int32) (aD aR aU aA aC aB aO aE aS aL : Nat → Int32) (hX : ps_Xc c fc aD aR aU aA aC aB) (h0 : 0 < ps_n c) {E : Nat → Nat} (hE : ∀ t, t < ps_n c → aE t = nI (E t) ∧ E t ≤ 75) {zl zt : Int} (hl : fl = ps_i zl) (zl1 : -1000 ≤ zl ∧ zl ≤ 1000000) (ht : ft = ps_i zt) (zt1 : -1000 ≤ zt ∧ zt ≤ 1000000) {ze : Nat → Int} (hz : ∀ t, t < ps_n c → -1000 ≤ ze t ∧ ze t ≤ 1000000) (hL : ∀ t, t < ps_n c → aL t = ps_i (ze t)) (post : SX → Prop)
    (h : ∀ L T, ps_mx c ps_wl E L → -99 ≤ L → L ≤ 75 → ps_mx c (ps_wt c) E T → -99 ≤ T → T ≤ 75 → ∀ aL', (∀ t, t < ps_n c → aL' t = ps_i (if ze t ≤ (E t : Int) then ze t else (E t : Int))) → post (fc, ps_i (if zl ≤ L then zl else L), ps_i (if zt ≤ T then zt else T), aD, aR, aU, aA, aC, aB, aO, aE, aS, aL')) : wpX_noteLeast post (fc, fl, ft, aD, aR, aU, aA, aC, aB, aO, aE, aS, aL) := by
  refine px_len hg fc fl ft aD aR aU aA aC aB aO aE aS aL hX.1 h0 hE _ (fun L hLm l1 l2 => ?_)
  refine ps_cle zl L (fun y => ?_) (fun y => ?_) hl rfl (by omega) (by omega) (by omega) (by omega)
  · refine px_note18 hg fc fl ft aD aR aU aA aC aB aO aE aS aL hX h0 hE ht zt1 hz hL post (fun T hT t1 t2 aL' hL' => ?_)
    have := h L T hLm (by omega) l2 hT t1 t2 aL' hL'
    rw [if_pos y, ← hl] at this
    exact this
  · refine px_note18 hg fc (ps_i L) ft aD aR aU aA aC aB aO aE aS aL hX h0 hE ht zt1 hz hL post (fun T hT t1 t2 aL' hL' => ?_)
    have := h L T hLm (by omega) l2 hT t1 t2 aL' hL'
    rw [if_neg (show ¬ zl ≤ L from by omega)] at this
    exact this
/-! the least over the numbers so far -/
def ps_li (c : ps_Cf) (u : Nat) : List Nat := ps_lst (ps_ro u (ps_n c)) (ps_n c)
def ps_MI (c : ps_Cf) (w : Nat → Nat → Int) (i : Nat) (z : Int) : Prop := (-1000 ≤ z ∧ z ≤ 1000000) ∧ (z = 1000000 ∨ ∃ u, ps_ok c (ps_li c u) ∧ ps_mx c w (ps_run c (ps_li c u)) z) ∧ ∀ u, u < i → ps_ok c (ps_li c u) → ∀ q, ps_mx c w (ps_run c (ps_li c u)) q → z ≤ q
theorem ps_MI0 (c : ps_Cf) (w : Nat → Nat → Int) : ps_MI c w 0 1000000 := ⟨by omega, Or.inl rfl, fun u hu => absurd hu (Nat.not_lt_zero u)⟩
theorem ps_MIn {c : ps_Cf} {w : Nat → Nat → Int} {i : Nat} {z : Int} (h : ps_MI c w i z) (ho : ¬ ps_ok c (ps_li c i)) : ps_MI c w (i + 1) z := by
  refine ⟨h.1, h.2.1, fun u hu hk q hq => ?_⟩
  by_cases e : u = i
  · subst e; exact absurd hk ho
  · exact h.2.2 u (by omega) hk q hq
theorem ps_MIs {c : ps_Cf} {w : Nat → Nat → Int} {i : Nat} {z L : Int} (h : ps_MI c w i z) (ho : ps_ok c (ps_li c i)) (hL : ps_mx c w (ps_run c (ps_li c i)) L) (l1 : -99 ≤ L) (l2 : L ≤ 75) : ps_MI c w (i + 1) (if z ≤ L then z else L) := by
  obtain ⟨h1, h2, h3⟩ := h
  by_cases y : z ≤ L
  · rw [if_pos y]
    refine ⟨h1, h2, fun u hu hk q hq => ?_⟩
    by_cases e : u = i
    · subst e
      rw [ps_mx_u hq hL]
      exact y
    · exact h3 u (by omega) hk q hq
  · rw [if_neg y]
    refine ⟨by omega, Or.inr ⟨i, ho, hL⟩, fun u hu hk q hq => ?_⟩
    by_cases e : u = i
    · subst e
      rw [ps_mx_u hq hL]
      exact Int.le_refl _
    · have := h3 u (by omega) hk q hq
      omega
theorem ps_MIe {c : ps_Cf} {w : Nat → Nat → Int} (hg : ps_gd c) (hw : ps_wb c w) (hf : ps_fe c) {z : Int} (h : ps_MI c w (ps_fac (ps_n c)) z) : z = ps_best c w := by
  have hall : ∀ l q, ps_full c l → ps_mx c w (ps_run c l) q → z ≤ q := by
    intro l q hl hq
    obtain ⟨u, hu, e⟩ := ps_full_ro hl
    have e2 : l = ps_li c u := e
    subst e2
    exact h.2.2 u hu hl.1 q hq
  refine (ps_best_eq ⟨?_, hall⟩).symm
  rcases h.2.1 with e | ⟨u, hu, hm⟩
  · have h1 := hall _ _ (ps_idl_full c) (ps_wst_mx hw hf (ps_idl_full c))
    have h2 := ps_wst_le hg hw hf (ps_idl_full c)
    omega
  · exact ⟨ps_li c u, ⟨hu, ps_lst_len _ _⟩, hm⟩
theorem ps_fac_le : ∀ n, n ≤ 6 → ps_fac n ≤ 720 := by
  intro n h
  have : ∀ n, n < 7 → ps_fac n ≤ 720 := by decide
  exact this n (by omega)
theorem px_try46 {c : ps_Cf} (hg : ps_gd c) (hf : ps_fe c) (hl : ps_l c = true) (post : SX → Prop) (fc : Int32) (aD aR aU aA aC aB : Nat → Int32) (hX : ps_Xc c fc aD aR aU aA aC aB)
    (h : ∀ aO aE aS aL, (∀ t, t < ps_n c → aL t = ps_i (ps_best c (ps_we t))) → post (fc, ps_i (ps_best c ps_wl), ps_i (ps_best c (ps_wt c)), aD, aR, aU, aA, aC, aB, aO, aE, aS, aL)) :
    ∀ (d i : Nat) (zl zt : Int) (ze : Nat → Int) (fl ft : Int32) (aO aE aS aL : Nat → Int32), i + d = ps_fac (ps_n c) → fl = ps_i zl → ft = ps_i zt → (∀ t, t < ps_n c → aL t = ps_i (ze t)) → ps_MI c ps_wl i zl → ps_MI c (ps_wt c) i zt → (∀ t, t < ps_n c → ps_MI c (ps_we t) i (ze t)) → wX_tryAllOrders_46 post (nI (ps_fac (ps_n c))) (d + 1) (nI i) fc fl ft aD aR aU aA aC aB aO aE aS aL := by
  have hn := hg.1
  have hfac := ps_fac_le _ hn
  intro d
  induction d with
  | zero =>
    intro i zl zt ze fl ft aO aE aS aL hi hfl hft haL ml mt me
    have ei : i = ps_fac (ps_n c) := by omega
    subst ei
    refine br_t (nI_le (by omega) (by omega)) ?_
    rw [hfl, hft, ps_MIe hg (ps_wb_l c) hf ml, ps_MIe hg (ps_wb_t hg) hf mt]
    exact h aO aE aS aL (fun t ht => by rw [haL t ht, ps_MIe hg (ps_wb_e c t) hf (me t ht)])
  | succ d ih =>
    intro i zl zt ze fl ft aO aE aS aL hi hfl hft haL ml mt me
    refine br_f (nI_ge (by omega) (by omega)) ?_
    refine px_ro hg fc fl ft aD aR aU aA aC aB aO aE aS aL hX.1 (by omega) _ (fun aO' hO' => ?_)
    refine px_place hg hf hl fc fl ft aD aR aU aA aC aB aO' aE aS aL hX hO' (ps_ro_lt i _) (ps_ro_inj i _) _ (fun ho aE' aS' hE' => ?_) (fun ho aE' aS' => ?_)
    · refine br_f (by decide) ?_
      refine px_note hg fc fl ft aD aR aU aA aC aB aO' aE' aS' aL hX hf.1 (E := ps_run c (ps_li c i)) (fun t ht => ⟨hE' t ht, ps_run_le hg hf ho t⟩) hfl ml.1 hft mt.1 (fun t ht => (me t ht).1) haL _ (fun L T hL l1 l2 hT t1 t2 aL' hL' => ?_)
      refine nm_r (nI_1 i) (ih (i + 1) _ _ (fun t => if ze t ≤ (ps_run c (ps_li c i) t : Int) then ze t else (ps_run c (ps_li c i) t : Int)) _ _ aO' aE' aS' aL' (by omega) rfl rfl hL' (ps_MIs ml ho hL l1 l2) (ps_MIs mt ho hT t1 t2) (fun t ht => ps_MIs (me t ht) ho (ps_we_mx ht _) (by omega) ?_))
      have : ps_run c (ps_li c i) t ≤ 75 := ps_run_le hg hf ho t
      exact (by omega : (ps_run c (ps_li c i) t : Int) ≤ 75)
    · refine br_t rfl (nm_r (nI_1 i) (ih (i + 1) zl zt ze fl ft aO' aE' aS' aL (by omega) hfl hft haL (ps_MIn ml ho) (ps_MIn mt ho) (fun t ht => ps_MIn (me t ht) ho)))
theorem px_try {c : ps_Cf} (hg : ps_gd c) (hf : ps_fe c) (hl : ps_l c = true) (fc fl ft : Int32) (aD aR aU aA aC aB aO aE aS aL : Nat → Int32) (hX : ps_Xc c fc aD aR aU aA aC aB) (post : SX → Prop)
    (h : ∀ aO aE aS aL, (∀ t, t < ps_n c → aL t = ps_i (ps_best c (ps_we t))) → post (fc, ps_i (ps_best c ps_wl), ps_i (ps_best c (ps_wt c)), aD, aR, aU, aA, aC, aB, aO, aE, aS, aL)) : wpX_tryAllOrders post (fc, fl, ft, aD, aR, aU, aA, aC, aB, aO, aE, aS, aL) := by
  have hn := hg.1
  have hfac := ps_fac_le _ hn
  have key : ∀ d k aL, k + d = ps_n c → (∀ t, t < k → aL t = ps_i 1000000) → wX_tryAllOrders_16 post fc 1000000 1000000 (d + 1) (nI (ps_fac k)) (nI k) aD aR aU aA aC aB aO aE aS aL := by
    intro d
    induction d with
    | zero =>
      intro k aL hk hL
      have ek : k = ps_n c := by omega
      subst ek
      exact br_t (by rw [hX.1]; exact nI_le (by omega) (by omega)) ⟨ps_fac (ps_n c) + 1, px_try46 hg hf hl post fc aD aR aU aA aC aB hX h _ 0 1000000 1000000 (fun _ => 1000000) _ _ aO aE aS aL (by omega) (by decide) (by decide) hL (ps_MI0 _ _) (ps_MI0 _ _) (fun t _ => ps_MI0 _ _)⟩
    | succ d ih =>
      intro k aL hk hL
      refine br_f (by rw [hX.1]; exact nI_ge (by omega) (by omega)) ⟨vp_in_nI (by omega) (by omega), nm_e (nm_r (e' := nI (ps_fac (k + 1))) (by rw [nI_1, pk_mul]; rfl) (nm_r (nI_1 k) (ih (k + 1) _ (by omega) (fun t ht => ?_))))⟩
      rw [nI_clamp (by omega)]
      by_cases e : t = k
      · rw [e, pk_us]; decide
      · rw [pk_un e]; exact hL t (by omega)
  exact ⟨_, key (ps_n c) 0 aL (by omega) (fun t ht => absurd ht (Nat.not_lt_zero t))⟩
end
section
/-! the reference's state holds the project c -/
def ps_Yc (c : ps_Cf) (gc gl : Int32) (bD bA bC bB bR bU : Nat → Int32) : Prop :=
  gc = nI (ps_n c) ∧ gl = (if ps_l c = true then 1 else 0) ∧ (∀ t, t < ps_n c → bD t = nI (ps_D c t) ∧ bR t = nI (ps_R c t) ∧ bU t = nI (ps_U c t)) ∧ (∀ m t, m < 2 → t < ps_n c → bA (t * 2 + m) = nI (ps_A c m t)) ∧ (∀ m, m < 2 → bC m = nI (ps_C c m)) ∧ (∀ t, t < ps_n c → ∀ i, i < 32 → bt (bB t) i = (decide (i < t) && ps_B c i t))
def ps_Mk (p : Int32) (l : List Nat) : Prop := ∀ i, i < 32 → bt p i = decide (i ∈ l)
theorem py_feas {c : ps_Cf} (hg : ps_gd c) (gc gp gl : Int32) (bD bA bC bB bR bU bO bS bW : Nat → Int32) (hY : ps_Yc c gc gl bD bA bC bB bR bU) (post : Int32 → Prop) (h1 : ps_fe c → post 1) (h0 : ¬ ps_fe c → post 0) : wpY_feasible post (gc, gp, gl, bD, bA, bC, bB, bR, bU, bO, bS, bW) := by
  have hn := hg.1
  have key : ∀ d t, t + d = ps_n c → (∀ k, k < t → ps_A c 0 k ≤ ps_C c 0 ∧ ps_A c 1 k ≤ ps_C c 1) → wY_feasible_2 post gc gp gl bD bA bC bB bR bU bO bS bW (d + 1) (nI t) := by
    intro d
    induction d with
    | zero =>
      intro t ht hk
      refine br_t (by rw [hY.1]; exact nI_le (by omega) (by omega)) ?_
      exact pk_le (ps_n c) 0 (fun z => h0 (fun q => by have := q.1; omega)) (fun z => h1 ⟨by omega, fun k hk2 => hk k (by omega)⟩) hY.1 rfl (by omega) (by omega)
    | succ d ih =>
      intro t ht hk
      have hA0 := ps_A4 hg (m := 0) (t := t) (by omega) (by omega)
      have hA1 := ps_A4 hg (m := 1) (t := t) (by omega) (by omega)
      have hC0 := ps_C8 hg (m := 0) (by omega)
      have hC1 := ps_C8 hg (m := 1) (by omega)
      refine br_f (by rw [hY.1]; exact nI_ge (by omega) (by omega)) ⟨pk_in (t * 2) 12 (by omega) (ps_ix20 t), ?_⟩
      refine pk_lt (ps_C c 0) (ps_A c 0 t) (fun z => h0 (fun q => by have := (q.2 t (by omega)).1; omega)) (fun z => ⟨pk_in (t * 2 + 1) 12 (by omega) (ps_ix21 t), ?_⟩) (hY.2.2.2.2.1 0 (by omega)) ?_ (by omega) (by omega)
      · refine pk_le (ps_A c 1 t) (ps_C c 1) (fun y => nm_r (nI_1 t) (ih (t + 1) (by omega) (fun k hk2 => ?_))) (fun y => h0 (fun q => by have := (q.2 t (by omega)).2; omega)) ?_ (hY.2.2.2.2.1 1 (by omega)) (by omega) (by omega)
        · by_cases e : k = t
          · subst e; exact ⟨z, y⟩
          · exact hk k (by omega)
        · rw [ps_ix21, nI_clamp (by omega)]
          exact hY.2.2.2.1 1 t (by omega) (by omega)
      · rw [ps_ix20, nI_clamp (by omega)]
        exact hY.2.2.2.1 0 t (by omega) (by omega)
  exact ⟨_, key (ps_n c) 0 (by omega) (fun k hk => absurd hk (Nat.not_lt_zero k))⟩
theorem py_used {c : ps_Cf} (hg : ps_gd c) (hf : ps_fe c) (gc gp gl : Int32) (bD bA bC bB bR bU bO bS bW : Nat → Int32) (hY : ps_Yc c gc gl bD bA bC bB bR bU) {l : List Nat} (hok : ps_ok c l) (hM : ps_Mk gp l) (hB : ∀ t, t ∈ l → bS t = nI (ps_run c l t - ps_D c t)) {m τ : Nat} (hm : m < 2) (hτ : τ < 1000) (post : Int32 → Prop) (h : post (nI (ps_use c (ps_run c l) m τ))) : wpY_used post (gc, gp, gl, bD, bA, bC, bB, bR, bU, bO, bS, bW) (nI m) (nI τ) := by
  have hn := hg.1
  obtain ⟨i1, i2, i3⟩ := ps_inv hg hf l hok
  have hle := ps_run_le hg hf hok
  have key : ∀ d t, t + d = ps_n c → wY_used_5 post (nI m) (nI τ) gc gp gl bD bA bC bB bR bU bO bS bW (d + 1) (nI (ps_sum (fun t => if ps_run c l t ≤ τ + ps_D c t ∧ τ < ps_run c l t then ps_A c m t else 0) t)) (nI t) := by
    intro d
    induction d with
    | zero =>
      intro t ht
      have et : t = ps_n c := by omega
      subst et
      exact br_t (by rw [hY.1]; exact nI_le (by omega) (by omega)) h
    | succ d ih =>
      intro t ht
      have ih' := ih (t + 1) (by omega)
      rw [ps_sum] at ih'
      refine br_f (by rw [hY.1]; exact nI_ge (by omega) (by omega)) ?_
      refine ps_bit1 (by omega) (fun z => ⟨vp_in_nI (by omega) (by omega), ?_⟩) (fun z => nm_r (nI_1 t) ?_)
      · rw [hM t (by omega), decide_eq_true_eq] at z
        have hD := (i2 t z).1
        have hl := hle t
        have es : bS (nI t).toNatClampNeg = nI (ps_run c l t - ps_D c t) := by rw [nI_clamp (by omega)]; exact hB t z
        refine pk_lt τ (ps_run c l t - ps_D c t) (fun y => nm_r (nI_1 t) ?_) (fun y => ⟨vp_in_nI (by omega) (by omega), vp_in_nI (by omega) (by omega), ?_⟩) rfl es (by omega) (by omega)
        · rw [if_neg (by omega), Nat.add_zero] at ih'
          exact ih'
        · refine pk_le (ps_run c l t) τ (fun x => nm_r (nI_1 t) ?_) (fun x => ⟨pk_in (t * 2 + m) 12 (by omega) (ps_ix2 t m), nm_r (e' := nI (ps_sum (fun t => if ps_run c l t ≤ τ + ps_D c t ∧ τ < ps_run c l t then ps_A c m t else 0) t + ps_A c m t)) ?_ (nm_r (nI_1 t) ?_)⟩) ?_ rfl (by omega) (by omega)
          · rw [if_neg (by omega), Nat.add_zero] at ih'
            exact ih'
          · rw [ps_ix2, nI_clamp (by omega), hY.2.2.2.1 m t hm (by omega), nI_add]
          · rw [if_pos (by omega)] at ih'
            exact ih'
          · rw [es, nI_clamp (by omega), (hY.2.2.1 t (by omega)).1, nI_add]
            exact congrArg nI (by omega)
      · have z2 : ¬ t ∈ l := by
          intro q
          rw [hM t (by omega), decide_eq_true q] at z
          exact absurd z (by decide)
        have e0 : ps_run c l t = 0 := by
          by_cases q : ps_run c l t = 0
          · exact q
          · exact absurd ((i1 t).mpr q) z2
        rw [if_neg (by omega), Nat.add_zero] at ih'
        exact ih'
  exact ⟨_, key (ps_n c) 0 (by omega)⟩
theorem py_fits {c : ps_Cf} (hg : ps_gd c) (hf : ps_fe c) (gc gp gl : Int32) (bD bA bC bB bR bU bO bS bW : Nat → Int32) (hY : ps_Yc c gc gl bD bA bC bB bR bU) {l : List Nat} (hok : ps_ok c l) (hM : ps_Mk gp l) (hB : ∀ t, t ∈ l → bS t = nI (ps_run c l t - ps_D c t)) {t s : Nat} (ht : t < ps_n c) (hs : s < 200) (post : Int32 → Prop) (h1 : ps_fit c (ps_run c l) t s → post 1) (h0 : ¬ ps_fit c (ps_run c l) t s → post 0) : wpY_fits post (gc, gp, gl, bD, bA, bC, bB, bR, bU, bO, bS, bW) (nI t) (nI s) := by
  have hn := hg.1
  have hD := hg.2.1 t ht
  have key : ∀ d τ, τ + d = s + ps_D c t → s ≤ τ → (ps_l c = true → ∀ q, s ≤ q → q < τ → ps_use c (ps_run c l) 0 q + ps_A c 0 t ≤ ps_C c 0 ∧ ps_use c (ps_run c l) 1 q + ps_A c 1 t ≤ ps_C c 1) → wY_fits_2 post (nI t) (nI s) gc gp gl bD bA bC bB bR bU bO bS bW (d + 1) (nI τ) := by
    intro d
    induction d with
    | zero =>
      intro τ hτ hsτ hq
      refine ⟨vp_in_nI (by omega) (by omega), br_t ?_ (h1 (fun hl q q1 q2 => hq hl q q1 (by omega)))⟩
      rw [nI_clamp (by omega), (hY.2.2.1 t ht).1, nI_add]
      exact nI_le (by omega) (by omega)
    | succ d ih =>
      intro τ hτ hsτ hq
      have hA0 := ps_A4 hg (m := 0) (t := t) (by omega) (by omega)
      have hA1 := ps_A4 hg (m := 1) (t := t) (by omega) (by omega)
      have hC0 := ps_C8 hg (m := 0) (by omega)
      have hC1 := ps_C8 hg (m := 1) (by omega)
      have hu0 := ps_use_le hg (ps_run c l) (m := 0) (by omega) τ
      have hu1 := ps_use_le hg (ps_run c l) (m := 1) (by omega) τ
      refine ⟨vp_in_nI (by omega) (by omega), br_f ?_ ?_⟩
      · rw [nI_clamp (by omega), (hY.2.2.1 t ht).1, nI_add]
        exact nI_ge (by omega) (by omega)
      · refine py_used hg hf gc gp gl bD bA bC bB bR bU bO bS bW hY hok hM hB (m := 0) (by omega) (by omega) _ ?_
        refine py_used hg hf gc gp gl bD bA bC bB bR bU bO bS bW hY hok hM hB (m := 1) (by omega) (by omega) _ ?_
        by_cases hl : ps_l c = true
        · have egl : gl = 1 := by rw [hY.2.1, if_pos hl]
          refine br_f (by rw [egl]; decide) ⟨pk_in (t * 2) 12 (by omega) (ps_ix20 t), ?_⟩
          refine pk_lt (ps_C c 0) (ps_use c (ps_run c l) 0 τ + ps_A c 0 t) (fun z => h0 (fun f => by have := (f hl τ hsτ (by omega)).1; omega)) (fun z => ⟨pk_in (t * 2 + 1) 12 (by omega) (ps_ix21 t), ?_⟩) (hY.2.2.2.2.1 0 (by omega)) ?_ (by omega) (by omega)
          · refine pk_le (ps_use c (ps_run c l) 1 τ + ps_A c 1 t) (ps_C c 1) (fun y => nm_r (nI_1 τ) (ih (τ + 1) (by omega) (by omega) (fun _ q q1 q2 => ?_))) (fun y => h0 (fun f => by have := (f hl τ hsτ (by omega)).2; omega)) ?_ (hY.2.2.2.2.1 1 (by omega)) (by omega) (by omega)
            · by_cases e : q = τ
              · subst e; exact ⟨z, y⟩
              · exact hq hl q q1 (by omega)
            · rw [ps_ix21, nI_clamp (by omega), hY.2.2.2.1 1 t (by omega) ht, nI_add]
          · rw [ps_ix20, nI_clamp (by omega), show bA (t * 2) = nI (ps_A c 0 t) from hY.2.2.2.1 0 t (by omega) ht, nI_add]
        · have egl : gl = 0 := by rw [hY.2.1, if_neg hl]
          exact br_t egl (nm_r (nI_1 τ) (ih (τ + 1) (by omega) (by omega) (fun z => absurd z hl)))
  exact ⟨_, key (ps_D c t) s (by omega) (by omega) (fun _ q q1 q2 => by omega)⟩
theorem py_place {c : ps_Cf} (hg : ps_gd c) (hf : ps_fe c) (gc gp gl : Int32) (bD bA bC bB bR bU bO bS bW : Nat → Int32) (hY : ps_Yc c gc gl bD bA bC bB bR bU) {l : List Nat} {t : Nat} (hok : ps_ok c (t :: l)) (hM : ps_Mk gp l) (hB : ∀ t, t ∈ l → bS t = nI (ps_run c l t - ps_D c t)) (post : SY → Prop)
    (h : ∀ gp' bS', ps_Mk gp' (t :: l) → bS' t = nI (ps_run c (t :: l) t - ps_D c t) → (∀ j, j ≠ t → bS' j = bS j) → post (gc, gp', gl, bD, bA, bC, bB, bR, bU, bO, bS', bW)) : wpY_place post (gc, gp, gl, bD, bA, bC, bB, bR, bU, bO, bS, bW) (nI t) := by
  have hn := hg.1
  have ht := hok.2.1
  have hD := hg.2.1 t ht
  obtain ⟨i1, i2, i3⟩ := ps_inv hg hf l hok.1
  have hle := ps_run_le hg hf hok.1
  obtain ⟨hF, hs75⟩ := ps_first hg hf hok
  have er : ps_run c (t :: l) t - ps_D c t = ps_est c (ps_run c l) t := by rw [ps_run_s]; omega
  obtain ⟨f1, f2, f3⟩ := hF
  generalize hse : ps_est c (ps_run c l) t = s at f1 f2 f3 hs75 er
  have k60 : ∀ d k q, k + d = 100 → ps_rdy c (ps_run c l) t t ≤ q → q ≤ s → (q < s → q = ps_rdy c (ps_run c l) t t + k) → wY_place_60 post (nI t) gc gp gl bD bA bC bB bR bU bO bS bW (d + 1) (nI q) (nI k) := by
    intro d
    induction d with
    | zero =>
      intro k q hk h1 h2 h3
      have eq : q = s := by
        by_cases z : q < s
        · have := h3 z; omega
        · omega
      refine br_t (nI_le (a := 100) (b := k) (by omega) (by omega)) ⟨vp_in_nI (by omega) (by omega), nm_e (nm_e (h _ _ (fun i hi => ?_) ?_ (fun j hj => ?_)))⟩
      · rw [ps_set (by omega) hi, hM i hi, ← Bool.decide_or]
        congr 1
        rw [List.mem_cons]
        exact propext ⟨fun z => z.elim Or.inr Or.inl, fun z => z.elim Or.inr Or.inl⟩
      · rw [nI_clamp (by omega), pk_us, er, eq]
      · rw [nI_clamp (by omega), pk_un hj]
    | succ d ih =>
      intro k q hk h1 h2 h3
      refine br_f (nI_ge (b := 100) (a := k) (by omega) (by omega)) ?_
      refine py_fits hg hf gc gp gl bD bA bC bB bR bU bO bS bW hY hok.1 hM hB ht (by omega) _ (fun z => br_f (by decide) (nm_r (nI_1 k) (ih (k + 1) q (by omega) h1 h2 (fun y => absurd z (f3 q h1 y))))) (fun z => br_t rfl (nm_r (nI_1 q) (nm_r (nI_1 k) (ih (k + 1) (q + 1) (by omega) (by omega) ?_ ?_))))
      · by_cases e : q = s
        · subst e; exact absurd f2 z
        · omega
      · intro y
        have := h3 (by omega)
        omega
  have k9 : ∀ d b, b + d = t → wY_place_9 post (nI t) gc gp gl bD bA bC bB bR bU bO bS bW (d + 1) (nI (ps_rdy c (ps_run c l) t b)) (nI b) := by
    intro d
    induction d with
    | zero =>
      intro b hb
      have eb : b = t := by omega
      subst eb
      exact br_t (nI_le (by omega) (by omega)) ⟨101, k60 100 0 _ (by omega) (by omega) f1 (fun _ => rfl)⟩
    | succ d ih =>
      intro b hb
      have ih' := ih (b + 1) (by omega)
      rw [ps_rdy] at ih'
      have hrb := ps_rdy_le (c := c) (E := ps_run c l) (t := t) (M := 75) (by omega) hle b
      have hbb : bt (bB (nI t).toNatClampNeg) b = (decide (b < t) && ps_B c b t) := by rw [nI_clamp (by omega)]; exact hY.2.2.2.2.2 t ht b (by omega)
      rw [decide_eq_true (by omega : b < t), Bool.true_and] at hbb
      refine br_f (nI_ge (by omega) (by omega)) ⟨vp_in_nI (by omega) (by omega), vp_in_nI (by omega) (by omega), nm_e ⟨vp_in_nI (by omega) (by omega), ?_⟩⟩
      refine ps_bit1 (by omega) (fun z => ?_) (fun z => nm_r (nI_1 b) ?_)
      · rw [hbb] at z
        have hbl := hok.2.2.2 b (by omega) z
        have hDb := (i2 b hbl).1
        have hlb := hle b
        have ee : bS (nI b).toNatClampNeg + bD (nI b).toNatClampNeg = nI (ps_run c l b) := by
          rw [nI_clamp (by omega), hB b hbl, (hY.2.2.1 b (by omega)).1, nI_add]
          exact congrArg nI (by omega)
        refine pk_le (ps_run c l b) (ps_rdy c (ps_run c l) t b) (fun y => nm_r (nI_1 b) ?_) (fun y => nm_r (nI_1 b) ?_) ee rfl (by omega) (by omega)
        · rw [if_neg (by omega)] at ih'
          exact ih'
        · rw [if_pos ⟨z, y⟩] at ih'
          rw [ee]
          exact ih'
      · rw [hbb] at z
        rw [if_neg (fun q => by rw [z] at q; exact absurd q.1 (by decide))] at ih'
        exact ih'
  exact ⟨vp_in_nI (by omega) (by omega), nm_r (e' := nI (ps_R c t)) (by rw [nI_clamp (by omega)]; exact (hY.2.2.1 t ht).2.1) ⟨_, k9 t 0 (by omega)⟩⟩
def ps_aim (c : ps_Cf) (p : Int32) (w : Nat → Nat → Int) : Prop := (p = -1 ∧ w = ps_wl) ∨ (p = -2 ∧ w = ps_wt c) ∨ ∃ a, a < ps_n c ∧ p = nI a ∧ w = ps_we a
theorem ps_aim_wb {c : ps_Cf} (hg : ps_gd c) {p : Int32} {w : Nat → Nat → Int} (h : ps_aim c p w) : ps_wb c w := by
  rcases h with ⟨_, e⟩ | ⟨_, e⟩ | ⟨a, _, _, e⟩
  · rw [e]; exact ps_wb_l c
  · rw [e]; exact ps_wb_t hg
  · rw [e]; exact ps_wb_e c a
theorem ps_nm2 {x : Nat} (h : x < 2147483648) : ¬ nI x = -2 := by
  intro q
  have := nI_pos (n := x) (by omega)
  rw [q] at this
  exact this (by decide)
theorem py_worth {c : ps_Cf} (hg : ps_gd c) (gc gp gl : Int32) (bD bA bC bB bR bU bO bS bW : Nat → Int32) (hY : ps_Yc c gc gl bD bA bC bB bR bU) {p : Int32} {w : Nat → Nat → Int} (hp : ps_aim c p w) {t e : Nat} (ht : t < ps_n c) (he : ps_D c t ≤ e) (he2 : e ≤ 75) (hS : bS t = nI (e - ps_D c t)) (post : Int32 → Prop) (h : post (ps_i (w t e))) : wpY_worth post (gc, gp, gl, bD, bA, bC, bB, bR, bU, bO, bS, bW) (nI t) p := by
  have hn := hg.1
  have hU := hg.2.1 t ht
  have ee : bS (nI t).toNatClampNeg + bD (nI t).toNatClampNeg = nI e := by
    rw [nI_clamp (by omega), hS, (hY.2.2.1 t ht).1, nI_add]
    exact congrArg nI (by omega)
  refine ⟨vp_in_nI (by omega) (by omega), vp_in_nI (by omega) (by omega), nm_r ee ?_⟩
  rcases hp with ⟨e1, e2⟩ | ⟨e1, e2⟩ | ⟨a, ha, e1, e2⟩
  · subst e1 e2
    refine br_t rfl ?_
    rw [ps_i_n (by omega)]
    exact h
  · subst e1 e2
    refine br_f (by decide) (br_t rfl ⟨vp_in_nI (by omega) (by omega), ?_⟩)
    rw [nI_clamp (by omega), (hY.2.2.1 t ht).2.2, ps_i_sub (by omega) (by omega)]
    exact h
  · subst e1 e2
    refine br_f (ps_nm1 (by omega)) (br_f (ps_nm2 (by omega)) ?_)
    refine pk_eq a t (fun z => ?_) (fun z => ?_) rfl rfl (by omega) (by omega)
    · rw [ps_i_n (by omega)]
      unfold ps_we at h
      rw [if_pos z.symm] at h
      exact h
    · unfold ps_we at h
      rw [if_neg (fun q => z q.symm)] at h
      rw [show (-100000 : Int32) = ps_i (-100000) from by decide]
      exact h
theorem py_cand {c : ps_Cf} (hg : ps_gd c) (gc gp gl : Int32) (bD bA bC bB bR bU bO bS bW : Nat → Int32) (hY : ps_Yc c gc gl bD bA bC bB bR bU) {l : List Nat} (hok : ps_ok c l) (hM : ps_Mk gp l) {v cc : Nat} (hv : v < 7) (hcc : cc ≤ ps_n c) (hO : bO v + 1 = nI cc) (post : Int32 → Prop)
    (h1 : ∀ t, cc ≤ t → t < ps_n c → ps_ok c (t :: l) → (∀ q, cc ≤ q → q < t → ¬ ps_ok c (q :: l)) → post (nI t)) (h2 : (∀ q, cc ≤ q → q < ps_n c → ¬ ps_ok c (q :: l)) → post (nI (ps_n c))) : wpY_candidate post (gc, gp, gl, bD, bA, bC, bB, bR, bU, bO, bS, bW) (nI v) := by
  have hn := hg.1
  have key : ∀ d t, t + d = ps_n c → cc ≤ t → (∀ q, cc ≤ q → q < t → ¬ ps_ok c (q :: l)) → wY_candidate_9 post gc gp gl bD bA bC bB bR bU bO bS bW (d + 1) (nI t) := by
    intro d
    induction d with
    | zero =>
      intro t ht hct hq
      have et : t = ps_n c := by omega
      subst et
      exact br_t (by rw [hY.1]; exact nI_le (by omega) (by omega)) (by rw [hY.1]; exact h2 hq)
    | succ d ih =>
      intro t ht hct hq
      have ih' : ¬ ps_ok c (t :: l) → wY_candidate_9 post gc gp gl bD bA bC bB bR bU bO bS bW (d + 1) (nI (t + 1)) := fun z => ih (t + 1) (by omega) (by omega) (fun q q1 q2 => by
        by_cases e : q = t
        · subst e; exact z
        · exact hq q q1 (by omega))
      refine br_f (by rw [hY.1]; exact nI_ge (by omega) (by omega)) ?_
      refine ps_bit0 (by omega) (fun z => ⟨vp_in_nI (by omega) (by omega), ?_⟩) (fun z => nm_r (nI_1 t) (ih' (fun q => ?_)))
      · rw [hM t (by omega), decide_eq_false_iff_not] at z
        have eb : (bB (nI t).toNatClampNeg &&& (gp ^^^ (-1))) = 0 ↔ ∀ b, b < t → ps_B c b t = true → b ∈ l := by
          rw [nI_clamp (by omega), ps_sub0]
          constructor
          · intro q b hb hB
            have := q b (by omega) (by rw [hY.2.2.2.2.2 t (by omega) b (by omega), decide_eq_true hb, hB]; rfl)
            rw [hM b (by omega), decide_eq_true_eq] at this
            exact this
          · intro q i hi hb
            rw [hY.2.2.2.2.2 t (by omega) i hi, Bool.and_eq_true, decide_eq_true_eq] at hb
            rw [hM i hi, decide_eq_true_eq]
            exact q i hb.1 hb.2
        rw [eb]
        exact br_c (fun q => h1 t hct (by omega) ⟨hok, by omega, z, q⟩ hq) (fun q => nm_r (nI_1 t) (ih' (fun f => q f.2.2.2)))
      · rw [hM t (by omega), decide_eq_true_eq] at z
        exact q.2.2.1 z
  exact ⟨vp_in_nI (by omega) (by omega), nm_r (e' := nI cc) (by rw [nI_clamp (by omega)]; exact hO) ⟨_, key (ps_n c - cc) cc (by omega) (by omega) (fun q q1 q2 => by omega)⟩⟩
end
section
def ps_Stk (c : ps_Cf) (w : Nat → Nat → Int) (bO bW bS : Nat → Int32) : List Nat → Prop
  | [] => bW 0 = ps_i (-100000)
  | t :: l => ps_Stk c w bO bW bS l ∧ bO l.length = nI t ∧ bW (l.length + 1) = ps_i (ps_wst c w (t :: l)) ∧ bS t = nI (ps_run c (t :: l) t - ps_D c t)
theorem ps_Stk_w {c : ps_Cf} {w : Nat → Nat → Int} {bO bW bS : Nat → Int32} : ∀ {l : List Nat}, ps_Stk c w bO bW bS l → bW l.length = ps_i (ps_wst c w l) := by
  intro l h
  cases l with
  | nil => exact h
  | cons t l => exact h.2.2.1
theorem ps_Stk_s {c : ps_Cf} {w : Nat → Nat → Int} {bO bW bS : Nat → Int32} : ∀ {l : List Nat}, ps_ok c l → ps_Stk c w bO bW bS l → ∀ t, t ∈ l → bS t = nI (ps_run c l t - ps_D c t) := by
  intro l
  induction l with
  | nil => intro _ _ t h; exact (nomatch h)
  | cons a l ih =>
    intro ho h t ht
    by_cases e : t = a
    · subst e; exact h.2.2.2
    · rw [ps_run_n e]
      exact ih ho.1 h.1 t ((List.mem_cons.mp ht).resolve_left e)
theorem ps_Stk_f {c : ps_Cf} {w : Nat → Nat → Int} {bO bW bS bO' bW' bS' : Nat → Int32} : ∀ {l : List Nat}, ps_Stk c w bO bW bS l → (∀ j, j < l.length → bO' j = bO j) → (∀ j, j ≤ l.length → bW' j = bW j) → (∀ t, t ∈ l → bS' t = bS t) → ps_Stk c w bO' bW' bS' l := by
  intro l
  induction l with
  | nil =>
    intro h _ h2 _
    show bW' 0 = _
    rw [h2 0 (Nat.le_refl _)]
    exact h
  | cons a l ih =>
    intro h h1 h2 h3
    rw [List.length_cons] at h1 h2
    refine ⟨ih h.1 (fun j hj => h1 j (by omega)) (fun j hj => h2 j (by omega)) (fun t ht => h3 t (List.mem_cons_of_mem _ ht)), ?_, ?_, ?_⟩
    · rw [h1 _ (by omega)]; exact h.2.1
    · rw [h2 _ (by omega)]; exact h.2.2.1
    · rw [h3 a List.mem_cons_self]; exact h.2.2.2
theorem ps_wst_in {c : ps_Cf} {w : Nat → Nat → Int} (hg : ps_gd c) (hw : ps_wb c w) (hf : ps_fe c) {l : List Nat} (h : ps_ok c l) : -100000 ≤ ps_wst c w l ∧ ps_wst c w l ≤ 75 := by
  rcases ps_wst_at (w := w) l h with e | ⟨t, ht, e⟩
  · omega
  · have h1 := hw t (ps_run c l t) (ps_ok_lt h t ht)
    have h2 := ps_run_le hg hf h t
    omega
theorem py_leave {c : ps_Cf} (hg : ps_gd c) {w : Nat → Nat → Int} (gc gp gl : Int32) (bD bA bC bB bR bU bO bS bW : Nat → Int32) (hgc : gc = nI (ps_n c)) {l : List Nat} (hok : ps_ok c l) (hM : ps_Mk gp l) (hS : ps_Stk c w bO bW bS l) (post : Int32 → SY → Prop) (J : Int32 → Int32 → Int32 → Int32 → Int32 → Int32 → (Nat → Int32) → (Nat → Int32) → (Nat → Int32) → (Nat → Int32) → (Nat → Int32) → (Nat → Int32) → (Nat → Int32) → (Nat → Int32) → (Nat → Int32) → Prop) (x1 x2 : Int32) {k : Nat}
    (h : ∀ gp', (∀ t l', l = t :: l' → ps_Mk gp' l') → J x2 (ps_i ((l.length : Int) - 1)) (nI (k + 1)) gc gp' gl bD bA bC bB bR bU bO bS bW) : wY_search_70 post J x1 x2 (nI l.length) (nI k) gc gc gp gl bD bA bC bB bR bU bO bS bW := by
  have hn := hg.1
  have hlen := ps_ok_len hok
  refine br_t (Int32.le_refl gc) ?_
  cases l with
  | nil =>
    refine nm_r (e' := ps_i (-1)) (by decide) (br_t (by decide) (nm_r (nI_1 k) (h gp (fun t l' e => (nomatch e)))))
  | cons t l =>
    rw [List.length_cons] at hlen
    have e1 : nI (l.length + 1) - 1 = nI l.length := nI_pred _
    have e2 : ps_i (((t :: l).length : Int) - 1) = nI l.length := by
      rw [List.length_cons, ps_i_n (by omega)]
      exact congrArg ps_i (by omega)
    have ht := hok.2.1
    rw [e2] at h
    refine nm_r e1 (br_f (nI_pos (by omega)) ⟨vp_in_nI (by omega) (by omega), nm_e (nm_r (nI_1 k) (h _ (fun t' l' e => ?_)))⟩)
    obtain ⟨e3, e4⟩ := List.cons.inj e
    subst e3 e4
    intro i hi
    rw [nI_clamp (by omega), hS.2.1, ps_clr (by omega) hi, hM i hi]
    have h3 := hok.2.2.1
    by_cases z : i = t
    · subst z
      rw [decide_eq_true (rfl : i = i), decide_eq_false h3]
      simp
    · rw [decide_eq_false z]
      by_cases y : i ∈ l
      · rw [decide_eq_true y, decide_eq_true (List.mem_cons_of_mem _ y)]; rfl
      · rw [decide_eq_false y, decide_eq_false (fun q => (List.mem_cons.mp q).elim z y)]; rfl
theorem py_146 {c : ps_Cf} (hg : ps_gd c) {w : Nat → Nat → Int} (gc gp gl : Int32) (bD bA bC bB bR bU bO bS bW : Nat → Int32) (hgc : gc = nI (ps_n c)) {l : List Nat} {t : Nat} (hok : ps_ok c (t :: l)) {b z : Int} (hb : -100000 ≤ b ∧ b ≤ 100000) (hz : z = ps_wst c w (t :: l)) (hz2 : -100000 ≤ z ∧ z ≤ 75) (hS : ps_Stk c w bO bW bS l) (hO : bO l.length = nI t) (hBt : bS t = nI (ps_run c (t :: l) t - ps_D c t))
    (post : Int32 → SY → Prop) (J : Int32 → Int32 → Int32 → Int32 → Int32 → Int32 → (Nat → Int32) → (Nat → Int32) → (Nat → Int32) → (Nat → Int32) → (Nat → Int32) → (Nat → Int32) → (Nat → Int32) → (Nat → Int32) → (Nat → Int32) → Prop) (x1 : Int32) {k : Nat}
    (h : ∀ b1 bW', (-100000 ≤ b1 ∧ b1 ≤ 100000) → b1 ≤ b → (b1 = b ∨ (ps_full c (t :: l) ∧ ps_wst c w (t :: l) = b1)) → (ps_full c (t :: l) → b1 ≤ ps_wst c w (t :: l)) → ps_Stk c w bO bW' bS (t :: l) → J (ps_i b1) (nI (l.length + 1)) (nI (k + 1)) gc gp gl bD bA bC bB bR bU bO bS bW') :
    wY_search_146 post J x1 (ps_i b) (nI (l.length + 1)) (nI k) (ps_i z) (nI (l.length + 1)) gc gp gl bD bA bC bB bR bU bO bS bW := by
  have hn := hg.1
  have hlen := ps_ok_len hok
  rw [List.length_cons] at hlen
  have hS' : ps_Stk c w bO (upd bW (nI (l.length + 1)).toNatClampNeg (ps_i z)) bS (t :: l) := by
    rw [nI_clamp (by omega)]
    refine ⟨ps_Stk_f hS (fun j _ => rfl) (fun j hj => pk_un (by omega)) (fun _ _ => rfl), hO, ?_, hBt⟩
    rw [pk_us, hz]
  refine ⟨vp_in_nI (by omega) (by omega), nm_e ?_⟩
  have ew : upd bW (nI (l.length + 1)).toNatClampNeg (ps_i z) (nI (l.length + 1)).toNatClampNeg = ps_i z := pk_us
  refine pk_eq (l.length + 1) (ps_n c) (fun e => ⟨vp_in_nI (by omega) (by omega), ?_⟩) (fun e => nm_r (nI_1 k) (h b _ hb (Int.le_refl _) (Or.inl rfl) (fun f => absurd f.2 (by rw [List.length_cons]; exact e)) hS')) rfl hgc (by omega) (by omega)
  have hfull : ps_full c (t :: l) := ⟨hok, by rw [List.length_cons]; exact e⟩
  refine ps_cle b z (fun y => nm_r (nI_1 k) (h b _ hb (Int.le_refl _) (Or.inl rfl) (fun _ => by rw [← hz]; exact y) hS')) (fun y => ⟨vp_in_nI (by omega) (by omega), nm_r ew (nm_r (nI_1 k) (h z _ (by omega) (by omega) (Or.inr ⟨hfull, hz.symm⟩) (fun _ => by rw [hz]; exact Int.le_refl _) hS'))⟩) rfl ew (by omega) (by omega) (by omega) (by omega)
theorem py_enter {c : ps_Cf} (hg : ps_gd c) (hf : ps_fe c) {w : Nat → Nat → Int} (gc gp gl : Int32) (bD bA bC bB bR bU bO bS bW : Nat → Int32) (hY : ps_Yc c gc gl bD bA bC bB bR bU) {x1 : Int32} (hp : ps_aim c x1 w) {l : List Nat} {t : Nat} (hok : ps_ok c (t :: l)) (hM : ps_Mk gp l) (hS : ps_Stk c w bO bW bS l) {b : Int} (hb : -100000 ≤ b ∧ b ≤ 100000)
    (post : Int32 → SY → Prop) (J : Int32 → Int32 → Int32 → Int32 → Int32 → Int32 → (Nat → Int32) → (Nat → Int32) → (Nat → Int32) → (Nat → Int32) → (Nat → Int32) → (Nat → Int32) → (Nat → Int32) → (Nat → Int32) → (Nat → Int32) → Prop) {k : Nat}
    (h : ∀ b1 gp' bO' bS' bW', (-100000 ≤ b1 ∧ b1 ≤ 100000) → b1 ≤ b → (b1 = b ∨ (ps_full c (t :: l) ∧ ps_wst c w (t :: l) = b1)) → (ps_full c (t :: l) → b1 ≤ ps_wst c w (t :: l)) → ps_Mk gp' (t :: l) → ps_Stk c w bO' bW' bS' (t :: l) → bO' (t :: l).length + 1 = nI 0 → J (ps_i b1) (nI (l.length + 1)) (nI (k + 1)) gc gp' gl bD bA bC bB bR bU bO' bS' bW') :
    wY_search_70 post J x1 (ps_i b) (nI l.length) (nI k) (nI t) gc gp gl bD bA bC bB bR bU bO bS bW := by
  have hn := hg.1
  have hw := ps_aim_wb hg hp
  have hlen := ps_ok_len hok
  rw [List.length_cons] at hlen
  have ht := hok.2.1
  have hwl := ps_wst_in hg hw hf hok.1
  have hwt := ps_wst_in hg hw hf hok
  have hin := ps_inv hg hf (t :: l) hok
  have hDe := (hin.2.1 t List.mem_cons_self).1
  have hle := ps_run_le hg hf hok t
  refine br_f (by rw [hY.1]; exact nI_ge (by omega) (by omega)) ?_
  refine py_place hg hf gc gp gl bD bA bC bB bR bU bO bS bW hY hok hM (ps_Stk_s hok.1 hS) _ (fun gp' bS' hM' hSt hSj => ?_)
  refine py_worth hg gc gp' gl bD bA bC bB bR bU bO bS' bW hY hp ht hDe hle hSt _ ?_
  have hS2 : ps_Stk c w (upd (upd bO l.length (nI t)) (l.length + 1) (-1)) bW bS' l := ps_Stk_f hS (fun j hj => by rw [pk_un (by omega), pk_un (by omega)]) (fun j hj => rfl) (fun j hj => hSj j (fun q => hok.2.2.1 (by rw [← q]; exact hj)))
  have hO2 : upd (upd bO l.length (nI t)) (l.length + 1) (-1) l.length = nI t := by rw [pk_un (by omega), pk_us]
  have hO3 : upd (upd bO l.length (nI t)) (l.length + 1) (-1) (t :: l).length + 1 = nI 0 := by rw [List.length_cons, pk_us]; decide
  have ep : nI (l.length + 1) - 1 = nI l.length := nI_pred _
  have ew : bW (nI (l.length + 1) - 1).toNatClampNeg = ps_i (ps_wst c w l) := by rw [ep, nI_clamp (by omega)]; exact ps_Stk_w hS
  have hv := hw t (ps_run c (t :: l) t) ht
  refine ⟨vp_in_nI (by omega) (by omega), nm_r (e' := upd bO l.length (nI t)) (by rw [nI_clamp (by omega)]) (nm_r (nI_1 _) ⟨vp_in_nI (by omega) (by omega), nm_r (e' := upd (upd bO l.length (nI t)) (l.length + 1) (-1)) (by rw [nI_clamp (by omega)]) ⟨pk_in l.length 7 (by omega) ep, ?_⟩⟩)⟩
  refine ps_cle (w t (ps_run c (t :: l) t)) (ps_wst c w l) (fun y => ⟨pk_in l.length 7 (by omega) ep, ?_⟩) (fun y => ?_) rfl ew (by omega) (by omega) (by omega) (by omega)
  · rw [ew]
    exact py_146 hg gc gp' gl bD bA bC bB bR bU (upd (upd bO l.length (nI t)) (l.length + 1) (-1)) bS' bW hY.1 hok hb (by rw [ps_wst, if_pos y]) hwl hS2 hO2 hSt post J x1 (fun b1 bW' a1 a2 a3 a4 a5 => h b1 gp' _ bS' bW' a1 a2 a3 a4 hM' a5 hO3)
  · exact py_146 hg gc gp' gl bD bA bC bB bR bU (upd (upd bO l.length (nI t)) (l.length + 1) (-1)) bS' bW hY.1 hok hb (by rw [ps_wst, if_neg (by omega)]) (by omega) hS2 hO2 hSt post J x1 (fun b1 bW' a1 a2 a3 a4 a5 => h b1 gp' _ bS' bW' a1 a2 a3 a4 hM' a5 hO3)
def py_Nd (c : ps_Cf) (w : Nat → Nat → Int) (x1 : Int32) (post : Int32 → SY → Prop) (gc gl : Int32) (bD bA bC bB bR bU : Nat → Int32) (l : List Nat) (cc T : Nat) : Prop :=
  ∀ (d k : Nat) (b : Int) (gp : Int32) (bO bS bW : Nat → Int32), k + d = 8000 → T ≤ d → (-100000 ≤ b ∧ b ≤ 100000) → ps_Mk gp l → ps_Stk c w bO bW bS l → bO l.length + 1 = nI cc →
    (∀ (d' k' : Nat) (b' : Int) (gp' : Int32) (bO' bS' bW' : Nat → Int32), k' + d' = 8000 → d ≤ d' + T → (-100000 ≤ b' ∧ b' ≤ 100000) → (∀ t l', l = t :: l' → ps_Mk gp' l') → ps_Stk c w bO' bW' bS' l → b' ≤ b → (b' = b ∨ ∃ l2, ps_full c l2 ∧ ps_wst c w l2 = b') → (∀ e t, cc ≤ t → ps_full c (e ++ t :: l) → b' ≤ ps_wst c w (e ++ t :: l)) →
      wY_search_28 post x1 (d' + 1) (ps_i b') (ps_i ((l.length : Int) - 1)) (nI k') gc gp' gl bD bA bC bB bR bU bO' bS' bW') →
    wY_search_28 post x1 (d + 1) (ps_i b) (nI l.length) (nI k) gc gp gl bD bA bC bB bR bU bO bS bW
def ps_T : Nat → Nat
  | 0 => 1
  | h + 1 => 1 + (h + 1) * (1 + ps_T h)
theorem py_node {c : ps_Cf} (hg : ps_gd c) (hf : ps_fe c) {w : Nat → Nat → Int} {x1 : Int32} (hp : ps_aim c x1 w) (post : Int32 → SY → Prop) (gc gl : Int32) (bD bA bC bB bR bU : Nat → Int32) (hY : ps_Yc c gc gl bD bA bC bB bR bU) {T : Nat} {l : List Nat} (hok : ps_ok c l) (hlen : l.length < ps_n c)
    (ihc : ∀ t, ps_ok c (t :: l) → py_Nd c w x1 post gc gl bD bA bC bB bR bU (t :: l) 0 T) :
    ∀ u cc, ps_cnt c l cc ≤ u → cc ≤ ps_n c → py_Nd c w x1 post gc gl bD bA bC bB bR bU l cc (1 + u * (1 + T)) := by
  have hn := hg.1
  have hw := ps_aim_wb hg hp
  have hwl := ps_wst_in hg hw hf hok
  intro u
  induction u with
  | zero =>
    intro cc hcnt hcc d k b gp bO bS bW hkd hT hb hM hS hO hK
    obtain ⟨d, rfl⟩ : ∃ d2, d = d2 + 1 := ⟨d - 1, by omega⟩
    refine br_f (nI_ge (b := 8000) (a := k) (by omega) (by omega)) (br_f (nI_pos (by omega)) (br_f (by rw [hY.1, nI_eq (by omega) (by omega)]; omega) ⟨vp_in_nI (by omega) (by omega), ?_⟩))
    refine ps_clt (ps_wst c w l) b (fun y => ?_) (fun y => ?_) (by rw [nI_clamp (by omega)]; exact ps_Stk_w hS) rfl (by omega) (by omega) (by omega) (by omega)
    · refine py_cand hg gc gp gl bD bA bC bB bR bU bO bS bW hY hok hM (by omega) hcc hO _ (fun t h1 h2 h3 h4 => ?_) (fun hno => ?_)
      · have := ps_cnt_step (c := c) (l := l) h1 h2 h3.2.2.1
        omega
      · rw [← hY.1]
        refine py_leave hg gc gp gl bD bA bC bB bR bU bO bS bW hY.1 hok hM hS post _ x1 _ (fun gp' hM' => hK d (k + 1) b gp' bO bS bW (by omega) (by omega) hb hM' hS (Int.le_refl _) (Or.inl rfl) (fun e t h1 h2 => ?_))
        exact absurd (ps_ok_app e h2.1) (hno t h1 (ps_ok_app e h2.1).2.1)
    · refine py_leave hg gc gp gl bD bA bC bB bR bU bO bS bW hY.1 hok hM hS post _ x1 _ (fun gp' hM' => hK d (k + 1) b gp' bO bS bW (by omega) (by omega) hb hM' hS (Int.le_refl _) (Or.inl rfl) (fun e t h1 h2 => ?_))
      have := ps_wst_mono c w l (e ++ [t])
      rw [List.append_assoc] at this
      exact Int.le_trans y this
  | succ u ih =>
    intro cc hcnt hcc d k b gp bO bS bW hkd hT hb hM hS hO hK
    have eT : 1 + (u + 1) * (1 + T) = 1 + u * (1 + T) + (1 + T) := by rw [Nat.succ_mul]; omega
    rw [eT] at hT hK
    generalize hV : 1 + u * (1 + T) = V at hT hK ih
    obtain ⟨d, rfl⟩ : ∃ d2, d = d2 + 1 := ⟨d - 1, by omega⟩
    refine br_f (nI_ge (b := 8000) (a := k) (by omega) (by omega)) (br_f (nI_pos (by omega)) (br_f (by rw [hY.1, nI_eq (by omega) (by omega)]; omega) ⟨vp_in_nI (by omega) (by omega), ?_⟩))
    refine ps_clt (ps_wst c w l) b (fun y => ?_) (fun y => ?_) (by rw [nI_clamp (by omega)]; exact ps_Stk_w hS) rfl (by omega) (by omega) (by omega) (by omega)
    · refine py_cand hg gc gp gl bD bA bC bB bR bU bO bS bW hY hok hM (by omega) hcc hO _ (fun t h1 h2 h3 h4 => ?_) (fun hno => ?_)
      · have hct := ps_cnt_step (c := c) (l := l) h1 h2 h3.2.2.1
        refine py_enter hg hf gc gp gl bD bA bC bB bR bU bO bS bW hY hp h3 hM hS hb post _ (fun b1 gp1 bO1 bS1 bW1 c1 c2 c3 c4 hM1 hS1 hO1 => ?_)
        refine ihc t h3 d (k + 1) b1 gp1 bO1 bS1 bW1 (by omega) (by omega) c1 hM1 hS1 hO1 (fun d2 k2 b2 gp2 bO2 bS2 bW2 a1 a2 a3 a4 a5 a6 a7 a8 => ?_)
        rw [show ps_i (((t :: l).length : Int) - 1) = nI l.length from by
          rw [List.length_cons, ps_i_n (by omega)]
          exact congrArg ps_i (by omega)]
        refine ih (t + 1) (by omega) (by omega) d2 k2 b2 gp2 bO2 bS2 bW2 a1 (by omega) a3 (a4 t l rfl) a5.1 (by rw [a5.2.1, nI_1]) (fun d3 k3 b3 gp3 bO3 bS3 bW3 e1 e2 e3 e4 e5 e6 e7 e8 => ?_)
        refine hK d3 k3 b3 gp3 bO3 bS3 bW3 e1 (by omega) e3 e4 e5 (by omega) ?_ (fun e q q1 q2 => ?_)
        · rcases e7 with e7 | e7
          · rcases a7 with a7 | a7
            · rcases c3 with c3 | c3
              · exact Or.inl (by omega)
              · exact Or.inr ⟨_, c3.1, by rw [c3.2]; omega⟩
            · obtain ⟨l2, l3, l4⟩ := a7
              exact Or.inr ⟨l2, l3, by omega⟩
          · exact Or.inr e7
        · by_cases f : t + 1 ≤ q
          · exact e8 e q f q2
          · have okq := ps_ok_app e q2.1
            by_cases g : q = t
            · subst g
              cases e with
              | nil =>
                have := c4 q2
                rw [List.nil_append]
                omega
              | cons a e' =>
                have hex : ∀ e'' : List Nat, e'' ≠ [] → ps_full c (e'' ++ q :: l) → b2 ≤ ps_wst c w (e'' ++ q :: l) := by
                  intro e'' hne hfu
                  obtain ⟨e3', r, hr⟩ : ∃ e3' r, e'' = e3' ++ [r] := ⟨e''.dropLast, e''.getLast hne, (List.dropLast_concat_getLast hne).symm⟩
                  rw [hr, List.append_assoc] at hfu ⊢
                  exact a8 e3' r (Nat.zero_le _) hfu
                have := hex (a :: e') (by simp) q2
                omega
            · exact absurd okq (h4 q q1 (by omega))
      · rw [← hY.1]
        refine py_leave hg gc gp gl bD bA bC bB bR bU bO bS bW hY.1 hok hM hS post _ x1 _ (fun gp' hM' => hK d (k + 1) b gp' bO bS bW (by omega) (by omega) hb hM' hS (Int.le_refl _) (Or.inl rfl) (fun e t h1 h2 => ?_))
        exact absurd (ps_ok_app e h2.1) (hno t h1 (ps_ok_app e h2.1).2.1)
    · refine py_leave hg gc gp gl bD bA bC bB bR bU bO bS bW hY.1 hok hM hS post _ x1 _ (fun gp' hM' => hK d (k + 1) b gp' bO bS bW (by omega) (by omega) hb hM' hS (Int.le_refl _) (Or.inl rfl) (fun e t h1 h2 => ?_))
      have := ps_wst_mono c w l (e ++ [t])
      rw [List.append_assoc] at this
      exact Int.le_trans y this
theorem py_leaf {c : ps_Cf} (hg : ps_gd c) {w : Nat → Nat → Int} {x1 : Int32} (post : Int32 → SY → Prop) (gc gl : Int32) (bD bA bC bB bR bU : Nat → Int32) (hY : ps_Yc c gc gl bD bA bC bB bR bU) {l : List Nat} (hok : ps_ok c l) (hlen : l.length = ps_n c) : py_Nd c w x1 post gc gl bD bA bC bB bR bU l 0 1 := by
  have hn := hg.1
  intro d k b gp bO bS bW hkd hT hb hM hS hO hK
  obtain ⟨d, rfl⟩ : ∃ d2, d = d2 + 1 := ⟨d - 1, by omega⟩
  refine br_f (nI_ge (b := 8000) (a := k) (by omega) (by omega)) (br_f (nI_pos (by omega)) (br_t (by rw [hY.1, hlen]) ?_))
  refine py_leave hg gc gp gl bD bA bC bB bR bU bO bS bW hY.1 hok hM hS post _ x1 _ (fun gp' hM' => hK d (k + 1) b gp' bO bS bW (by omega) (by omega) hb hM' hS (Int.le_refl _) (Or.inl rfl) (fun e t h1 h2 => ?_))
  have h3 := ps_ok_len (ps_ok_app e h2.1)
  rw [List.length_cons] at h3
  omega
theorem py_tree {c : ps_Cf} (hg : ps_gd c) (hf : ps_fe c) {w : Nat → Nat → Int} {x1 : Int32} (hp : ps_aim c x1 w) (post : Int32 → SY → Prop) (gc gl : Int32) (bD bA bC bB bR bU : Nat → Int32) (hY : ps_Yc c gc gl bD bA bC bB bR bU) : ∀ h l, ps_ok c l → l.length + h = ps_n c → py_Nd c w x1 post gc gl bD bA bC bB bR bU l 0 (ps_T h) := by
  intro h
  induction h with
  | zero => intro l hok hl; exact py_leaf hg post gc gl bD bA bC bB bR bU hY hok (by omega)
  | succ h ih =>
    intro l hok hl
    have hc := ps_cnt_len l hok
    exact py_node hg hf hp post gc gl bD bA bC bB bR bU hY hok (by omega) (fun t ht => ih (t :: l) ht (by rw [List.length_cons]; omega)) (h + 1) 0 (by omega) (by omega)
theorem ps_T_le : ∀ n, n ≤ 6 → ps_T n ≤ 8000 := by
  intro n h
  have : ∀ n, n < 7 → ps_T n ≤ 8000 := by decide
  exact this n (by omega)
theorem py_search {c : ps_Cf} (hg : ps_gd c) (hf : ps_fe c) {w : Nat → Nat → Int} {x1 : Int32} (hp : ps_aim c x1 w) (gc gp gl : Int32) (bD bA bC bB bR bU bO bS bW : Nat → Int32) (hY : ps_Yc c gc gl bD bA bC bB bR bU) (post : Int32 → SY → Prop)
    (h : ∀ gp' bO' bS' bW', post (ps_i (ps_best c w)) (gc, gp', gl, bD, bA, bC, bB, bR, bU, bO', bS', bW')) : wpY_search post (gc, gp, gl, bD, bA, bC, bB, bR, bU, bO, bS, bW) x1 := by
  have hn := hg.1
  have hw := ps_aim_wb hg hp
  refine nm_e (nm_e ⟨8001, ?_⟩)
  refine py_tree hg hf hp post gc gl bD bA bC bB bR bU hY (ps_n c) [] trivial (by rw [List.length_nil]; omega) 8000 0 100000 0 (upd bO 0 (-1)) bS (upd bW 0 (-100000)) (by omega) (ps_T_le _ hn) (by omega) (fun i _ => by rw [b_0]; rfl) (by show upd bW 0 (-100000) 0 = _; rw [pk_us]; decide) (by show upd bO 0 (-1) 0 + 1 = _; rw [pk_us]; decide) (fun d' k' b' gp' bO' bS' bW' a1 a2 a3 a4 a5 a6 a7 a8 => ?_)
  have hk : d' = 0 ∨ 0 < d' := by omega
  have hls : ps_ls c w b' := by
    refine ps_ls_y hg hw hf a7 (fun l hl => ?_)
    have hne : l ≠ [] := fun q => by
      have := hl.2
      rw [q, List.length_nil] at this
      have := hf.1
      omega
    obtain ⟨e, r, hr⟩ : ∃ e r, l = e ++ [r] := ⟨l.dropLast, l.getLast hne, (List.dropLast_concat_getLast hne).symm⟩
    rw [hr] at hl ⊢
    exact a8 e r (Nat.zero_le _) hl
  rw [ps_best_eq hls] at h
  exact br_c (fun _ => h gp' bO' bS' bW') (fun _ => br_t (by decide) (h gp' bO' bS' bW'))
end
section
def ps_up (f : Nat → Nat) (k d : Nat) : Nat → Nat := fun j => if j = k then d else f j
theorem ps_up_s {f : Nat → Nat} {k d : Nat} : ps_up f k d k = d := if_pos rfl
theorem ps_up_n {f : Nat → Nat} {k d j : Nat} (h : j ≠ k) : ps_up f k d j = f j := if_neg h
theorem ps_upd {g : Nat → Int32} {f : Nat → Nat} {k d t : Nat} {x : Int32} (hx : x = nI d) (h : t ≠ k → g t = nI (f t)) : upd g k x t = nI (ps_up f k d t) := by
  by_cases e : t = k
  · rw [e, pk_us, ps_up_s, hx]
  · rw [pk_un e, ps_up_n e, h e]
def ps_G9 (c : ps_Cf) : Prop := ps_n c ≤ 6 ∧ (∀ t, t < ps_n c → 1 ≤ ps_D c t ∧ ps_D c t ≤ 9 ∧ ps_R c t ≤ 20 ∧ ps_U c t ≤ 99 ∧ ps_A c 0 t ≤ 4 ∧ ps_A c 1 t ≤ 4) ∧ (∀ m, m < 2 → 1 ≤ ps_C c m ∧ ps_C c m ≤ 8) ∧ ps_l c = true ∧ ∀ a b, ps_n c ≤ b → ps_B c a b = false
def ps_XS (c : ps_Cf) (u : SX) : Prop := match u with
  | (fc, fl, ft, aD, aR, aU, aA, aC, aB, aO, aE, aS, aL) => ps_Xc c fc aD aR aU aA aC aB
def ps_YS (c : ps_Cf) (v : SY) : Prop := match v with
  | (gc, gp, gl, bD, bA, bC, bB, bR, bU, bO, bS, bW) => ps_Yc c gc gl bD bA bC bB bR bU
/-- both hold the same project -/
def i_Rel (_ : Nat) (u : SX) (v : SY) : Prop := ∃ c, ps_G9 c ∧ ps_XS c u ∧ ps_YS c v
theorem i_up {k : Nat} {u : SX} {v : SY} (h : i_Rel k u v) : i_Rel (k + 4) u v := h
theorem ps_G9_gd {c : ps_Cf} (h : ps_G9 c) : ps_gd c := by
  obtain ⟨h1, h2, h3, h4, h5⟩ := h
  refine ⟨h1, fun t ht => ?_, ?_, (h3 0 (by omega)).2, (h3 1 (by omega)).2⟩
  · have := h2 t ht
    omega
  · have := ps_sum_const (f := ps_D c) (n := ps_n c) (d := 9) (fun t ht => (h2 t ht).2.1)
    omega
def ps_bt (n : Nat) (x : Int32) : Prop := x < 0 ∨ (¬ x < 0 ∧ nI n ≤ x ∧ ¬ x < nI n)
theorem ps_tc (x : Int32) {n : Nat} (hn : n ≤ 6) : ps_bt n x ∨ ∃ j, j < n ∧ x = nI j := by
  by_cases h : x < 0
  · exact Or.inl (Or.inl h)
  · obtain ⟨j, hj, rfl⟩ := nI_of h
    by_cases z : j < n
    · exact Or.inr ⟨j, z, rfl⟩
    · exact Or.inl (Or.inr ⟨h, nI_le (by omega) hj, nI_nlt (by omega) hj⟩)
theorem px_isT0 (n : Nat) (fc fl ft : Int32) (aD aR aU aA aC aB aO aE aS aL : Nat → Int32) (hfc : fc = nI n) (x : Int32) (hx : ps_bt n x) (post : Int32 → Prop) (h : post 0) : wpX_isTask post (fc, fl, ft, aD, aR, aU, aA, aC, aB, aO, aE, aS, aL) x := by
  subst hfc
  rcases hx with e | ⟨e1, e2, e3⟩
  · exact br_t e h
  · exact br_f e1 (br_t e2 h)
theorem px_isT1 (n j : Nat) (hj : j < n) (hn : n ≤ 6) (fc fl ft : Int32) (aD aR aU aA aC aB aO aE aS aL : Nat → Int32) (hfc : fc = nI n) (post : Int32 → Prop) (h : post 1) : wpX_isTask post (fc, fl, ft, aD, aR, aU, aA, aC, aB, aO, aE, aS, aL) (nI j) := by
  subst hfc
  exact br_f (nI_pos (by omega)) (br_f (nI_ge (by omega) (by omega)) h)
theorem py_bad1 (n : Nat) (gc gp gl : Int32) (bD bA bC bB bR bU bO bS bW : Nat → Int32) (hfc : gc = nI n) (x : Int32) (hx : ps_bt n x) (post : Int32 → Prop) (h : post 1) : wpY_bad post (gc, gp, gl, bD, bA, bC, bB, bR, bU, bO, bS, bW) x := by
  subst hfc
  rcases hx with e | ⟨e1, e2, e3⟩
  · exact br_t e h
  · exact br_f e1 (br_f e3 h)
theorem py_bad0 (n j : Nat) (hj : j < n) (hn : n ≤ 6) (gc gp gl : Int32) (bD bA bC bB bR bU bO bS bW : Nat → Int32) (hfc : gc = nI n) (post : Int32 → Prop) (h : post 0) : wpY_bad post (gc, gp, gl, bD, bA, bC, bB, bR, bU, bO, bS, bW) (nI j) := by
  subst hfc
  exact br_f (nI_pos (by omega)) (br_t (nI_lt (by omega) (by omega)) h)
theorem ps_rng {x : Int32} {lo hi : Nat} (a : Int32) (b : Int32) (ha : a = nI lo) (hb : b = nI hi) (hh : hi < 2147483648) (hl : lo < 2147483648) (h1 : ¬ x < a) (h2 : ¬ b < x) : ∃ j, lo ≤ j ∧ j ≤ hi ∧ x = nI j := by
  subst ha hb
  have h0 : ¬ x < 0 := by
    intro z
    exact h1 (Int32.lt_of_lt_of_le z (nI_pos' (by omega)))
  obtain ⟨j, hj, rfl⟩ := nI_of h0
  rw [nI_ltI hj (by omega)] at h1
  rw [nI_ltI (by omega) hj] at h2
  exact ⟨j, by omega, by omega, rfl⟩
theorem i_vc0 : wpX_init (fun u => wpY_init (fun v => i_Rel 0 u v)) := by
  refine ⟨3, ?_⟩
  refine br_f (by decide) ⟨vp_in_nI (n := 0) (by omega) (by omega), nm_e (nm_r (e' := nI 1) (by decide) ?_)⟩
  refine br_f (by decide) ⟨vp_in_nI (n := 1) (by omega) (by omega), nm_e (nm_r (e' := nI 2) (by decide) ?_)⟩
  refine br_t (by decide) (nm_e (nm_e ?_))
  refine ⟨(0, (fun _ => 0), (fun _ => 0), (fun _ => 0), (fun _ _ => 0), (fun _ => 4), (fun _ _ => false), true), ⟨Nat.zero_le _, fun t ht => absurd ht (Nat.not_lt_zero t), fun m _ => ⟨by show 1 ≤ 4; omega, by show 4 ≤ 8; omega⟩, rfl, fun _ _ _ => rfl⟩, ?_, ?_⟩
  · refine ⟨rfl, fun t ht => absurd ht (Nat.not_lt_zero t), fun m t _ ht => absurd ht (Nat.not_lt_zero t), ?_, fun a b _ _ => rfl⟩
    exact ps_m2 (P := fun m => upd (upd (fun _ => 0) (nI 0).toNatClampNeg 4) (nI 1).toNatClampNeg 4 m = nI 4) (by decide) (by decide)
  · refine ⟨rfl, rfl, fun t ht => absurd ht (Nat.not_lt_zero t), fun m t _ ht => absurd ht (Nat.not_lt_zero t), ?_, fun t ht => absurd ht (Nat.not_lt_zero t)⟩
    exact ps_m2 (P := fun m => upd (upd (fun _ => 0) 0 4) 1 4 m = nI 4) (by decide) (by decide)
theorem px_dur (v1 : Int32) (fc fl ft : Int32) (aD aR aU aA aC aB aO aE aS aL : Nat → Int32) (post : Int32 → Prop) (h0 : v1 < 1 ∨ (¬ v1 < 1 ∧ 9 < v1) → post 0) (h1 : ∀ d, 1 ≤ d → d ≤ 9 → v1 = nI d → post 1) : wpX_isDuration post (fc, fl, ft, aD, aR, aU, aA, aC, aB, aO, aE, aS, aL) v1 := by
  refine br_c (fun a => h0 (Or.inl a)) (fun a => br_c (fun b => h0 (Or.inr ⟨a, b⟩)) (fun b => ?_))
  obtain ⟨d, d1, d2, e⟩ := ps_rng 1 9 (lo := 1) (hi := 9) rfl rfl (by omega) (by omega) a b
  exact h1 d d1 d2 e
theorem i_vc_task {k : Nat} {u : SX} {v : SY} (I : i_Rel k u v) (hk : k + 4 ≤ 2048) (v1 : Int32) (v2 : Int32) : wpX_task (fun r u' => wpY_task (fun r' v' => r' = r ∧ i_Rel (k + 4) u' v') v v1 v2) u v1 v2 := by
  obtain ⟨fc, fl, ft, aD, aR, aU, aA, aC, aB, aO, aE, aS, aL⟩ := u
  obtain ⟨gc, gp, gl, bD, bA, bC, bB, bR, bU, bO, bS, bW⟩ := v
  obtain ⟨c, hG, hX, hY⟩ := I
  have R0 : i_Rel (k + 4) (fc, fl, ft, aD, aR, aU, aA, aC, aB, aO, aE, aS, aL) (gc, gp, gl, bD, bA, bC, bB, bR, bU, bO, bS, bW) := ⟨c, hG, hX, hY⟩
  obtain ⟨rfl, x2, x3, x4, x5⟩ := (hX : ps_Xc c fc aD aR aU aA aC aB)
  obtain ⟨rfl, y2, y3, y4, y5, y6⟩ := (hY : ps_Yc c gc gl bD bA bC bB bR bU)
  obtain ⟨g1, g2, g3, g4, g5⟩ := hG
  obtain ⟨p, hp, ep⟩ := pk_andE v2 (m := 7) 3 (by decide)
  obtain ⟨q, hq, eq⟩ := pk_andE (v2 >>> ((3 : Int32) &&& 31)) (m := 7) 3 (by decide)
  refine nm_r ep (nm_r eq ?_)
  refine px_dur v1 (nI (ps_n c)) fl ft aD aR aU aA aC aB aO aE aS aL _ (fun hb => br_t rfl ?_) (fun d d1 d2 e => br_f (by decide) ?_)
  · rcases hb with a | ⟨a, b⟩
    · exact br_t a ⟨rfl, R0⟩
    · exact br_f a (br_t b ⟨rfl, R0⟩)
  · subst e
    have ya : ¬ nI d < 1 := nI_nlt (a := d) (b := 1) (by omega) (by omega)
    have yb : ¬ 9 < nI d := nI_nlt (a := 9) (b := d) (by omega) (by omega)
    refine pk_lt 4 p (fun z => br_f ya (br_f yb (br_t (by rw [ep]; exact nI_lt z (by omega)) ⟨rfl, R0⟩))) (fun z => ?_) rfl rfl (by omega) (by omega)
    have yc : ¬ 4 < v2 &&& 7 := by rw [ep]; exact nI_nlt (a := 4) z (by omega)
    refine pk_le q 4 (fun y => ?_) (fun y => br_f ya (br_f yb (br_f yc (br_f (by rw [eq]; exact nI_ge (b := q) (a := 4) y (by omega)) ⟨rfl, R0⟩)))) rfl rfl (by omega) (by omega)
    have yd : (v2 >>> ((3 : Int32) &&& 31)) &&& 7 ≤ 4 := by rw [eq]; exact nI_le (b := 4) y (by omega)
    refine pk_lt (ps_n c) 6 (fun x => ?_) (fun x => br_f ya (br_f yb (br_f yc (br_t yd (br_t (by rw [show ps_n c = 6 from by omega]; rfl) ⟨rfl, R0⟩))))) rfl rfl (by omega) (by omega)
    refine ⟨vp_in_nI (by omega) (by omega), nm_r (e' := upd aD (ps_n c) (nI d)) (by rw [nI_clamp (by omega)]) ⟨vp_in_nI (by omega) (by omega), nm_r (e' := upd aR (ps_n c) 0) (by rw [nI_clamp (by omega)]) ⟨vp_in_nI (by omega) (by omega), nm_r (e' := upd aU (ps_n c) 99) (by rw [nI_clamp (by omega)]) ⟨vp_in_nI (by omega) (by omega), nm_r (e' := upd aA (ps_n c) (nI p)) (by rw [nI_clamp (by omega)]) ⟨pk_in (6 + ps_n c) 12 (by omega) (nI_add 6 _), nm_r (e' := upd (upd aA (ps_n c) (nI p)) (6 + ps_n c) (nI q)) (by rw [show (6 : Int32) + nI (ps_n c) = nI (6 + ps_n c) from nI_add 6 _, nI_clamp (by omega)]) (nm_r (nI_1 _) ?_)⟩⟩⟩⟩⟩
    refine br_f ya (br_f yb (br_f yc (br_t yd (br_f (by rw [show (6 : Int32) = nI 6 from rfl, nI_eq (by omega) (by omega)]; omega) ?_))))
    refine ⟨vp_in_nI (by omega) (by omega), nm_r (e' := upd bD (ps_n c) (nI d)) (by rw [nI_clamp (by omega)]) ⟨pk_in (ps_n c * 2) 12 (by omega) (ps_ix20 _), nm_r (e' := upd bA (ps_n c * 2) (nI p)) (by rw [pk_cl (ps_n c * 2) (ps_ix20 _) (by omega), ep]) ⟨pk_in (ps_n c * 2 + 1) 12 (by omega) (ps_ix21 _), nm_r (e' := upd (upd bA (ps_n c * 2) (nI p)) (ps_n c * 2 + 1) (nI q)) (by rw [pk_cl (ps_n c * 2 + 1) (ps_ix21 _) (by omega), eq]) ⟨vp_in_nI (by omega) (by omega), nm_r (e' := upd bB (ps_n c) 0) (by rw [nI_clamp (by omega)]) ⟨vp_in_nI (by omega) (by omega), nm_r (e' := upd bR (ps_n c) 0) (by rw [nI_clamp (by omega)]) ⟨vp_in_nI (by omega) (by omega), nm_r (e' := upd bU (ps_n c) 99) (by rw [nI_clamp (by omega)]) (nm_r (nI_1 _) ⟨nI_pred _, ?_⟩)⟩⟩⟩⟩⟩⟩
    refine ⟨(ps_n c + 1, ps_up (ps_D c) (ps_n c) d, ps_up (ps_R c) (ps_n c) 0, ps_up (ps_U c) (ps_n c) 99, (fun m => ps_up (ps_A c m) (ps_n c) (if m = 0 then p else q)), ps_C c, ps_B c, true), ⟨?_, ?_, g3, rfl, ?_⟩, ⟨rfl, ?_, ?_, x4, x5⟩, ⟨rfl, ?_, ?_, ?_, y5, ?_⟩⟩
    · show ps_n c + 1 ≤ 6
      omega
    · intro t ht
      have ht' : t < ps_n c + 1 := ht
      show 1 ≤ ps_up (ps_D c) (ps_n c) d t ∧ ps_up (ps_D c) (ps_n c) d t ≤ 9 ∧ ps_up (ps_R c) (ps_n c) 0 t ≤ 20 ∧ ps_up (ps_U c) (ps_n c) 99 t ≤ 99 ∧ ps_up (ps_A c 0) (ps_n c) p t ≤ 4 ∧ ps_up (ps_A c 1) (ps_n c) q t ≤ 4
      by_cases e : t = ps_n c
      · subst e
        rw [ps_up_s, ps_up_s, ps_up_s, ps_up_s, ps_up_s]
        omega
      · rw [ps_up_n e, ps_up_n e, ps_up_n e, ps_up_n e, ps_up_n e]
        exact g2 t (by omega)
    · intro a b hb
      exact g5 a b (by have : ps_n c + 1 ≤ b := hb; omega)
    · intro t ht
      have ht' : t < ps_n c + 1 := ht
      exact ⟨ps_upd rfl (fun e => (x2 t (by omega)).1), ps_upd rfl (fun e => (x2 t (by omega)).2.1), ps_upd rfl (fun e => (x2 t (by omega)).2.2)⟩
    · intro m t hm ht
      have ht' : t < ps_n c + 1 := ht
      show _ = nI (ps_up (ps_A c m) (ps_n c) (if m = 0 then p else q) t)
      by_cases e : t = ps_n c
      · subst e
        rw [ps_up_s]
        by_cases f : m = 0
        · subst f
          rw [if_pos rfl, pk_un (by omega), show 0 * 6 + ps_n c = ps_n c from by omega, pk_us]
        · rw [if_neg f, show m * 6 + ps_n c = 6 + ps_n c from by omega, pk_us]
      · rw [ps_up_n e, pk_un (by omega), pk_un (by omega)]
        exact x3 m t hm (by omega)
    · rw [y2, g4]; rfl
    · intro t ht
      have ht' : t < ps_n c + 1 := ht
      exact ⟨ps_upd rfl (fun e => (y3 t (by omega)).1), ps_upd rfl (fun e => (y3 t (by omega)).2.1), ps_upd rfl (fun e => (y3 t (by omega)).2.2)⟩
    · intro m t hm ht
      have ht' : t < ps_n c + 1 := ht
      show _ = nI (ps_up (ps_A c m) (ps_n c) (if m = 0 then p else q) t)
      by_cases e : t = ps_n c
      · subst e
        rw [ps_up_s]
        by_cases f : m = 0
        · subst f
          rw [if_pos rfl, pk_un (by omega), Nat.add_zero, pk_us]
        · rw [if_neg f, show m = 1 from by omega, pk_us]
      · rw [ps_up_n e, pk_un (by omega), pk_un (by omega)]
        exact y4 m t hm (by omega)
    · intro t ht i hi
      have ht' : t < ps_n c + 1 := ht
      show _ = (decide (i < t) && ps_B c i t)
      by_cases e : t = ps_n c
      · subst e
        rw [pk_us, b_0, g5 i _ (Nat.le_refl _), Bool.and_false]
      · rw [pk_un e]
        exact y6 t (by omega) i hi
theorem i_vc_capacity {k : Nat} {u : SX} {v : SY} (I : i_Rel k u v) (hk : k + 4 ≤ 2048) (v1 : Int32) (v2 : Int32) : wpX_capacity (fun r u' => wpY_capacity (fun r' v' => r' = r ∧ i_Rel (k + 4) u' v') v v1 v2) u v1 v2 := by
  obtain ⟨fc, fl, ft, aD, aR, aU, aA, aC, aB, aO, aE, aS, aL⟩ := u
  obtain ⟨gc, gp, gl, bD, bA, bC, bB, bR, bU, bO, bS, bW⟩ := v
  obtain ⟨c, hG, hX, hY⟩ := I
  have R0 : i_Rel (k + 4) (fc, fl, ft, aD, aR, aU, aA, aC, aB, aO, aE, aS, aL) (gc, gp, gl, bD, bA, bC, bB, bR, bU, bO, bS, bW) := ⟨c, hG, hX, hY⟩
  obtain ⟨rfl, x2, x3, x4, x5⟩ := (hX : ps_Xc c fc aD aR aU aA aC aB)
  obtain ⟨rfl, y2, y3, y4, y5, y6⟩ := (hY : ps_Yc c gc gl bD bA bC bB bR bU)
  obtain ⟨g1, g2, g3, g4, g5⟩ := hG
  unfold wpX_capacity
  dsimp only
  rcases ps_tc v1 (n := 2) (by omega) with hb | ⟨m, hm, rfl⟩
  · rcases hb with a | ⟨a1, a2, a3⟩
    · exact br_t a (br_t rfl (br_t a ⟨rfl, R0⟩))
    · have a4 : 1 < v1 := Int32.lt_of_lt_of_le (show (1 : Int32) < nI 2 from by decide) a2
      exact br_f a1 (br_t a2 (br_t rfl (br_f a1 (br_t a4 ⟨rfl, R0⟩))))
  · have a1 : ¬ nI m < 0 := nI_pos (by omega)
    have a2 : ¬ 2 ≤ nI m := nI_ge (b := 2) hm (by omega)
    have a3 : ¬ 1 < nI m := nI_nlt (a := 1) (by omega) (by omega)
    refine br_f a1 (br_f a2 (br_f (by decide) ?_))
    refine br_c (fun b => br_f a1 (br_f a3 (br_t b ⟨rfl, R0⟩))) (fun b => br_c (fun d => ?_) (fun d => br_f a1 (br_f a3 (br_f b (br_f d ⟨rfl, R0⟩)))))
    obtain ⟨x, hx1, hx2, rfl⟩ := ps_rng 1 8 (lo := 1) (hi := 8) rfl rfl (by omega) (by omega) b (Int32.not_lt.mpr d)
    refine ⟨vp_in_nI hm (by omega), nm_r (e' := nI (ps_C c m)) (by rw [nI_clamp (by omega)]; exact x4 m hm) ⟨vp_in_nI hm (by omega), nm_r (e' := upd aC m (nI x)) (by rw [nI_clamp (by omega)]) ?_⟩⟩
    refine br_f a1 (br_f a3 (br_f b (br_t d ⟨vp_in_nI hm (by omega), nm_r (e' := nI (ps_C c m)) (by rw [nI_clamp (by omega)]; exact y5 m hm) ⟨vp_in_nI hm (by omega), nm_r (e' := upd bC m (nI x)) (by rw [nI_clamp (by omega)]) ⟨rfl, ?_⟩⟩⟩)))
    refine ⟨(ps_n c, ps_D c, ps_R c, ps_U c, ps_A c, ps_up (ps_C c) m x, ps_B c, ps_l c), ⟨g1, g2, fun j hj => ?_, g4, g5⟩, ⟨rfl, x2, x3, fun j hj => ps_upd rfl (fun _ => x4 j hj), x5⟩, ⟨rfl, y2, y3, y4, fun j hj => ps_upd rfl (fun _ => y5 j hj), y6⟩⟩
    show 1 ≤ ps_up (ps_C c) m x j ∧ ps_up (ps_C c) m x j ≤ 8
    by_cases e : j = m
    · subst e; rw [ps_up_s]; omega
    · rw [ps_up_n e]; exact g3 j hj
theorem i_vc_times {k : Nat} {u : SX} {v : SY} (I : i_Rel k u v) (hk : k + 4 ≤ 2048) (v1 : Int32) (v2 : Int32) (v3 : Int32) : wpX_times (fun r u' => wpY_times (fun r' v' => r' = r ∧ i_Rel (k + 4) u' v') v v1 v2 v3) u v1 v2 v3 := by
  obtain ⟨fc, fl, ft, aD, aR, aU, aA, aC, aB, aO, aE, aS, aL⟩ := u
  obtain ⟨gc, gp, gl, bD, bA, bC, bB, bR, bU, bO, bS, bW⟩ := v
  obtain ⟨c, hG, hX, hY⟩ := I
  have R0 : i_Rel (k + 4) (fc, fl, ft, aD, aR, aU, aA, aC, aB, aO, aE, aS, aL) (gc, gp, gl, bD, bA, bC, bB, bR, bU, bO, bS, bW) := ⟨c, hG, hX, hY⟩
  obtain ⟨rfl, x2, x3, x4, x5⟩ := (hX : ps_Xc c fc aD aR aU aA aC aB)
  obtain ⟨rfl, y2, y3, y4, y5, y6⟩ := (hY : ps_Yc c gc gl bD bA bC bB bR bU)
  obtain ⟨g1, g2, g3, g4, g5⟩ := hG
  unfold wpX_times wpY_times
  dsimp only
  rcases ps_tc v1 g1 with hb | ⟨t, ht, rfl⟩
  · exact px_isT0 _ (nI (ps_n c)) fl ft aD aR aU aA aC aB aO aE aS aL rfl v1 hb _ (br_t rfl (py_bad1 _ (nI (ps_n c)) gp gl bD bA bC bB bR bU bO bS bW rfl v1 hb _ (br_f (by decide) ⟨rfl, R0⟩)))
  · refine px_isT1 _ t ht g1 (nI (ps_n c)) fl ft aD aR aU aA aC aB aO aE aS aL rfl _ (br_f (by decide) ?_)
    have B : ∀ {post : Int32 → Prop}, post 0 → wpY_bad post (nI (ps_n c), gp, gl, bD, bA, bC, bB, bR, bU, bO, bS, bW) (nI t) := fun h => py_bad0 _ t ht g1 (nI (ps_n c)) gp gl bD bA bC bB bR bU bO bS bW rfl _ h
    refine br_c (fun a => B (br_t rfl (br_t a ⟨rfl, R0⟩))) (fun a => br_c (fun b => B (br_t rfl (br_f a (br_t b ⟨rfl, R0⟩)))) (fun b => br_c (fun d => B (br_t rfl (br_f a (br_f b (br_t d ⟨rfl, R0⟩))))) (fun d => br_c (fun e => ?_) (fun e => B (br_t rfl (br_f a (br_f b (br_f d (br_f e ⟨rfl, R0⟩)))))))))
    obtain ⟨x, hx1, hx2, rfl⟩ := ps_rng 0 20 (lo := 0) (hi := 20) rfl rfl (by omega) (by omega) a b
    obtain ⟨y, hy1, hy2, rfl⟩ := ps_rng 0 99 (lo := 0) (hi := 99) rfl rfl (by omega) (by omega) d (Int32.not_lt.mpr e)
    refine ⟨vp_in_nI (by omega) (by omega), nm_r (e' := upd aR t (nI x)) (by rw [nI_clamp (by omega)]) ⟨vp_in_nI (by omega) (by omega), nm_r (e' := upd aU t (nI y)) (by rw [nI_clamp (by omega)]) ?_⟩⟩
    refine B (br_t rfl (br_f a (br_f b (br_f d (br_t e ⟨vp_in_nI (by omega) (by omega), nm_r (e' := upd bR t (nI x)) (by rw [nI_clamp (by omega)]) ⟨vp_in_nI (by omega) (by omega), nm_r (e' := upd bU t (nI y)) (by rw [nI_clamp (by omega)]) ⟨rfl, ?_⟩⟩⟩)))))
    refine ⟨(ps_n c, ps_D c, ps_up (ps_R c) t x, ps_up (ps_U c) t y, ps_A c, ps_C c, ps_B c, ps_l c), ⟨g1, fun j hj => ?_, g3, g4, g5⟩, ⟨rfl, fun j hj => ⟨(x2 j hj).1, ps_upd rfl (fun _ => (x2 j hj).2.1), ps_upd rfl (fun _ => (x2 j hj).2.2)⟩, x3, x4, x5⟩, ⟨rfl, y2, fun j hj => ⟨(y3 j hj).1, ps_upd rfl (fun _ => (y3 j hj).2.1), ps_upd rfl (fun _ => (y3 j hj).2.2)⟩, y4, y5, y6⟩⟩
    have := g2 j hj
    show 1 ≤ ps_D c j ∧ ps_D c j ≤ 9 ∧ ps_up (ps_R c) t x j ≤ 20 ∧ ps_up (ps_U c) t y j ≤ 99 ∧ ps_A c 0 j ≤ 4 ∧ ps_A c 1 j ≤ 4
    by_cases e : j = t
    · subst e; rw [ps_up_s, ps_up_s]; omega
    · rw [ps_up_n e, ps_up_n e]; exact this
theorem i_vc_stretch {k : Nat} {u : SX} {v : SY} (I : i_Rel k u v) (hk : k + 4 ≤ 2048) (v1 : Int32) (v2 : Int32) : wpX_stretch (fun r u' => wpY_stretch (fun r' v' => r' = r ∧ i_Rel (k + 4) u' v') v v1 v2) u v1 v2 := by
  obtain ⟨fc, fl, ft, aD, aR, aU, aA, aC, aB, aO, aE, aS, aL⟩ := u
  obtain ⟨gc, gp, gl, bD, bA, bC, bB, bR, bU, bO, bS, bW⟩ := v
  obtain ⟨c, hG, hX, hY⟩ := I
  have R0 : i_Rel (k + 4) (fc, fl, ft, aD, aR, aU, aA, aC, aB, aO, aE, aS, aL) (gc, gp, gl, bD, bA, bC, bB, bR, bU, bO, bS, bW) := ⟨c, hG, hX, hY⟩
  obtain ⟨rfl, x2, x3, x4, x5⟩ := (hX : ps_Xc c fc aD aR aU aA aC aB)
  obtain ⟨rfl, y2, y3, y4, y5, y6⟩ := (hY : ps_Yc c gc gl bD bA bC bB bR bU)
  obtain ⟨g1, g2, g3, g4, g5⟩ := hG
  unfold wpX_stretch wpY_stretch
  dsimp only
  rcases ps_tc v1 g1 with hb | ⟨t, ht, rfl⟩
  · exact px_isT0 _ (nI (ps_n c)) fl ft aD aR aU aA aC aB aO aE aS aL rfl v1 hb _ (br_t rfl (py_bad1 _ (nI (ps_n c)) gp gl bD bA bC bB bR bU bO bS bW rfl v1 hb _ (br_f (by decide) ⟨rfl, R0⟩)))
  · refine px_isT1 _ t ht g1 (nI (ps_n c)) fl ft aD aR aU aA aC aB aO aE aS aL rfl _ (br_f (by decide) ?_)
    have B : ∀ {post : Int32 → Prop}, post 0 → wpY_bad post (nI (ps_n c), gp, gl, bD, bA, bC, bB, bR, bU, bO, bS, bW) (nI t) := fun h => py_bad0 _ t ht g1 (nI (ps_n c)) gp gl bD bA bC bB bR bU bO bS bW rfl _ h
    refine px_dur v2 (nI (ps_n c)) fl ft aD aR aU aA aC aB aO aE aS aL _ (fun hb => br_t rfl ?_) (fun d d1 d2 e => br_f (by decide) ?_)
    · rcases hb with a | ⟨a, b⟩
      · exact B (br_t rfl (br_t a ⟨rfl, R0⟩))
      · exact B (br_t rfl (br_f a (br_f (Int32.not_le.mpr b) ⟨rfl, R0⟩)))
    · subst e
      refine ⟨vp_in_nI (by omega) (by omega), nm_r (e' := nI (ps_D c t)) (by rw [nI_clamp (by omega)]; exact (x2 t ht).1) ⟨vp_in_nI (by omega) (by omega), nm_r (e' := upd aD t (nI d)) (by rw [nI_clamp (by omega)]) ?_⟩⟩
      refine B (br_t rfl (br_f (nI_nlt (a := d) (b := 1) (by omega) (by omega)) (br_t (nI_le (b := 9) (by omega) (by omega)) ⟨vp_in_nI (by omega) (by omega), nm_r (e' := nI (ps_D c t)) (by rw [nI_clamp (by omega)]; exact (y3 t ht).1) ⟨vp_in_nI (by omega) (by omega), nm_r (e' := upd bD t (nI d)) (by rw [nI_clamp (by omega)]) ⟨rfl, ?_⟩⟩⟩)))
      refine ⟨(ps_n c, ps_up (ps_D c) t d, ps_R c, ps_U c, ps_A c, ps_C c, ps_B c, ps_l c), ⟨g1, fun j hj => ?_, g3, g4, g5⟩, ⟨rfl, fun j hj => ⟨ps_upd rfl (fun _ => (x2 j hj).1), (x2 j hj).2⟩, x3, x4, x5⟩, ⟨rfl, y2, fun j hj => ⟨ps_upd rfl (fun _ => (y3 j hj).1), (y3 j hj).2⟩, y4, y5, y6⟩⟩
      have := g2 j hj
      show 1 ≤ ps_up (ps_D c) t d j ∧ ps_up (ps_D c) t d j ≤ 9 ∧ ps_R c j ≤ 20 ∧ ps_U c j ≤ 99 ∧ ps_A c 0 j ≤ 4 ∧ ps_A c 1 j ≤ 4
      by_cases e : j = t
      · subst e; rw [ps_up_s]; omega
      · rw [ps_up_n e]; exact this
theorem ps_narb (v : Int32) : vp_nar .boolean (lw_bz v) = lw_bz v := by
  unfold vp_nar
  rw [lw_bz_n]
theorem ps_narb0 : vp_nar .boolean 0 = 0 := ps_narb 0
theorem i_vc_precede {k : Nat} {u : SX} {v : SY} (I : i_Rel k u v) (hk : k + 4 ≤ 2048) (v1 : Int32) (v2 : Int32) (v3 : Int32) : wpX_precede (fun r u' => wpY_precede (fun r' v' => r' = r ∧ i_Rel (k + 4) u' v') v v1 v2 (lw_bz v3)) u v1 v2 (lw_bz v3) := by
  obtain ⟨fc, fl, ft, aD, aR, aU, aA, aC, aB, aO, aE, aS, aL⟩ := u
  obtain ⟨gc, gp, gl, bD, bA, bC, bB, bR, bU, bO, bS, bW⟩ := v
  obtain ⟨c, hG, hX, hY⟩ := I
  have R0 : i_Rel (k + 4) (fc, fl, ft, aD, aR, aU, aA, aC, aB, aO, aE, aS, aL) (gc, gp, gl, bD, bA, bC, bB, bR, bU, bO, bS, bW) := ⟨c, hG, hX, hY⟩
  obtain ⟨rfl, x2, x3, x4, x5⟩ := (hX : ps_Xc c fc aD aR aU aA aC aB)
  obtain ⟨rfl, y2, y3, y4, y5, y6⟩ := (hY : ps_Yc c gc gl bD bA bC bB bR bU)
  obtain ⟨g1, g2, g3, g4, g5⟩ := hG
  refine br_c (fun a => br_t a ⟨rfl, R0⟩) (fun a => br_c (fun b => br_f a (br_t b ⟨rfl, R0⟩)) (fun b => ?_))
  rcases ps_tc v2 g1 with hb | ⟨t, ht, rfl⟩
  · exact px_isT0 _ (nI (ps_n c)) fl ft aD aR aU aA aC aB aO aE aS aL rfl v2 hb _ (br_t rfl (br_f a (br_f b (py_bad1 _ (nI (ps_n c)) gp gl bD bA bC bB bR bU bO bS bW rfl v2 hb _ (br_f (by decide) ⟨rfl, R0⟩)))))
  · obtain ⟨s, hs, rfl⟩ := nI_of a
    have hst : s < t := by
      rw [nI_leI (by omega) hs] at b
      omega
    refine px_isT1 _ t ht g1 (nI (ps_n c)) fl ft aD aR aU aA aC aB aO aE aS aL rfl _ (br_f (by decide) ?_)
    refine nm_r (ps_ix6 s t) ⟨vp_in_nI (by omega) (by omega), nm_r (e' := if ps_B c s t = true then 1 else 0) (by rw [nI_clamp (by omega)]; exact x5 s t hst (by omega)) ⟨vp_in_nI (by omega) (by omega), nm_r (e' := upd aB (s * 6 + t) (lw_bz v3)) (by rw [nI_clamp (by omega), ps_narb]) ?_⟩⟩
    have hXn : ∀ on : Bool, lw_bz v3 = (if on = true then 1 else 0) → ps_Xc (ps_n c, ps_D c, ps_R c, ps_U c, ps_A c, ps_C c, (fun x y => if x = s ∧ y = t then on else ps_B c x y), ps_l c) (nI (ps_n c)) aD aR aU aA aC (upd aB (s * 6 + t) (lw_bz v3)) := by
      intro on hon
      refine ⟨rfl, x2, x3, x4, fun x y hxy hy => ?_⟩
      show _ = if (if x = s ∧ y = t then on else ps_B c x y) = true then (1 : Int32) else 0
      by_cases e : x = s ∧ y = t
      · rw [if_pos e, e.1, e.2, pk_us]
        exact hon
      · rw [if_neg e, pk_un (by omega)]
        exact x5 x y hxy hy
    have hGn : ∀ on : Bool, ps_G9 (ps_n c, ps_D c, ps_R c, ps_U c, ps_A c, ps_C c, (fun x y => if x = s ∧ y = t then on else ps_B c x y), ps_l c) := by
      intro on
      refine ⟨g1, g2, g3, g4, fun x y hy => ?_⟩
      have hy' : ps_n c ≤ y := hy
      show (if x = s ∧ y = t then on else ps_B c x y) = false
      rw [if_neg (by omega)]
      exact g5 x y hy'
    have hYn : ∀ (on : Bool) (z : Int32), (∀ i, i < 32 → bt z i = if i = s then on else bt (bB t) i) → ps_Yc (ps_n c, ps_D c, ps_R c, ps_U c, ps_A c, ps_C c, (fun x y => if x = s ∧ y = t then on else ps_B c x y), ps_l c) (nI (ps_n c)) gl bD bA bC (upd bB t z) bR bU := by
      intro on z hz
      refine ⟨rfl, y2, y3, y4, y5, fun y hy i hi => ?_⟩
      show _ = (decide (i < y) && if i = s ∧ y = t then on else ps_B c i y)
      by_cases e : y = t
      · subst e
        rw [pk_us, hz i hi]
        by_cases f : i = s
        · rw [if_pos f, if_pos ⟨f, rfl⟩, decide_eq_true (by omega : i < y), Bool.true_and]
        · rw [if_neg f, if_neg (fun q => f q.1)]
          exact y6 y hy i hi
      · rw [pk_un e, if_neg (fun q => e q.2)]
        exact y6 y hy i hi
    have eold : ((bB (nI t).toNatClampNeg) >>> (nI s &&& 31)) &&& 1 = if ps_B c s t = true then 1 else 0 := by
      rw [nI_clamp (by omega), ps_bit _ (by omega), y6 t ht s (by omega), decide_eq_true hst, Bool.true_and]
    have hYw : ∀ (r : Int32) (aB' : Nat → Int32), (r = if ps_B c s t = true then 1 else 0) → aB' = upd aB (s * 6 + t) (lw_bz v3) → wpY_precede (fun r' v' => r' = r ∧ i_Rel (k + 4) (nI (ps_n c), fl, ft, aD, aR, aU, aA, aC, aB', aO, aE, aS, aL) v') (nI (ps_n c), gp, gl, bD, bA, bC, bB, bR, bU, bO, bS, bW) (nI s) (nI t) (lw_bz v3) := by
      intro r aB' hr haB
      subst haB
      refine br_f a (br_f b (py_bad0 _ t ht g1 (nI (ps_n c)) gp gl bD bA bC bB bR bU bO bS bW rfl _ (br_t rfl ⟨vp_in_nI (by omega) (by omega), nm_r eold ?_⟩)))
      rcases lw_bz_01 v3 with e | e
      · refine br_t e ⟨vp_in_nI (by omega) (by omega), vp_in_nI (by omega) (by omega), nm_r (e' := upd bB t (bB t &&& (((1 : Int32) <<< (nI s &&& 31)) ^^^ (-1)))) (by rw [nI_clamp (by omega)]) ⟨hr.symm, _, hGn false, hXn false (by rw [e]; rfl), hYn false _ (fun i hi => ?_)⟩⟩
        rw [ps_clr (by omega) hi]
        by_cases f : i = s
        · rw [if_pos f, decide_eq_true f]; simp
        · rw [if_neg f, decide_eq_false f]; simp
      · refine br_f (by rw [e]; decide) ⟨vp_in_nI (by omega) (by omega), vp_in_nI (by omega) (by omega), nm_r (e' := upd bB t (bB t ||| ((1 : Int32) <<< (nI s &&& 31)))) (by rw [nI_clamp (by omega)]) ⟨hr.symm, _, hGn true, hXn true (by rw [e]; rfl), hYn true _ (fun i hi => ?_)⟩⟩
        rw [ps_set (by omega) hi]
        by_cases f : i = s
        · rw [if_pos f, decide_eq_true f]; simp
        · rw [if_neg f, decide_eq_false f]; simp
    by_cases z : ps_B c s t = true
    · rw [if_pos z]
      exact br_f (by decide) (hYw 1 _ (by rw [if_pos z]) rfl)
    · rw [if_neg z]
      exact br_t rfl (hYw 0 _ (by rw [if_neg z]) rfl)
theorem i_vc_drop {k : Nat} {u : SX} {v : SY} (I : i_Rel k u v) (hk : k + 4 ≤ 2048) : wpX_drop (fun r u' => wpY_drop (fun r' v' => r' = r ∧ i_Rel (k + 4) u' v') v) u := by
  obtain ⟨fc, fl, ft, aD, aR, aU, aA, aC, aB, aO, aE, aS, aL⟩ := u
  obtain ⟨gc, gp, gl, bD, bA, bC, bB, bR, bU, bO, bS, bW⟩ := v
  obtain ⟨c, hG, hX, hY⟩ := I
  have R0 : i_Rel (k + 4) (fc, fl, ft, aD, aR, aU, aA, aC, aB, aO, aE, aS, aL) (gc, gp, gl, bD, bA, bC, bB, bR, bU, bO, bS, bW) := ⟨c, hG, hX, hY⟩
  obtain ⟨rfl, x2, x3, x4, x5⟩ := (hX : ps_Xc c fc aD aR aU aA aC aB)
  obtain ⟨rfl, y2, y3, y4, y5, y6⟩ := (hY : ps_Yc c gc gl bD bA bC bB bR bU)
  obtain ⟨g1, g2, g3, g4, g5⟩ := hG
  refine pk_le 1 (ps_n c) (fun h => ?_) (fun h => br_t (by rw [show ps_n c = 0 from by omega]; rfl) ⟨rfl, R0⟩) rfl rfl (by omega) (by omega)
  obtain ⟨n, hn⟩ : ∃ n, ps_n c = n + 1 := ⟨ps_n c - 1, by omega⟩
  have e1 : nI (ps_n c) - 1 = nI n := by rw [hn]; exact nI_pred n
  refine nm_r e1 ?_
  have key : ∀ d j aB, j + d = n → (∀ x y, x < y → y < 6 → aB (x * 6 + y) = if (if y = n ∧ x < j then false else ps_B c x y) = true then 1 else 0) → wX_drop_19 (fun r u' => wpY_drop (fun r' v' => r' = r ∧ i_Rel (k + 4) u' v') (nI (ps_n c), gp, gl, bD, bA, bC, bB, bR, bU, bO, bS, bW)) (nI n) (nI (ps_n c)) fl ft (d + 1) (nI j) aD aR aU aA aC aB aO aE aS aL := by
    intro d
    induction d with
    | zero =>
      intro j aB hj hB
      refine br_t (nI_le (by omega) (by omega)) ?_
      refine br_f (nI_ne0 (by omega) (by omega)) (nm_r e1 ⟨rfl, ?_⟩)
      refine ⟨(n, ps_D c, ps_R c, ps_U c, ps_A c, ps_C c, (fun x y => if n ≤ y ∨ (y = n ∧ x < j) then false else ps_B c x y), ps_l c), ⟨by show n ≤ 6; omega, fun t ht => g2 t (by have : t < n := ht; omega), g3, g4, fun x y hy => if_pos (Or.inl hy)⟩, ⟨rfl, fun t ht => x2 t (by have : t < n := ht; omega), fun m t hm ht => x3 m t hm (by have : t < n := ht; omega), x4, fun x y hxy hy => ?_⟩, ⟨rfl, y2, fun t ht => y3 t (by have : t < n := ht; omega), fun m t hm ht => y4 m t hm (by have : t < n := ht; omega), y5, fun t ht i hi => ?_⟩⟩
      · show _ = if (if n ≤ y ∨ (y = n ∧ x < j) then false else ps_B c x y) = true then (1 : Int32) else 0
        rw [hB x y hxy hy]
        by_cases f : n ≤ y
        · rw [if_pos (Or.inl f)]
          by_cases g : y = n
          · rw [if_pos (show y = n ∧ x < j from ⟨g, by omega⟩)]
          · rw [if_neg (show ¬ (y = n ∧ x < j) from fun q => g q.1), g5 x y (by omega)]
        · rw [if_neg (show ¬ (y = n ∧ x < j) from by omega), if_neg (show ¬ (n ≤ y ∨ (y = n ∧ x < j)) from by omega)]
      · have ht' : t < n := ht
        show _ = (decide (i < t) && if n ≤ t ∨ (t = n ∧ i < j) then false else ps_B c i t)
        rw [if_neg (by omega)]
        exact y6 t (by omega) i hi
    | succ d ih =>
      intro j aB hj hB
      refine br_f (nI_ge (by omega) (by omega)) ⟨pk_in (j * 6 + n) 36 (by omega) (ps_ix6 j n), nm_r (e' := upd aB (j * 6 + n) 0) (by rw [ps_ix6, nI_clamp (by omega), ps_narb0]) (nm_r (nI_1 j) (ih (j + 1) _ (by omega) (fun x y hxy hy => ?_)))⟩
      by_cases e : x * 6 + y = j * 6 + n
      · have f1 : x = j := by omega
        have f2 : y = n := by omega
        rw [e, pk_us, if_pos (show y = n ∧ x < j + 1 from ⟨f2, by omega⟩)]
        rfl
      · rw [pk_un e, hB x y hxy hy]
        by_cases f : y = n ∧ x < j
        · rw [if_pos f, if_pos (show y = n ∧ x < j + 1 from ⟨f.1, by omega⟩)]
        · rw [if_neg f, if_neg (show ¬ (y = n ∧ x < j + 1) from by omega)]
  exact ⟨_, key n 0 aB (by omega) (fun x y hxy hy => by rw [if_neg (show ¬ (y = n ∧ x < 0) from by omega)]; exact x5 x y hxy hy)⟩
end
section
noncomputable def ps_sh (c : ps_Cf) : Int := @ite Int (ps_fe c) (Classical.propDecidable (ps_fe c)) (ps_best c ps_wl) (-1000)
theorem ps_sh_t {c : ps_Cf} (h : ps_fe c) : ps_sh c = ps_best c ps_wl := by
  unfold ps_sh
  exact if_pos h
theorem ps_sh_f {c : ps_Cf} (h : ¬ ps_fe c) : ps_sh c = -1000 := by
  unfold ps_sh
  exact if_neg h
theorem ps_sh_in {c : ps_Cf} (hg : ps_gd c) (hf : ps_fe c) : 0 ≤ ps_sh c ∧ ps_sh c ≤ 75 := by
  rw [ps_sh_t hf]
  have hx := ps_wst_mx (ps_wb_l c) hf (ps_idl_full c)
  obtain ⟨t, ht, e⟩ := hx.2
  have hP : ∃ l, ps_full c l ∧ ps_mx c ps_wl (ps_run c l) ((0 + ps_run c (ps_idl (ps_n c)) t : Nat) : Int) := by
    refine ⟨_, ps_idl_full c, ?_⟩
    rw [Nat.zero_add]
    have e2 : ps_wl t (ps_run c (ps_idl (ps_n c)) t) = (ps_run c (ps_idl (ps_n c)) t : Int) := rfl
    rw [← e2, e]
    exact hx
  obtain ⟨s, _, _, h3, h4⟩ := ps_least (P := fun k => ∃ l, ps_full c l ∧ ps_mx c ps_wl (ps_run c l) (k : Int)) 0 _ hP
  have hls : ps_ls c ps_wl (s : Int) := by
    refine ⟨h3, fun l q hl hq => ?_⟩
    obtain ⟨t2, _, e2⟩ := hq.2
    have e3 : (ps_run c l t2 : Int) = q := e2
    by_cases z : ps_run c l t2 < s
    · exact absurd ⟨l, hl, by rw [e3]; exact hq⟩ (h4 _ (Nat.zero_le _) z)
    · omega
  have hb := ps_ls_in hg (ps_wb_l c) hf hls
  rw [ps_best_eq hls]
  omega
theorem ps_sh_b {c : ps_Cf} (hg : ps_gd c) : -1000 ≤ ps_sh c ∧ ps_sh c ≤ 75 := by
  by_cases hf : ps_fe c
  · have := ps_sh_in hg hf
    omega
  · rw [ps_sh_f hf]
    omega
theorem px_short {c : ps_Cf} (hg : ps_gd c) (hl : ps_l c = true) (fc fl ft : Int32) (aD aR aU aA aC aB aO aE aS aL : Nat → Int32) (hX : ps_Xc c fc aD aR aU aA aC aB) (post : Int32 → SX → Prop) (h : ∀ fl ft aO aE aS aL, post (ps_i (ps_sh c)) (fc, fl, ft, aD, aR, aU, aA, aC, aB, aO, aE, aS, aL)) : wpX_leastLengthOfPlans post (fc, fl, ft, aD, aR, aU, aA, aC, aB, aO, aE, aS, aL) := by
  refine px_feas hg fc fl ft aD aR aU aA aC aB aO aE aS aL hX _ (fun hf => br_f (by decide) (px_try hg hf hl fc fl ft aD aR aU aA aC aB aO aE aS aL hX _ (fun aO aE aS aL _ => ?_))) (fun hf => br_t rfl ?_)
  · rw [← ps_sh_t hf]
    exact h _ _ aO aE aS aL
  · have := h fl ft aO aE aS aL
    rw [ps_sh_f hf] at this
    rw [show (-1000 : Int32) = ps_i (-1000) from by decide]
    exact this
theorem py_short {c : ps_Cf} (hg : ps_gd c) (gc gp gl : Int32) (bD bA bC bB bR bU bO bS bW : Nat → Int32) (hY : ps_Yc c gc gl bD bA bC bB bR bU) (post : Int32 → SY → Prop) (h : ∀ gp bO bS bW, post (ps_i (ps_sh c)) (gc, gp, gl, bD, bA, bC, bB, bR, bU, bO, bS, bW)) : wpY_shortest post (gc, gp, gl, bD, bA, bC, bB, bR, bU, bO, bS, bW) := by
  refine py_feas hg gc gp gl bD bA bC bB bR bU bO bS bW hY _ (fun hf => br_f (by decide) (py_search hg hf (w := ps_wl) (Or.inl ⟨rfl, rfl⟩) gc gp gl bD bA bC bB bR bU bO bS bW hY _ (fun gp' bO' bS' bW' => ?_))) (fun hf => br_t rfl ?_)
  · rw [← ps_sh_t hf]
    exact h gp' bO' bS' bW'
  · have := h gp bO bS bW
    rw [ps_sh_f hf] at this
    rw [show (-1000 : Int32) = ps_i (-1000) from by decide]
    exact this
theorem i_vc_shortest {k : Nat} {u : SX} {v : SY} (I : i_Rel k u v) (hk : k + 4 ≤ 2048) : wpX_shortest (fun r u' => wpY_shortest (fun r' v' => r' = r ∧ i_Rel (k + 4) u' v') v) u := by
  obtain ⟨fc, fl, ft, aD, aR, aU, aA, aC, aB, aO, aE, aS, aL⟩ := u
  obtain ⟨gc, gp, gl, bD, bA, bC, bB, bR, bU, bO, bS, bW⟩ := v
  obtain ⟨c, hG, hX, hY⟩ := I
  have hg := ps_G9_gd hG
  unfold wpX_shortest
  dsimp only
  exact px_short hg hG.2.2.2.1 fc fl ft aD aR aU aA aC aB aO aE aS aL hX _ (fun fl ft aO aE aS aL => py_short hg gc gp gl bD bA bC bB bR bU bO bS bW hY _ (fun gp bO bS bW => ⟨rfl, c, hG, hX, hY⟩))
theorem i_vc_leastLateness {k : Nat} {u : SX} {v : SY} (I : i_Rel k u v) (hk : k + 4 ≤ 2048) : wpX_leastLateness (fun r u' => wpY_leastLateness (fun r' v' => r' = r ∧ i_Rel (k + 4) u' v') v) u := by
  obtain ⟨fc, fl, ft, aD, aR, aU, aA, aC, aB, aO, aE, aS, aL⟩ := u
  obtain ⟨gc, gp, gl, bD, bA, bC, bB, bR, bU, bO, bS, bW⟩ := v
  obtain ⟨c, hG, hX, hY⟩ := I
  have hg := ps_G9_gd hG
  unfold wpX_leastLateness wpY_leastLateness
  dsimp only
  refine px_feas hg fc fl ft aD aR aU aA aC aB aO aE aS aL hX _ (fun hf => br_f (by decide) (px_try hg hf hG.2.2.2.1 fc fl ft aD aR aU aA aC aB aO aE aS aL hX _ (fun aO aE aS aL _ => ?_))) (fun hf => br_t rfl ?_)
  · exact py_feas hg gc gp gl bD bA bC bB bR bU bO bS bW hY _ (fun _ => br_f (by decide) (py_search hg hf (w := ps_wt c) (Or.inr (Or.inl ⟨rfl, rfl⟩)) gc gp gl bD bA bC bB bR bU bO bS bW hY _ (fun gp bO bS bW => ⟨rfl, c, hG, hX, hY⟩))) (fun q => absurd hf q)
  · exact py_feas hg gc gp gl bD bA bC bB bR bU bO bS bW hY _ (fun q => absurd q hf) (fun _ => br_t rfl ⟨rfl, c, hG, hX, hY⟩)
theorem i_vc_earliestEnd {k : Nat} {u : SX} {v : SY} (I : i_Rel k u v) (hk : k + 4 ≤ 2048) (v1 : Int32) : wpX_earliestEnd (fun r u' => wpY_earliestEnd (fun r' v' => r' = r ∧ i_Rel (k + 4) u' v') v v1) u v1 := by
  obtain ⟨fc, fl, ft, aD, aR, aU, aA, aC, aB, aO, aE, aS, aL⟩ := u
  obtain ⟨gc, gp, gl, bD, bA, bC, bB, bR, bU, bO, bS, bW⟩ := v
  obtain ⟨c, hG, hX, hY⟩ := I
  have hg := ps_G9_gd hG
  have g1 := hG.1
  have hX1 : fc = nI (ps_n c) := hX.1
  have hY1 : gc = nI (ps_n c) := hY.1
  unfold wpX_earliestEnd wpY_earliestEnd
  dsimp only
  rcases ps_tc v1 g1 with hb | ⟨t, ht, rfl⟩
  · exact px_isT0 _ fc fl ft aD aR aU aA aC aB aO aE aS aL hX1 v1 hb _ (br_t rfl (py_bad1 _ gc gp gl bD bA bC bB bR bU bO bS bW hY1 v1 hb _ (br_f (by decide) ⟨rfl, c, hG, hX, hY⟩)))
  · refine px_isT1 _ t ht g1 fc fl ft aD aR aU aA aC aB aO aE aS aL hX1 _ (br_f (by decide) ?_)
    refine px_feas hg fc fl ft aD aR aU aA aC aB aO aE aS aL hX _ (fun hf => br_f (by decide) (px_try hg hf hG.2.2.2.1 fc fl ft aD aR aU aA aC aB aO aE aS aL hX _ (fun aO aE aS aL hL => ⟨vp_in_nI (by omega) (by omega), ?_⟩))) (fun hf => br_t rfl ?_)
    · refine py_bad0 _ t ht g1 gc gp gl bD bA bC bB bR bU bO bS bW hY1 _ (br_t rfl ?_)
      refine py_feas hg gc gp gl bD bA bC bB bR bU bO bS bW hY _ (fun _ => br_f (by decide) (py_search hg hf (w := ps_we t) (Or.inr (Or.inr ⟨t, ht, rfl, rfl⟩)) gc gp gl bD bA bC bB bR bU bO bS bW hY _ (fun gp bO bS bW => ⟨?_, c, hG, hX, hY⟩))) (fun q => absurd hf q)
      rw [nI_clamp (by omega)]
      exact (hL t ht).symm
    · exact py_bad0 _ t ht g1 gc gp gl bD bA bC bB bR bU bO bS bW hY1 _ (br_t rfl (py_feas hg gc gp gl bD bA bC bB bR bU bO bS bW hY _ (fun q => absurd q hf) (fun _ => br_t rfl ⟨rfl, c, hG, hX, hY⟩)))
def ps_c1 (c : ps_Cf) : ps_Cf := (ps_n c, ps_D c, ps_R c, ps_U c, ps_A c, ps_C c, ps_B c, false)
theorem px_nolim {c : ps_Cf} (hg : ps_gd c) (hf : ps_fe c) (hl : ps_l c = false) (fc fl ft : Int32) (aD aR aU aA aC aB aO aE aS aL : Nat → Int32) (hX : ps_Xc c fc aD aR aU aA aC aB) (post : Int32 → SX → Prop) (h : ∀ aE, post (ps_i (ps_best c ps_wl)) (fc, fl, ft, aD, aR, aU, aA, aC, aB, aO, aE, aS, aL)) : ∃ n13, wX_withoutLimits_13 post fc fl ft n13 0 aD aR aU aA aC aB aO aE aS aL := by
  have hn := hg.1
  have key : ∀ d t aE, t + d = ps_n c → (∀ j, j < t → aE j = nI (ps_run c (ps_idl t) j)) → wX_withoutLimits_13 post fc fl ft (d + 1) (nI t) aD aR aU aA aC aB aO aE aS aL := by
    intro d
    induction d with
    | zero =>
      intro t aE ht hE
      have et : t = ps_n c := by omega
      subst et
      refine br_t (by rw [hX.1]; exact nI_le (by omega) (by omega)) ?_
      refine px_len hg fc fl ft aD aR aU aA aC aB aO aE aS aL hX.1 hf.1 (E := ps_run c (ps_idl (ps_n c))) (fun j hj => ⟨hE j hj, ps_run_le hg hf (ps_idl_full c).1 j⟩) _ (fun z hz _ _ => ?_)
      rw [← ps_best_eq (ps_nl_ls hl hz)]
      exact h aE
    | succ d ih =>
      intro t aE ht hE
      have hok := ps_idl_ok (c := c) t (by omega)
      have hin := ps_inv hg hf _ hok
      refine br_f (by rw [hX.1]; exact nI_ge (by omega) (by omega)) ?_
      refine px_ready hg fc fl ft aD aR aU aA aC aB aO aE aS aL hX (t := t) (by omega) (E := ps_run c (ps_idl t)) (fun b hb => ⟨hE b hb, ps_run_le hg hf hok b⟩) _ (fun _ => ?_) (fun q => absurd (fun b hb _ => (hin.1 b).mp ((ps_idl_mem t b).mpr hb)) q)
      refine ⟨vp_in_nI (by omega) (by omega), vp_in_nI (by omega) (by omega), nm_e (nm_r (nI_1 t) (ih (t + 1) _ (by omega) (fun j hj => ?_)))⟩
      rw [nI_clamp (by omega), (hX.2.1 t (by omega)).1, nI_add, ps_idl]
      by_cases e : j = t
      · rw [e, pk_us, ps_run_s, ps_nl_est hl]
      · rw [pk_un e, ps_run_n e]
        exact hE j (by omega)
  exact ⟨_, key (ps_n c) 0 aE (by omega) (fun j hj => absurd hj (Nat.not_lt_zero j))⟩
theorem i_vc_withoutLimits {k : Nat} {u : SX} {v : SY} (I : i_Rel k u v) (hk : k + 4 ≤ 2048) : wpX_withoutLimits (fun r u' => wpY_withoutLimits (fun r' v' => r' = r ∧ i_Rel (k + 4) u' v') v) u := by
  obtain ⟨fc, fl, ft, aD, aR, aU, aA, aC, aB, aO, aE, aS, aL⟩ := u
  obtain ⟨gc, gp, gl, bD, bA, bC, bB, bR, bU, bO, bS, bW⟩ := v
  obtain ⟨c, hG, hX, hY⟩ := I
  have hg := ps_G9_gd hG
  have egl : gl = 1 := by rw [(hY : ps_Yc c gc gl bD bA bC bB bR bU).2.1, hG.2.2.2.1]; rfl
  subst egl
  unfold wpX_withoutLimits wpY_withoutLimits
  dsimp only
  have hg1 : ps_gd (ps_c1 c) := hg
  have hX1 : ps_Xc (ps_c1 c) fc aD aR aU aA aC aB := hX
  have hY' : ps_Yc c gc 1 bD bA bC bB bR bU := hY
  have hY1 : ps_Yc (ps_c1 c) gc 0 bD bA bC bB bR bU := ⟨hY'.1, rfl, hY'.2.2⟩
  refine px_feas hg fc fl ft aD aR aU aA aC aB aO aE aS aL hX _ (fun hf => br_f (by decide) ?_) (fun hf => br_t rfl ?_)
  · have hf1 : ps_fe (ps_c1 c) := hf
    refine px_nolim hg1 hf1 rfl fc fl ft aD aR aU aA aC aB aO aE aS aL hX1 _ (fun aE => ?_)
    exact py_feas hg gc gp 1 bD bA bC bB bR bU bO bS bW hY _ (fun _ => br_f (by decide) (py_search hg1 hf1 (w := ps_wl) (Or.inl ⟨rfl, rfl⟩) gc gp 0 bD bA bC bB bR bU bO bS bW hY1 _ (fun gp bO bS bW => ⟨rfl, c, hG, hX, hY⟩))) (fun q => absurd hf q)
  · exact py_feas hg gc gp 1 bD bA bC bB bR bU bO bS bW hY _ (fun q => absurd q hf) (fun _ => br_t rfl ⟨rfl, c, hG, hX, hY⟩)
end
section
theorem ps_back2 (a : Nat → Int32) {i j : Nat} (h : i ≠ j) : upd (upd (upd (upd a i 0) j 0) i (a i)) j (a j) = a := by
  funext x
  by_cases e : x = j
  · rw [e, pk_us]
  · rw [pk_un e]
    by_cases f : x = i
    · rw [f, pk_us]
    · rw [pk_un f, pk_un e, pk_un f]
def ps_c2 (c : ps_Cf) (t : Nat) : ps_Cf := (ps_n c, ps_D c, ps_R c, ps_U c, (fun m => ps_up (ps_A c m) t 0), ps_C c, ps_B c, ps_l c)
theorem i_vc_burden {k : Nat} {u : SX} {v : SY} (I : i_Rel k u v) (hk : k + 4 ≤ 2048) (v1 : Int32) : wpX_burden (fun r u' => wpY_burden (fun r' v' => r' = r ∧ i_Rel (k + 4) u' v') v v1) u v1 := by
  obtain ⟨fc, fl, ft, aD, aR, aU, aA, aC, aB, aO, aE, aS, aL⟩ := u
  obtain ⟨gc, gp, gl, bD, bA, bC, bB, bR, bU, bO, bS, bW⟩ := v
  obtain ⟨c, hG, hX, hY⟩ := I
  have hg := ps_G9_gd hG
  have g1 := hG.1
  have hX1 : fc = nI (ps_n c) := hX.1
  have hY1 : gc = nI (ps_n c) := hY.1
  unfold wpX_burden wpY_burden
  dsimp only
  rcases ps_tc v1 g1 with hb | ⟨t, ht, rfl⟩
  · exact px_isT0 _ fc fl ft aD aR aU aA aC aB aO aE aS aL hX1 v1 hb _ (br_t rfl (py_bad1 _ gc gp gl bD bA bC bB bR bU bO bS bW hY1 v1 hb _ (br_f (by decide) ⟨rfl, c, hG, hX, hY⟩)))
  · refine px_isT1 _ t ht g1 fc fl ft aD aR aU aA aC aB aO aE aS aL hX1 _ (br_f (by decide) ?_)
    refine px_feas hg fc fl ft aD aR aU aA aC aB aO aE aS aL hX _ (fun hf => br_f (by decide) ?_) (fun hf => br_t rfl ?_)
    · have hs := ps_sh_in hg hf
      have hg2 : ps_gd (ps_c2 c t) := by
        refine ⟨hg.1, fun j hj => ?_, hg.2.2.1, hg.2.2.2.1, hg.2.2.2.2⟩
        have := hg.2.1 j hj
        show 1 ≤ ps_D c j ∧ ps_D c j ≤ 10 ∧ ps_R c j ≤ 20 ∧ ps_U c j ≤ 99 ∧ ps_up (ps_A c 0) t 0 j ≤ 4 ∧ ps_up (ps_A c 1) t 0 j ≤ 4
        by_cases e : j = t
        · subst e; rw [ps_up_s, ps_up_s]; omega
        · rw [ps_up_n e, ps_up_n e]; exact this
      have hXc : ps_Xc c fc aD aR aU aA aC aB := hX
      have hYc : ps_Yc c gc gl bD bA bC bB bR bU := hY
      have hX2 : ps_Xc (ps_c2 c t) fc aD aR aU (upd (upd aA t 0) (6 + t) 0) aC aB := by
        refine ⟨hXc.1, hXc.2.1, fun m j hm hj => ?_, hXc.2.2.2.1, hXc.2.2.2.2⟩
        have hj' : j < ps_n c := hj
        show _ = nI (ps_up (ps_A c m) t 0 j)
        by_cases e : j = t
        · subst e
          rw [ps_up_s]
          by_cases f : m = 0
          · subst f
            rw [pk_un (by omega), show 0 * 6 + j = j from by omega, pk_us]; rfl
          · rw [show m * 6 + j = 6 + j from by omega, pk_us]; rfl
        · rw [ps_up_n e, pk_un (by omega), pk_un (by omega)]
          exact hXc.2.2.1 m j hm hj'
      have hY2 : ps_Yc (ps_c2 c t) gc gl bD (upd (upd bA (t * 2) 0) (t * 2 + 1) 0) bC bB bR bU := by
        refine ⟨hYc.1, hYc.2.1, hYc.2.2.1, fun m j hm hj => ?_, hYc.2.2.2.2⟩
        have hj' : j < ps_n c := hj
        show _ = nI (ps_up (ps_A c m) t 0 j)
        by_cases e : j = t
        · subst e
          rw [ps_up_s]
          by_cases f : m = 0
          · subst f
            rw [pk_un (by omega), Nat.add_zero, pk_us]; rfl
          · rw [show m = 1 from by omega, pk_us]; rfl
        · rw [ps_up_n e, pk_un (by omega), pk_un (by omega)]
          exact hYc.2.2.2.1 m j hm hj'
      have e6 : (6 : Int32) + nI t = nI (6 + t) := nI_add 6 t
      refine px_short hg hG.2.2.2.1 fc fl ft aD aR aU aA aC aB aO aE aS aL hX _ (fun fl ft aO aE aS aL => ?_)
      refine ⟨vp_in_nI (by omega) (by omega), nm_r (e' := aA t) (by rw [nI_clamp (by omega)]) ⟨pk_in (6 + t) 12 (by omega) e6, nm_r (e' := aA (6 + t)) (by rw [e6, nI_clamp (by omega)]) ⟨vp_in_nI (by omega) (by omega), nm_r (e' := upd aA t 0) (by rw [nI_clamp (by omega)]) ⟨pk_in (6 + t) 12 (by omega) e6, nm_r (e' := upd (upd aA t 0) (6 + t) 0) (by rw [e6, nI_clamp (by omega)]) ?_⟩⟩⟩⟩
      refine px_short hg2 hG.2.2.2.1 fc fl ft aD aR aU (upd (upd aA t 0) (6 + t) 0) aC aB aO aE aS aL hX2 _ (fun fl ft aO aE aS aL => ?_)
      refine ⟨vp_in_nI (by omega) (by omega), nm_r (e' := upd (upd (upd aA t 0) (6 + t) 0) t (aA t)) (by rw [nI_clamp (by omega)]) ⟨pk_in (6 + t) 12 (by omega) e6, nm_r (e' := aA) (by rw [e6, nI_clamp (by omega), ps_back2 aA (by omega)]) ?_⟩⟩
      refine py_bad0 _ t ht g1 gc gp gl bD bA bC bB bR bU bO bS bW hY1 _ (br_t rfl ?_)
      refine py_short hg gc gp gl bD bA bC bB bR bU bO bS bW hY _ (fun gp bO bS bW => ?_)
      refine br_f (by rw [show (-1000 : Int32) = ps_i (-1000) from by decide, ps_i_eq (by omega) (by omega) (by omega) (by omega)]; omega) ?_
      refine ⟨pk_in (t * 2) 12 (by omega) (ps_ix20 t), nm_r (e' := bA (t * 2)) (by rw [ps_ix20, nI_clamp (by omega)]) ⟨pk_in (t * 2 + 1) 12 (by omega) (ps_ix21 t), nm_r (e' := bA (t * 2 + 1)) (by rw [ps_ix21, nI_clamp (by omega)]) ⟨pk_in (t * 2) 12 (by omega) (ps_ix20 t), nm_r (e' := upd bA (t * 2) 0) (by rw [ps_ix20, nI_clamp (by omega)]) ⟨pk_in (t * 2 + 1) 12 (by omega) (ps_ix21 t), nm_r (e' := upd (upd bA (t * 2) 0) (t * 2 + 1) 0) (by rw [ps_ix21, nI_clamp (by omega)]) ?_⟩⟩⟩⟩
      refine py_short hg2 gc gp gl bD (upd (upd bA (t * 2) 0) (t * 2 + 1) 0) bC bB bR bU bO bS bW hY2 _ (fun gp bO bS bW => ?_)
      exact ⟨pk_in (t * 2) 12 (by omega) (ps_ix20 t), nm_r (e' := upd (upd (upd bA (t * 2) 0) (t * 2 + 1) 0) (t * 2) (bA (t * 2))) (by rw [ps_ix20, nI_clamp (by omega)]) ⟨pk_in (t * 2 + 1) 12 (by omega) (ps_ix21 t), nm_r (e' := bA) (by rw [ps_ix21, nI_clamp (by omega), ps_back2 bA (by omega)]) ⟨rfl, c, hG, hX, hY⟩⟩⟩
    · refine py_bad0 _ t ht g1 gc gp gl bD bA bC bB bR bU bO bS bW hY1 _ (br_t rfl ?_)
      refine py_short hg gc gp gl bD bA bC bB bR bU bO bS bW hY _ (fun gp bO bS bW => ?_)
      exact br_t (by rw [ps_sh_f hf]; decide) ⟨rfl, c, hG, hX, hY⟩
def ps_cK (c : ps_Cf) (m x : Nat) : ps_Cf := (ps_n c, ps_D c, ps_R c, ps_U c, ps_A c, ps_up (ps_C c) m x, ps_B c, ps_l c)
theorem ps_cKK (c : ps_Cf) (m : Nat) : ps_cK c m (ps_C c m) = c := by
  have e : ps_up (ps_C c) m (ps_C c m) = ps_C c := by
    funext j
    by_cases e : j = m
    · rw [e, ps_up_s]
    · rw [ps_up_n e]
  unfold ps_cK
  rw [e]
  rfl
theorem ps_cK_gd {c : ps_Cf} (hg : ps_gd c) {m x : Nat} (hx : x ≤ 8) : ps_gd (ps_cK c m x) := by
  have hC : ∀ j, j < 2 → ps_up (ps_C c) m x j ≤ 8 := by
    intro j hj
    by_cases e : j = m
    · rw [e, ps_up_s]; exact hx
    · rw [ps_up_n e]; exact ps_C8 hg hj
  exact ⟨hg.1, hg.2.1, hg.2.2.1, hC 0 (by omega), hC 1 (by omega)⟩
def ps_lc (c : ps_Cf) (m r : Nat) : Prop := (1 ≤ r ∧ r ≤ ps_C c m) ∧ ps_sh (ps_cK c m r) = ps_sh c ∧ ∀ y, 1 ≤ y → y < r → ps_sh (ps_cK c m y) ≠ ps_sh c
theorem ps_lc_u {c : ps_Cf} {m r s : Nat} (h : ps_lc c m r) (g : ps_lc c m s) : r = s := by
  by_cases a : r < s
  · exact absurd h.2.1 (g.2.2 r h.1.1 a)
  · by_cases b : s < r
    · exact absurd g.2.1 (h.2.2 s g.1.1 b)
    · omega
theorem px_lc {c : ps_Cf} (hg : ps_gd c) (hl : ps_l c = true) {m : Nat} (hm : m < 2) (hC : 1 ≤ ps_C c m) (fc : Int32) (aD aR aU aA aB : Nat → Int32) (post : Int32 → SX → Prop)
    (hX : ∀ aC, (∀ j, j < 2 → j ≠ m → aC j = nI (ps_C c j)) → ∀ x, ps_Xc (ps_cK c m x) fc aD aR aU aA (upd aC m (nI x)) aB)
    (h : ∀ r, ps_lc c m r → ∀ fl ft aC aO aE aS aL, (∀ j, j < 2 → j ≠ m → aC j = nI (ps_C c j)) → post (nI r) (fc, fl, ft, aD, aR, aU, aA, upd aC m (nI (ps_C c m)), aB, aO, aE, aS, aL)) :
    ∀ (d x : Nat) (fl ft : Int32) (aC aO aE aS aL : Nat → Int32), x + d = ps_C c m → 1 ≤ x → (∀ j, j < 2 → j ≠ m → aC j = nI (ps_C c j)) → (∀ y, 1 ≤ y → y < x → ps_sh (ps_cK c m y) ≠ ps_sh c) → wX_leastCapacity_40 post (nI m) (ps_i (ps_sh c)) (nI (ps_C c m)) (nI (ps_C c m)) (d + 1) (nI x) fc fl ft aD aR aU aA aC aB aO aE aS aL := by
  have h8 := ps_C8 hg hm
  have hsc := ps_sh_b hg
  intro d
  induction d with
  | zero =>
    intro x fl ft aC aO aE aS aL hx h1 haC hy
    have ex : x = ps_C c m := by omega
    subst ex
    refine br_t (nI_le (by omega) (by omega)) ⟨vp_in_nI (by omega) (by omega), nm_r (e' := upd aC m (nI (ps_C c m))) (by rw [nI_clamp (by omega)]) (h _ ⟨by omega, by rw [ps_cKK], hy⟩ fl ft aC aO aE aS aL haC)⟩
  | succ d ih =>
    intro x fl ft aC aO aE aS aL hx h1 haC hy
    have hgx : ps_gd (ps_cK c m x) := ps_cK_gd hg (by omega)
    have hsx := ps_sh_b hgx
    refine br_f (nI_ge (by omega) (by omega)) ⟨vp_in_nI (by omega) (by omega), nm_r (e' := upd aC m (nI x)) (by rw [nI_clamp (by omega)]) ?_⟩
    refine px_short hgx hl fc fl ft aD aR aU aA (upd aC m (nI x)) aB aO aE aS aL (hX aC haC x) _ (fun fl ft aO aE aS aL => ?_)
    have haC2 : ∀ j, j < 2 → j ≠ m → upd aC m (nI x) j = nI (ps_C c j) := fun j hj hn => by rw [pk_un hn]; exact haC j hj hn
    refine ps_ceq (ps_sh (ps_cK c m x)) (ps_sh c) (fun e => ⟨vp_in_nI (by omega) (by omega), nm_r (e' := upd (upd aC m (nI x)) m (nI (ps_C c m))) (by rw [nI_clamp (by omega)]) (h x ⟨by omega, e, hy⟩ fl ft (upd aC m (nI x)) aO aE aS aL haC2)⟩) (fun e => nm_r (nI_1 x) (ih (x + 1) fl ft (upd aC m (nI x)) aO aE aS aL (by omega) (by omega) haC2 (fun y y1 y2 => ?_))) rfl rfl (by omega) (by omega) (by omega) (by omega)
    by_cases f : y = x
    · subst f; exact e
    · exact hy y y1 (by omega)
theorem py_lc {c : ps_Cf} (hg : ps_gd c) (hf : ps_fe c) {m : Nat} (hm : m < 2) (hC : 1 ≤ ps_C c m) (gc gl : Int32) (bD bA bB bR bU : Nat → Int32) (post : Int32 → SY → Prop)
    (hY : ∀ bC, (∀ j, j < 2 → j ≠ m → bC j = nI (ps_C c j)) → ∀ x, ps_Yc (ps_cK c m x) gc gl bD bA (upd bC m (nI x)) bB bR bU)
    (h : ∀ r, ps_lc c m r → ∀ gp bC bO bS bW, (∀ j, j < 2 → j ≠ m → bC j = nI (ps_C c j)) → post (nI r) (gc, gp, gl, bD, bA, upd bC m (nI (ps_C c m)), bB, bR, bU, bO, bS, bW)) :
    ∀ (x : Nat) (x4 gp : Int32) (bC bO bS bW : Nat → Int32), x ≤ 8 → (∀ j, j < 2 → j ≠ m → bC j = nI (ps_C c j)) → (ps_C c m ≤ x ∨ ∃ r, x < r ∧ r ≤ ps_C c m ∧ x4 = nI r ∧ ps_sh (ps_cK c m r) = ps_sh c ∧ ∀ y, x < y → y < r → ps_sh (ps_cK c m y) ≠ ps_sh c) → wY_leastCapacity_33 post (nI m) (ps_i (ps_sh c)) (nI (ps_C c m)) (x + 1) x4 (nI x) gc gp gl bD bA bC bB bR bU bO bS bW := by
  have h8 := ps_C8 hg hm
  have hsc := ps_sh_in hg hf
  have hne : ¬ ps_i (ps_sh c) = -1000 := by
    rw [show (-1000 : Int32) = ps_i (-1000) from by decide, ps_i_eq (by omega) (by omega) (by omega) (by omega)]
    omega
  intro x
  induction x with
  | zero =>
    intro x4 gp bC bO bS bW _ hbC hr
    rcases hr with hr | ⟨r, r1, r2, r3, r4, r5⟩
    · omega
    · subst r3
      refine br_t (by decide) ⟨vp_in_nI (by omega) (by omega), nm_r (e' := upd bC m (nI (ps_C c m))) (by rw [nI_clamp (by omega)]) (h r ⟨by omega, r4, fun y y1 y2 => r5 y (by omega) y2⟩ gp bC bO bS bW hbC)⟩
  | succ x ih =>
    intro x4 gp bC bO bS bW hx hbC hr
    have hgx : ps_gd (ps_cK c m (x + 1)) := ps_cK_gd hg (by omega)
    have hsx := ps_sh_b hgx
    have hbC2 : ∀ j, j < 2 → j ≠ m → upd bC m (nI (x + 1)) j = nI (ps_C c j) := fun j hj hn => by rw [pk_un hn]; exact hbC j hj hn
    refine br_f (nI_nle (by omega) (by omega)) ⟨vp_in_nI (by omega) (by omega), nm_r (e' := upd bC m (nI (x + 1))) (by rw [nI_clamp (by omega)]) (br_f hne ?_)⟩
    refine pk_lt (ps_C c m) (x + 1) (fun z => nm_r (pk_m1 x) (ih x4 gp _ bO bS bW (by omega) hbC2 (Or.inl (by omega)))) (fun z => ?_) rfl rfl (by omega) (by omega)
    refine py_short hgx gc gp gl bD bA (upd bC m (nI (x + 1))) bB bR bU bO bS bW (hY bC hbC (x + 1)) _ (fun gp bO bS bW => ?_)
    refine ps_ceq (ps_sh (ps_cK c m (x + 1))) (ps_sh c) (fun e => nm_r (pk_m1 x) (ih _ gp _ bO bS bW (by omega) hbC2 (Or.inr ⟨x + 1, by omega, by omega, rfl, e, fun y y1 y2 => by omega⟩))) (fun e => nm_r (pk_m1 x) (ih _ gp _ bO bS bW (by omega) hbC2 ?_)) rfl rfl (by omega) (by omega) (by omega) (by omega)
    rcases hr with hr | ⟨r, r1, r2, r3, r4, r5⟩
    · have ex : x + 1 = ps_C c m := by omega
      rw [ex, ps_cKK] at e
      exact absurd rfl e
    · refine Or.inr ⟨r, by omega, r2, r3, r4, fun y y1 y2 => ?_⟩
      by_cases f : y = x + 1
      · rw [f]; exact e
      · exact r5 y (by omega) y2
theorem py_lc0 {c : ps_Cf} {m : Nat} (hm : m < 2) (gc gl : Int32) (bD bA bB bR bU : Nat → Int32) (post : Int32 → SY → Prop)
    (h : ∀ gp bC bO bS bW, (∀ j, j < 2 → j ≠ m → bC j = nI (ps_C c j)) → post (-1000) (gc, gp, gl, bD, bA, upd bC m (nI (ps_C c m)), bB, bR, bU, bO, bS, bW)) :
    ∀ (x : Nat) (gp : Int32) (bC bO bS bW : Nat → Int32), x ≤ 8 → (∀ j, j < 2 → j ≠ m → bC j = nI (ps_C c j)) → wY_leastCapacity_33 post (nI m) (-1000) (nI (ps_C c m)) (x + 1) (-1000) (nI x) gc gp gl bD bA bC bB bR bU bO bS bW := by
  intro x
  induction x with
  | zero =>
    intro gp bC bO bS bW _ hbC
    exact br_t (by decide) ⟨vp_in_nI (by omega) (by omega), nm_r (e' := upd bC m (nI (ps_C c m))) (by rw [nI_clamp (by omega)]) (h gp bC bO bS bW hbC)⟩
  | succ x ih =>
    intro gp bC bO bS bW hx hbC
    have hbC2 : ∀ j, j < 2 → j ≠ m → upd bC m (nI (x + 1)) j = nI (ps_C c j) := fun j hj hn => by rw [pk_un hn]; exact hbC j hj hn
    exact br_f (nI_nle (by omega) (by omega)) ⟨vp_in_nI (by omega) (by omega), nm_r (e' := upd bC m (nI (x + 1))) (by rw [nI_clamp (by omega)]) (br_t rfl (nm_r (pk_m1 x) (ih gp _ bO bS bW (by omega) hbC2)))⟩
theorem i_vc_leastCapacity {k : Nat} {u : SX} {v : SY} (I : i_Rel k u v) (hk : k + 4 ≤ 2048) (v1 : Int32) : wpX_leastCapacity (fun r u' => wpY_leastCapacity (fun r' v' => r' = r ∧ i_Rel (k + 4) u' v') v v1) u v1 := by
  obtain ⟨fc, fl, ft, aD, aR, aU, aA, aC, aB, aO, aE, aS, aL⟩ := u
  obtain ⟨gc, gp, gl, bD, bA, bC, bB, bR, bU, bO, bS, bW⟩ := v
  obtain ⟨c, hG, hX, hY⟩ := I
  have hg := ps_G9_gd hG
  have g1 := hG.1
  have hXc : ps_Xc c fc aD aR aU aA aC aB := hX
  have hYc : ps_Yc c gc gl bD bA bC bB bR bU := hY
  unfold wpX_leastCapacity wpY_leastCapacity
  dsimp only
  rcases ps_tc v1 (n := 2) (by omega) with hb | ⟨m, hm, rfl⟩
  · rcases hb with a | ⟨a1, a2, a3⟩
    · exact br_t a (br_t rfl (br_t a ⟨rfl, c, hG, hX, hY⟩))
    · have a4 : ¬ v1 ≤ 1 := Int32.not_le.mpr (Int32.lt_of_lt_of_le (show (1 : Int32) < nI 2 from by decide) a2)
      exact br_f a1 (br_t a2 (br_t rfl (br_f a1 (br_f a4 ⟨rfl, c, hG, hX, hY⟩))))
  · have a1 : ¬ nI m < 0 := nI_pos (by omega)
    have a2 : ¬ 2 ≤ nI m := nI_ge (b := 2) hm (by omega)
    have a3 : nI m ≤ 1 := nI_le (b := 1) (by omega) (by omega)
    have hC := (hG.2.2.1 m hm).1
    have backX : ∀ aC', (∀ j, j < 2 → j ≠ m → aC' j = nI (ps_C c j)) → ∀ x, ps_Xc (ps_cK c m x) fc aD aR aU aA (upd aC' m (nI x)) aB := by
      intro aC' haC x
      refine ⟨hXc.1, hXc.2.1, hXc.2.2.1, fun j hj => ?_, hXc.2.2.2.2⟩
      exact ps_upd rfl (fun e => haC j hj e)
    have backY : ∀ bC', (∀ j, j < 2 → j ≠ m → bC' j = nI (ps_C c j)) → ∀ x, ps_Yc (ps_cK c m x) gc gl bD bA (upd bC' m (nI x)) bB bR bU := by
      intro bC' hbC x
      refine ⟨hYc.1, hYc.2.1, hYc.2.2.1, hYc.2.2.2.1, fun j hj => ?_, hYc.2.2.2.2.2⟩
      exact ps_upd rfl (fun e => hbC j hj e)
    have backX0 : ∀ aC', (∀ j, j < 2 → j ≠ m → aC' j = nI (ps_C c j)) → ps_Xc c fc aD aR aU aA (upd aC' m (nI (ps_C c m))) aB := by
      intro aC' haC
      have := backX aC' haC (ps_C c m)
      rw [ps_cKK] at this
      exact this
    have backY0 : ∀ bC', (∀ j, j < 2 → j ≠ m → bC' j = nI (ps_C c j)) → ps_Yc c gc gl bD bA (upd bC' m (nI (ps_C c m))) bB bR bU := by
      intro bC' hbC
      have := backY bC' hbC (ps_C c m)
      rw [ps_cKK] at this
      exact this
    refine br_f a1 (br_f a2 (br_f (by decide) ?_))
    refine px_feas hg fc fl ft aD aR aU aA aC aB aO aE aS aL hX _ (fun hf => br_f (by decide) ?_) (fun hf => br_t rfl ?_)
    · refine px_short hg hG.2.2.2.1 fc fl ft aD aR aU aA aC aB aO aE aS aL hX _ (fun fl ft aO aE aS aL => ⟨vp_in_nI (by omega) (by omega), nm_r (e' := nI (ps_C c m)) (by rw [nI_clamp (by omega)]; exact hXc.2.2.2.1 m hm) ⟨ps_C c m - 1 + 1, ?_⟩⟩)
      refine px_lc hg hG.2.2.2.1 hm hC fc aD aR aU aA aB _ backX (fun r hr fl ft aC' aO aE aS aL haC => ?_) (ps_C c m - 1) 1 fl ft aC aO aE aS aL (by omega) (by omega) (fun j hj _ => hXc.2.2.2.1 j hj) (fun y y1 y2 => by omega)
      refine br_f a1 (br_t a3 ?_)
      refine py_short hg gc gp gl bD bA bC bB bR bU bO bS bW hY _ (fun gp bO bS bW => ⟨vp_in_nI (by omega) (by omega), nm_r (e' := nI (ps_C c m)) (by rw [nI_clamp (by omega)]; exact hYc.2.2.2.2.1 m hm) ⟨9, ?_⟩⟩)
      refine py_lc hg hf hm hC gc gl bD bA bB bR bU _ backY (fun r' hr' gp bC' bO bS bW hbC => ⟨by rw [ps_lc_u hr hr'], c, hG, backX0 aC' haC, backY0 bC' hbC⟩) 8 (-1000) gp bC bO bS bW (by omega) (fun j hj _ => hYc.2.2.2.2.1 j hj) (Or.inl (hG.2.2.1 m hm).2)
    · refine br_f a1 (br_t a3 ?_)
      refine py_short hg gc gp gl bD bA bC bB bR bU bO bS bW hY _ (fun gp bO bS bW => ⟨vp_in_nI (by omega) (by omega), nm_r (e' := nI (ps_C c m)) (by rw [nI_clamp (by omega)]; exact hYc.2.2.2.2.1 m hm) ⟨9, ?_⟩⟩)
      rw [ps_sh_f hf, show ps_i (-1000) = -1000 from by decide]
      exact py_lc0 hm gc gl bD bA bB bR bU _ (fun gp bC' bO bS bW hbC => ⟨rfl, c, hG, hX, backY0 bC' hbC⟩) 8 gp bC bO bS bW (by omega) (fun j hj _ => hYc.2.2.2.2.1 j hj)
end
section
def ps_cD (c : ps_Cf) (t : Nat) : ps_Cf := (ps_n c, ps_up (ps_D c) t (ps_D c t + 1), ps_R c, ps_U c, ps_A c, ps_C c, ps_B c, ps_l c)
theorem ps_cD_gd {c : ps_Cf} (hG : ps_G9 c) {t : Nat} (ht : t < ps_n c) : ps_gd (ps_cD c t) := by
  have hg := ps_G9_gd hG
  obtain ⟨g1, g2, g3, g4, g5⟩ := hG
  refine ⟨g1, fun j hj => ?_, ?_, hg.2.2.2.1, hg.2.2.2.2⟩
  · have h1 := g2 j hj
    have h2 := g2 t ht
    show 1 ≤ ps_up (ps_D c) t (ps_D c t + 1) j ∧ ps_up (ps_D c) t (ps_D c t + 1) j ≤ 10 ∧ ps_R c j ≤ 20 ∧ ps_U c j ≤ 99 ∧ ps_A c 0 j ≤ 4 ∧ ps_A c 1 j ≤ 4
    by_cases e : j = t
    · subst e; rw [ps_up_s]; omega
    · rw [ps_up_n e]; omega
  · show ps_sum (ps_up (ps_D c) t (ps_D c t + 1)) (ps_n c) ≤ 55
    have h1 := ps_sum_const (f := ps_D c) (n := ps_n c) (d := 9) (fun t ht => (g2 t ht).2.1)
    rw [ps_sum_add (f := ps_D c) (d := 1) ht (fun j _ hj => ps_up_n hj) ps_up_s]
    omega
noncomputable def ps_cr (c : ps_Cf) : Nat → Nat
  | 0 => 0
  | t + 1 => if ps_sh (ps_cD c t) ≤ ps_sh c then ps_cr c t else ps_cr c t + 1
theorem px_cr {c : ps_Cf} (hG : ps_G9 c) (fc : Int32) (aR aU aA aC aB : Nat → Int32) (post : Int32 → SX → Prop)
    (h : ∀ fl ft aD aO aE aS aL, ps_Xc c fc aD aR aU aA aC aB → post (nI (ps_cr c (ps_n c))) (fc, fl, ft, aD, aR, aU, aA, aC, aB, aO, aE, aS, aL)) :
    ∀ (d t : Nat) (fl ft : Int32) (aD aO aE aS aL : Nat → Int32), t + d = ps_n c → ps_Xc c fc aD aR aU aA aC aB → wX_critical_20 post (ps_i (ps_sh c)) (d + 1) (nI (ps_cr c t)) (nI t) fc fl ft aD aR aU aA aC aB aO aE aS aL := by
  have hg := ps_G9_gd hG
  have hn := hG.1
  have hsc := ps_sh_b hg
  intro d
  induction d with
  | zero =>
    intro t fl ft aD aO aE aS aL ht hX
    have et : t = ps_n c := by omega
    subst et
    exact br_t (by rw [hX.1]; exact nI_le (by omega) (by omega)) (h fl ft aD aO aE aS aL hX)
  | succ d ih =>
    intro t fl ft aD aO aE aS aL ht hX
    have hgt := ps_cD_gd hG (t := t) (by omega)
    have hst := ps_sh_b hgt
    have hX2 : ps_Xc (ps_cD c t) fc (upd aD t (nI (ps_D c t + 1))) aR aU aA aC aB := ⟨hX.1, fun j hj => ⟨ps_upd rfl (fun _ => (hX.2.1 j hj).1), (hX.2.1 j hj).2⟩, hX.2.2⟩
    have hX3 : ps_Xc c fc (upd (upd aD t (nI (ps_D c t + 1))) t (nI (ps_D c t))) aR aU aA aC aB := by
      refine ⟨hX.1, fun j hj => ⟨?_, (hX.2.1 j hj).2⟩, hX.2.2⟩
      by_cases e : j = t
      · rw [e, pk_us]
      · rw [pk_un e, pk_un e]; exact (hX.2.1 j hj).1
    refine br_f (by rw [hX.1]; exact nI_ge (by omega) (by omega)) ⟨vp_in_nI (by omega) (by omega), nm_r (e' := nI (ps_D c t)) (by rw [nI_clamp (by omega)]; exact (hX.2.1 t (by omega)).1) ⟨vp_in_nI (by omega) (by omega), nm_r (e' := upd aD t (nI (ps_D c t + 1))) (by rw [nI_clamp (by omega), nI_1]) ?_⟩⟩
    refine px_short hgt hG.2.2.2.1 fc fl ft (upd aD t (nI (ps_D c t + 1))) aR aU aA aC aB aO aE aS aL hX2 _ (fun fl ft aO aE aS aL => ?_)
    refine ⟨vp_in_nI (by omega) (by omega), nm_r (e' := upd (upd aD t (nI (ps_D c t + 1))) t (nI (ps_D c t))) (by rw [nI_clamp (by omega)]) ?_⟩
    have ih' := ih (t + 1) fl ft _ aO aE aS aL (by omega) hX3
    rw [ps_cr] at ih'
    refine ps_cle (ps_sh (ps_cD c t)) (ps_sh c) (fun y => nm_r (nI_1 t) ?_) (fun y => nm_r (nI_1 _) (nm_r (nI_1 t) ?_)) rfl rfl (by omega) (by omega) (by omega) (by omega)
    · rw [if_pos y] at ih'
      exact ih'
    · rw [if_neg (by omega)] at ih'
      exact ih'
theorem py_cr {c : ps_Cf} (hG : ps_G9 c) (gc gl : Int32) (bA bC bB bR bU : Nat → Int32) (post : Int32 → SY → Prop)
    (h : ∀ gp bD bO bS bW, ps_Yc c gc gl bD bA bC bB bR bU → post (nI (ps_cr c (ps_n c))) (gc, gp, gl, bD, bA, bC, bB, bR, bU, bO, bS, bW)) :
    ∀ (d t : Nat) (gp : Int32) (bD bO bS bW : Nat → Int32), t + d = ps_n c → ps_Yc c gc gl bD bA bC bB bR bU → wY_critical_20 post (ps_i (ps_sh c)) (d + 1) (nI (ps_cr c t)) (nI t) gc gp gl bD bA bC bB bR bU bO bS bW := by
  have hg := ps_G9_gd hG
  have hn := hG.1
  have hsc := ps_sh_b hg
  intro d
  induction d with
  | zero =>
    intro t gp bD bO bS bW ht hY
    have et : t = ps_n c := by omega
    subst et
    exact br_t (by rw [hY.1]; exact nI_le (by omega) (by omega)) (h gp bD bO bS bW hY)
  | succ d ih =>
    intro t gp bD bO bS bW ht hY
    have hgt := ps_cD_gd hG (t := t) (by omega)
    have hst := ps_sh_b hgt
    have hY2 : ps_Yc (ps_cD c t) gc gl (upd bD t (nI (ps_D c t + 1))) bA bC bB bR bU := ⟨hY.1, hY.2.1, fun j hj => ⟨ps_upd rfl (fun _ => (hY.2.2.1 j hj).1), (hY.2.2.1 j hj).2⟩, hY.2.2.2⟩
    have hY3 : ps_Yc c gc gl (upd (upd bD t (nI (ps_D c t + 1))) t (nI (ps_D c t))) bA bC bB bR bU := by
      refine ⟨hY.1, hY.2.1, fun j hj => ⟨?_, (hY.2.2.1 j hj).2⟩, hY.2.2.2⟩
      by_cases e : j = t
      · rw [e, pk_us]
      · rw [pk_un e, pk_un e]; exact (hY.2.2.1 j hj).1
    refine br_f (by rw [hY.1]; exact nI_ge (by omega) (by omega)) ⟨vp_in_nI (by omega) (by omega), vp_in_nI (by omega) (by omega), nm_r (e' := upd bD t (nI (ps_D c t + 1))) (by rw [nI_clamp (by omega), (hY.2.2.1 t (by omega)).1, nI_1]) ?_⟩
    refine py_short hgt gc gp gl (upd bD t (nI (ps_D c t + 1))) bA bC bB bR bU bO bS bW hY2 _ (fun gp bO bS bW => ?_)
    have ih' := ih (t + 1) gp _ bO bS bW (by omega) hY3
    rw [ps_cr] at ih'
    have e3 : upd (upd bD t (nI (ps_D c t + 1))) (nI t).toNatClampNeg (upd bD t (nI (ps_D c t + 1)) (nI t).toNatClampNeg - 1) = upd (upd bD t (nI (ps_D c t + 1))) t (nI (ps_D c t)) := by
      rw [nI_clamp (by omega), pk_us, nI_pred]
    refine ps_cle (ps_sh (ps_cD c t)) (ps_sh c) (fun y => ⟨vp_in_nI (by omega) (by omega), vp_in_nI (by omega) (by omega), nm_r e3 (nm_r (nI_1 t) ?_)⟩) (fun y => nm_r (nI_1 _) ⟨vp_in_nI (by omega) (by omega), vp_in_nI (by omega) (by omega), nm_r e3 (nm_r (nI_1 t) ?_)⟩) rfl rfl (by omega) (by omega) (by omega) (by omega)
    · rw [if_pos y] at ih'
      exact ih'
    · rw [if_neg (by omega)] at ih'
      exact ih'
theorem i_vc_critical {k : Nat} {u : SX} {v : SY} (I : i_Rel k u v) (hk : k + 4 ≤ 2048) : wpX_critical (fun r u' => wpY_critical (fun r' v' => r' = r ∧ i_Rel (k + 4) u' v') v) u := by
  obtain ⟨fc, fl, ft, aD, aR, aU, aA, aC, aB, aO, aE, aS, aL⟩ := u
  obtain ⟨gc, gp, gl, bD, bA, bC, bB, bR, bU, bO, bS, bW⟩ := v
  obtain ⟨c, hG, hX, hY⟩ := I
  have hg := ps_G9_gd hG
  unfold wpX_critical wpY_critical
  dsimp only
  refine px_feas hg fc fl ft aD aR aU aA aC aB aO aE aS aL hX _ (fun hf => br_f (by decide) ?_) (fun hf => br_t rfl ?_)
  · have hs := ps_sh_in hg hf
    refine px_short hg hG.2.2.2.1 fc fl ft aD aR aU aA aC aB aO aE aS aL hX _ (fun fl ft aO aE aS aL => ⟨ps_n c + 1, ?_⟩)
    refine px_cr hG fc aR aU aA aC aB _ (fun fl ft aD' aO aE aS aL hX' => ?_) (ps_n c) 0 fl ft aD aO aE aS aL (by omega) hX
    refine py_short hg gc gp gl bD bA bC bB bR bU bO bS bW hY _ (fun gp bO bS bW => ?_)
    refine br_f (by rw [show (-1000 : Int32) = ps_i (-1000) from by decide, ps_i_eq (by omega) (by omega) (by omega) (by omega)]; omega) ⟨ps_n c + 1, ?_⟩
    exact py_cr hG gc gl bA bC bB bR bU _ (fun gp bD' bO bS bW hY' => ⟨rfl, c, hG, hX', hY'⟩) (ps_n c) 0 gp bD bO bS bW (by omega) hY
  · refine py_short hg gc gp gl bD bA bC bB bR bU bO bS bW hY _ (fun gp bO bS bW => ?_)
    exact br_t (by rw [ps_sh_f hf]; decide) ⟨rfl, c, hG, hX, hY⟩
end
