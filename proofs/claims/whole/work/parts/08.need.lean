/-! how many sets make a space: the pure side -/
theorem pk_loop {σ : Type} (W : Nat → Nat → σ → Prop) (I : Nat → σ → Prop) (e i0 : Nat) (s : σ) (hi : i0 ≤ e) (h0 : I i0 s) (hx : ∀ n s, I e s → W (n + 1) e s)
    (hs : ∀ n i s, i < e → I i s → (∀ s', I (i + 1) s' → W n (i + 1) s') → W (n + 1) i s) : ∃ n, W n i0 s :=
  ⟨e + 1, loop_i W I e hx hs (e + 1) i0 s hi (by omega) h0⟩
def nd_ch (a : Nat) : Nat := if a = 0 then 0 else 1
def nd_I (g : Nat → Nat → Prop) (R : Nat → Nat → Nat → Prop) (c d v : Nat) : Prop := v ≤ 5 ∧ (∀ a b, a ≤ b → b < 32 → (a < c ∨ (a = c ∧ b < d)) → g a b → ∃ n, R a b n ∧ v ≤ n) ∧ (v < 5 → ∃ a b, a < 32 ∧ b < 32 ∧ g a b ∧ R a b v)
theorem nd_init (g : Nat → Nat → Prop) (R : Nat → Nat → Nat → Prop) : nd_I g R 0 0 5 :=
  ⟨by omega, fun a b _ _ h => absurd h (by omega), fun h => absurd h (by omega)⟩
theorem nd_skip {g : Nat → Nat → Prop} {R : Nat → Nat → Nat → Prop} {c d v : Nat} (h : nd_I g R c d v) (q : ¬ g c d) : nd_I g R c (d + 1) v := by
  refine ⟨h.1, fun a b h1 h2 h3 h4 => h.2.1 a b h1 h2 ?_ h4, h.2.2⟩
  rcases h3 with h3 | ⟨h3, h5⟩
  · exact Or.inl h3
  · by_cases z : b = d
    · subst h3; subst z; exact absurd h4 q
    · exact Or.inr ⟨h3, by omega⟩
theorem nd_keep {g : Nat → Nat → Prop} {R : Nat → Nat → Nat → Prop} {c d v n : Nat} (h : nd_I g R c d v) (r : R c d n) (q : v ≤ n) : nd_I g R c (d + 1) v := by
  refine ⟨h.1, fun a b h1 h2 h3 h4 => ?_, h.2.2⟩
  by_cases z : a = c ∧ b = d
  · obtain ⟨rfl, rfl⟩ := z
    exact ⟨n, r, q⟩
  · exact h.2.1 a b h1 h2 (by omega) h4
theorem nd_take {g : Nat → Nat → Prop} {R : Nat → Nat → Nat → Prop} {c d v n : Nat} (h : nd_I g R c d v) (hc : c < 32) (hd : d < 32) (gg : g c d) (r : R c d n) (q : n < v) : nd_I g R c (d + 1) n := by
  refine ⟨by have := h.1; omega, fun a b h1 h2 h3 h4 => ?_, fun _ => ⟨c, d, hc, hd, gg, r⟩⟩
  by_cases z : a = c ∧ b = d
  · obtain ⟨rfl, rfl⟩ := z
    exact ⟨n, r, by omega⟩
  · obtain ⟨m, hm, hv⟩ := h.2.1 a b h1 h2 (by omega) h4
    exact ⟨m, hm, by omega⟩
theorem nd_next {g : Nat → Nat → Prop} {R : Nat → Nat → Nat → Prop} {c v : Nat} (h : nd_I g R c 32 v) : nd_I g R (c + 1) (c + 1) v :=
  ⟨h.1, fun a b h1 h2 h3 h4 => h.2.1 a b h1 h2 (by omega) h4, h.2.2⟩
/-- what a walk over all pairs finds -/
def nd_E (g : Nat → Nat → Prop) (R : Nat → Nat → Nat → Prop) (v : Nat) : Prop := v ≤ 5 ∧ (∀ a b, a ≤ b → b < 32 → g a b → ∃ n, R a b n ∧ v ≤ n) ∧ (v < 5 → ∃ a b, a < 32 ∧ b < 32 ∧ g a b ∧ R a b v)
theorem nd_end {g : Nat → Nat → Prop} {R : Nat → Nat → Nat → Prop} {v : Nat} (h : nd_I g R 32 32 v) : nd_E g R v :=
  ⟨h.1, fun a b h1 h2 h3 => h.2.1 a b h1 h2 (by omega) h3, h.2.2⟩
/-! covers -/
def nd_al (F : Int32) : Nat := ps_O 0 (bt F) pv_sp 32
theorem nd_spt : ∀ V, V < 32 → ∀ i, i < 32 → (pv_sp V).testBit i = (decide (i < 25) && (V.testBit (i / 5) && !V.testBit (i % 5))) := by decide +kernel
def nd_cov (F : Int32) (L : List Nat) : Prop := ∀ x y, x < 5 → y < 5 → tp_S F x y → ∃ s, s ∈ L ∧ s.testBit x = true ∧ s.testBit y = false
def nd_Q (F : Int32) (k : Nat) : Prop := ∃ L : List Nat, L.length ≤ k ∧ (∀ s, s ∈ L → s < 32 ∧ bt F s = true) ∧ nd_cov F L
theorem nd_alt (F : Int32) {i : Nat} (hi : i < 32) : (nd_al F).testBit i = true ↔ i < 25 ∧ tp_S F (i / 5) (i % 5) := by
  unfold nd_al
  rw [ps_Ot]
  constructor
  · rintro (q | ⟨V, hV, a, b⟩)
    · rw [Nat.zero_testBit] at q; exact absurd q (by decide)
    · rw [nd_spt V hV i hi, Bool.and_eq_true, Bool.and_eq_true, decide_eq_true_iff] at b
      exact ⟨b.1, V, hV, a, b.2.1, by have := b.2.2; cases z : V.testBit (i % 5); rfl; rw [z] at this; exact absurd this (by decide)⟩
  · rintro ⟨h, V, hV, a, b, c⟩
    refine Or.inr ⟨V, hV, a, ?_⟩
    rw [nd_spt V hV i hi, decide_eq_true h, b, c]; rfl
/-- covering by bits is covering by points -/
theorem nd_covI {F : Int32} {L : List Nat} (hL : ∀ s, s ∈ L → s < 32) : nd_cov F L ↔ ∀ i, i < 32 → (nd_al F).testBit i = true → ∃ s, s ∈ L ∧ (pv_sp s).testBit i = true := by
  constructor
  · intro h i hi a
    obtain ⟨h1, h2⟩ := (nd_alt F hi).mp a
    obtain ⟨s, hs, p, q⟩ := h (i / 5) (i % 5) (by omega) (by omega) h2
    exact ⟨s, hs, by rw [nd_spt s (hL s hs) i hi, decide_eq_true h1, p, q]; rfl⟩
  · intro h x y hx hy a
    have e1 : (5 * x + y) / 5 = x := by omega
    have e2 : (5 * x + y) % 5 = y := by omega
    obtain ⟨s, hs, b⟩ := h (5 * x + y) (by omega) ((nd_alt F (by omega)).mpr ⟨by omega, by rw [e1, e2]; exact a⟩)
    rw [nd_spt s (hL s hs) _ (by omega), e1, e2, Bool.and_eq_true, Bool.and_eq_true] at b
    exact ⟨s, hs, b.2.1, by have := b.2.2; cases z : s.testBit y; rfl; rw [z] at this; exact absurd this (by decide)⟩
theorem nd_Q5 {F : Int32} (hT : tp_T F) : nd_Q F 5 := by
  refine ⟨(List.range 5).map (pv_lw F), by simp, ?_, ?_⟩
  · intro s hs
    obtain ⟨x, _, rfl⟩ := List.mem_map.mp hs
    exact ⟨pv_lw_lt F x, tp_lwT hT x⟩
  · intro x y hx hy a
    refine ⟨pv_lw F x, List.mem_map.mpr ⟨x, List.mem_range.mpr hx, rfl⟩, (tp_lw F x x).mpr ⟨hx, ?_⟩, tb_f (fun q => ((tp_lw F x y).mp q).2 a)⟩
    rintro ⟨U, _, _, p, q⟩
    rw [p] at q; exact absurd q (by decide)
/-! the search of the reference -/
def nd_gd (F : Int32) : Nat → Nat → Int32 → Prop
  | 0, m, G => m = 0 ∧ G = F
  | r + 1, m, G => (m = 0 ∧ G = F) ∨ (0 < m ∧ ((bt F (30 - r) = true ∧ nd_gd F r (m - 1) (nI (pv_with G (30 - r)))) ∨ nd_gd F r m G))
def nd_w : Nat → Nat → Nat
  | 0, _ => 1
  | _ + 1, 0 => 1
  | r + 1, m + 1 => 1 + nd_w r m + nd_w r (m + 1)
theorem nd_w1 (r m : Nat) : 1 ≤ nd_w r m := by
  cases r
  · exact Nat.le_refl _
  · cases m
    · exact Nat.le_refl _
    · show 1 ≤ 1 + _ + _; omega
theorem nd_w30 : nd_w 30 0 ≤ 2000000 ∧ nd_w 30 1 ≤ 2000000 ∧ nd_w 30 2 ≤ 2000000 ∧ nd_w 30 3 ≤ 2000000 ∧ nd_w 30 4 ≤ 2000000 ∧ nd_w 30 5 ≤ 2000000 := by decide +kernel
theorem nd_w5 {k : Nat} (h : k ≤ 5) : nd_w 30 k ≤ 2000000 := by
  rcases (by omega : k = 0 ∨ k = 1 ∨ k = 2 ∨ k = 3 ∨ k = 4 ∨ k = 5) with rfl | rfl | rfl | rfl | rfl | rfl
  · exact nd_w30.1
  · exact nd_w30.2.1
  · exact nd_w30.2.2.1
  · exact nd_w30.2.2.2.1
  · exact nd_w30.2.2.2.2.1
  · exact nd_w30.2.2.2.2.2
theorem nd_gd0 {F G : Int32} {r : Nat} : nd_gd F r 0 G ↔ G = F := by
  cases r
  · exact ⟨fun h => h.2, fun h => ⟨rfl, h⟩⟩
  · constructor
    · rintro (h | ⟨h, _⟩)
      · exact h.2
      · exact absurd h (by omega)
    · intro h; exact Or.inl ⟨rfl, h⟩
theorem nd_gdS {F G : Int32} {r m : Nat} : nd_gd F (r + 1) (m + 1) G ↔ (bt F (30 - r) = true ∧ nd_gd F r m (nI (pv_with G (30 - r)))) ∨ nd_gd F r (m + 1) G := by
  constructor
  · rintro (h | ⟨_, h⟩)
    · exact absurd h.1 (by omega)
    · exact h
  · intro h; exact Or.inr ⟨by omega, h⟩
theorem nd_gdZ {F G : Int32} {m : Nat} : ¬ nd_gd F 0 (m + 1) G := fun h => absurd h.1 (by omega)
theorem nd_gdL {F : Int32} : ∀ r m G, tp_T G → nd_gd F r m G → ∃ L : List Nat, L.length = m ∧ (∀ s, s ∈ L → s < 32 ∧ bt F s = true) ∧ ∀ x y, tp_S F x y → tp_S G x y ∨ ∃ s, s ∈ L ∧ s.testBit x = true ∧ s.testBit y = false := by
  intro r
  induction r with
  | zero =>
    intro m G hG h
    obtain ⟨rfl, rfl⟩ := h
    exact ⟨[], rfl, fun s hs => absurd hs (by simp), fun x y a => Or.inl a⟩
  | succ r ih =>
    intro m G hG h
    cases m with
    | zero =>
      obtain rfl := nd_gd0.mp h
      exact ⟨[], rfl, fun s hs => absurd hs (by simp), fun x y a => Or.inl a⟩
    | succ m =>
      rcases nd_gdS.mp h with ⟨a, b⟩ | b
      · obtain ⟨L, h1, h2, h3⟩ := ih m _ (tp_withT hG _) b
        refine ⟨(30 - r) :: L, by rw [List.length_cons, h1], ?_, ?_⟩
        · intro s hs
          rcases List.mem_cons.mp hs with rfl | hs
          · exact ⟨by omega, a⟩
          · exact h2 s hs
        · intro x y q
          rcases h3 x y q with z | ⟨s, hs, z⟩
          · rcases (tp_withS hG (by omega) x y).mp z with z | z
            · exact Or.inl z
            · exact Or.inr ⟨30 - r, List.mem_cons_self, z⟩
          · exact Or.inr ⟨s, List.mem_cons_of_mem _ hs, z⟩
      · exact ih (m + 1) G hG b
theorem nd_plainS {x y : Nat} (hy : y < 5) : ¬ tp_S (-2147483647) x y := by
  rintro ⟨V, hV, a, b, c⟩
  rw [tp_plainB V hV, decide_eq_true_iff] at a
  rcases a with rfl | rfl
  · rw [Nat.zero_testBit] at b; exact absurd b (by decide)
  · rw [tb_31, decide_eq_true hy] at c; exact absurd c (by decide)
theorem nd_gdQ {F : Int32} {k : Nat} (h : nd_gd F 30 k (-2147483647)) : nd_Q F k := by
  obtain ⟨L, h1, h2, h3⟩ := nd_gdL 30 k _ tp_plain h
  refine ⟨L, by omega, h2, fun x y hx hy a => ?_⟩
  rcases h3 x y a with z | z
  · exact absurd z (nd_plainS hy)
  · exact z
theorem nd_flt (L : List Nat) (s : Nat) (h : s ∈ L) : (L.filter (fun t => decide (¬ t = s))).length + 1 ≤ L.length := by
  induction L with
  | nil => exact absurd h (by simp)
  | cons a L ih =>
    have hl : (L.filter (fun t => decide (¬ t = s))).length ≤ L.length := List.length_filter_le _ _
    by_cases q : a = s
    · rw [List.filter_cons_of_neg (by simp [q]), List.length_cons]
      omega
    · rw [List.filter_cons_of_pos (by simp [q]), List.length_cons, List.length_cons]
      have := ih (by rcases List.mem_cons.mp h with rfl | h; exact absurd rfl q; exact h)
      omega
theorem nd_find {F : Int32} (hF : tp_T F) : ∀ r, r ≤ 30 → ∀ (G : Int32) (L : List Nat), tp_T G → (∀ x y, tp_S G x y → tp_S F x y) → (∀ s, s ∈ L → 30 - r < s ∧ s ≤ 30 ∧ bt F s = true) → (∀ x y, x < 5 → y < 5 → tp_S F x y → tp_S G x y ∨ ∃ s, s ∈ L ∧ s.testBit x = true ∧ s.testBit y = false) → ∃ j, j ≤ L.length ∧ nd_gd F r j G := by
  intro r
  induction r with
  | zero =>
    intro _ G L hG hs hL hc
    refine ⟨0, by omega, nd_gd0.mpr (tp_eq hG hF fun x y hx hy => ⟨hs x y, fun a => ?_⟩)⟩
    rcases hc x y hx hy a with z | ⟨s, h1, _⟩
    · exact z
    · have := hL s h1; omega
  | succ r ih =>
    intro hr G L hG hs hL hc
    by_cases q : (30 - r) ∈ L
    · have hq := hL _ q
      obtain ⟨j, hj, h⟩ := ih (by omega) (nI (pv_with G (30 - r))) (L.filter (fun t => decide (¬ t = 30 - r))) (tp_withT hG _) (by
        intro x y a
        rcases (tp_withS hG (by omega) x y).mp a with z | z
        · exact hs x y z
        · exact ⟨30 - r, by omega, hq.2.2, z⟩) (by
        intro s h1
        obtain ⟨h1, h2⟩ := List.mem_filter.mp h1
        have h3 := hL s h1
        have h4 : ¬ s = 30 - r := by simpa using h2
        exact ⟨by omega, h3.2⟩) (by
        intro x y hx hy a
        rw [tp_withS hG (by omega)]
        rcases hc x y hx hy a with z | ⟨s, h1, h2⟩
        · exact Or.inl (Or.inl z)
        · by_cases e : s = 30 - r
          · subst e; exact Or.inl (Or.inr h2)
          · exact Or.inr ⟨s, List.mem_filter.mpr ⟨h1, by simpa using e⟩, h2⟩)
      have := nd_flt L _ q
      exact ⟨j + 1, by omega, nd_gdS.mpr (Or.inl ⟨hq.2.2, h⟩)⟩
    · obtain ⟨j, hj, h⟩ := ih (by omega) G L hG hs (by
        intro s h1
        have h3 := hL s h1
        have h4 : ¬ s = 30 - r := fun e => q (by rw [← e]; exact h1)
        exact ⟨by omega, h3.2⟩) hc
      refine ⟨j, hj, ?_⟩
      cases j with
      | zero => exact nd_gd0.mpr (nd_gd0.mp h)
      | succ j => exact nd_gdS.mpr (Or.inr h)
theorem nd_Qgd {F : Int32} (hF : tp_T F) {k : Nat} (h : nd_Q F k) : ∃ j, j ≤ k ∧ nd_gd F 30 j (-2147483647) := by
  obtain ⟨L, h1, h2, h3⟩ := h
  obtain ⟨j, hj, g⟩ := nd_find hF 30 (by omega) (-2147483647) (L.filter (fun t => decide (0 < t ∧ t < 31))) tp_plain (by
    rintro x y ⟨V, hV, a, b, c⟩
    rw [tp_plainB V hV, decide_eq_true_iff] at a
    rcases a with rfl | rfl
    · exact ⟨0, hV, hF.1, b, c⟩
    · exact ⟨31, hV, hF.2.1, b, c⟩) (by
    intro s hs
    obtain ⟨a, b⟩ := List.mem_filter.mp hs
    have b2 : 0 < s ∧ s < 31 := by simpa using b
    exact ⟨by omega, by omega, (h2 s a).2⟩) (by
    intro x y hx hy a
    obtain ⟨s, hs, p, q⟩ := h3 x y hx hy a
    refine Or.inr ⟨s, List.mem_filter.mpr ⟨hs, ?_⟩, p, q⟩
    have k := (h2 s hs).1
    have n0 : s ≠ 0 := by rintro rfl; rw [Nat.zero_testBit] at p; exact absurd p (by decide)
    have n1 : s ≠ 31 := by rintro rfl; rw [tb_31, decide_eq_true hy] at q; exact absurd q (by decide)
    exact decide_eq_true ⟨by omega, by omega⟩)
  have := List.length_filter_le (fun t => decide (0 < t ∧ t < 31)) L
  exact ⟨j, by omega, g⟩
/-- the least number that the search finds -/
theorem nd_least {F : Int32} (hF : tp_T F) : ∃ k, k ≤ 5 ∧ nd_gd F 30 k (-2147483647) ∧ ∀ j, j < k → ¬ nd_gd F 30 j (-2147483647) := by
  obtain ⟨j, hj, g⟩ := nd_Qgd hF (nd_Q5 hF)
  obtain ⟨k, h1, h2⟩ := pk_least (fun k => nd_gd F 30 k (-2147483647)) ⟨j, g⟩
  refine ⟨k, ?_, h1, h2⟩
  rcases Nat.lt_or_ge 5 k with q | q
  · exact absurd g (h2 j (by omega))
  · exact q
theorem nd_same {F : Int32} (hF : tp_T F) {k v : Nat} (hk : k ≤ 5) (g : nd_gd F 30 k (-2147483647)) (l : ∀ j, j < k → ¬ nd_gd F 30 j (-2147483647)) (v5 : v ≤ 5) (vQ : v < 5 → nd_Q F v) (vl : ∀ j, j < 5 → nd_Q F j → v ≤ j) : v = k := by
  have h1 : v ≤ k := by
    rcases Nat.lt_or_ge k 5 with q | q
    · exact vl k q (nd_gdQ g)
    · omega
  rcases Nat.lt_or_ge v k with q | q
  · obtain ⟨j, hj, gj⟩ := nd_Qgd hF (vQ (by omega))
    exact absurd gj (l j (by omega))
  · omega
