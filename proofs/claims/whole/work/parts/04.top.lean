/-! families of sets that are spaces -/
def tp_T (F : Int32) : Prop := bt F 0 = true ∧ bt F 31 = true ∧ ∀ a b, a < 32 → b < 32 → bt F a = true → bt F b = true → bt F (a ||| b) = true ∧ bt F (a &&& b) = true
/-- some set of F has x and not y -/
def tp_S (F : Int32) (x y : Nat) : Prop := ∃ V, V < 32 ∧ bt F V = true ∧ V.testBit x = true ∧ V.testBit y = false
theorem tb_lt {V x : Nat} (hV : V < 32) (h : V.testBit x = true) : x < 5 := by
  rcases Nat.lt_or_ge x 5 with q | q
  · exact q
  · rw [Nat.testBit_lt_two_pow (Nat.lt_of_lt_of_le hV (Nat.pow_le_pow_right (n := 2) (i := 5) (by decide) q))] at h
    exact absurd h (by decide)
theorem tb_31 (y : Nat) : (31 : Nat).testBit y = decide (y < 5) := Nat.testBit_two_pow_sub_one 5 y
theorem tb_f {b : Bool} (h : ¬ b = true) : b = false := by cases b; rfl; exact absurd rfl h
theorem tb_or {a b : Nat} (ha : a < 32) (hb : b < 32) : (a ||| b) < 32 := Nat.or_lt_two_pow (n := 5) ha hb
theorem tb_and {a b : Nat} (ha : a < 32) : (a &&& b) < 32 := Nat.lt_of_le_of_lt Nat.and_le_left ha
theorem tp_A {F : Int32} (hT : tp_T F) {b : Nat} {c : Nat → Bool} {f : Nat → Nat} {n : Nat} (hb : b < 32 ∧ bt F b = true) (hf : ∀ i, i < n → c i = true → f i < 32 ∧ bt F (f i) = true) : ps_A b c f n < 32 ∧ bt F (ps_A b c f n) = true := by
  induction n with
  | zero => exact hb
  | succ n ih =>
    have e : ps_A b c f (n + 1) = if c n then ps_A b c f n &&& f n else ps_A b c f n := rfl
    have i1 := ih (fun i hi => hf i (by omega))
    rw [e]
    cases z : c n
    · rw [if_neg (by decide)]; exact i1
    · rw [if_pos rfl]
      have i2 := hf n (by omega) z
      exact ⟨tb_and i1.1, (hT.2.2 _ _ i1.1 i2.1 i1.2 i2.2).2⟩
theorem tp_O {F : Int32} (hT : tp_T F) {b : Nat} {c : Nat → Bool} {f : Nat → Nat} {n : Nat} (hb : b < 32 ∧ bt F b = true) (hf : ∀ i, i < n → c i = true → f i < 32 ∧ bt F (f i) = true) : ps_O b c f n < 32 ∧ bt F (ps_O b c f n) = true := by
  induction n with
  | zero => exact hb
  | succ n ih =>
    have e : ps_O b c f (n + 1) = if c n then ps_O b c f n ||| f n else ps_O b c f n := rfl
    have i1 := ih (fun i hi => hf i (by omega))
    rw [e]
    cases z : c n
    · rw [if_neg (by decide)]; exact i1
    · rw [if_pos rfl]
      have i2 := hf n (by omega) z
      exact ⟨tb_or i1.1 i2.1, (hT.2.2 _ _ i1.1 i2.1 i1.2 i2.2).1⟩
theorem tp_lw (F : Int32) (x y : Nat) : (pv_lw F x).testBit y = true ↔ y < 5 ∧ ¬ tp_S F x y := by
  unfold pv_lw
  rw [ps_At, tb_31, decide_eq_true_iff]
  constructor
  · rintro ⟨h, g⟩
    refine ⟨h, ?_⟩
    rintro ⟨V, hV, a, b, c⟩
    have := g V hV (by rw [a, b]; rfl)
    rw [c] at this
    exact absurd this (by decide)
  · rintro ⟨h, g⟩
    refine ⟨h, fun V hV a => ?_⟩
    rw [Bool.and_eq_true] at a
    cases z : V.testBit y
    · exact absurd ⟨V, hV, a.1, a.2, z⟩ g
    · rfl
theorem tp_lwT {F : Int32} (hT : tp_T F) (x : Nat) : bt F (pv_lw F x) = true :=
  (tp_A hT ⟨by decide, hT.2.1⟩ (fun i hi h => ⟨hi, by rw [Bool.and_eq_true] at h; exact h.1⟩)).2
theorem ps_wn {a b : Nat} (ha : a < 32) (hb : b < 32) : ps_wi (nI a) (nI b) = true ↔ ∀ x, a.testBit x = true → b.testBit x = true := by
  rw [ps_wi_iff]
  constructor
  · intro h x q
    have hx := tb_lt ha q
    have := h x (by omega) (by rw [ps_bt a (by omega)]; exact q)
    rw [ps_bt b (by omega)] at this
    exact this
  · intro h i hi q
    rw [ps_bt a hi] at q
    rw [ps_bt b hi]
    exact h i q
theorem tp_hl (F : Int32) {V : Nat} (hV : V < 32) : pv_hl F V = true ↔ ∀ x y, x < 5 → y < 5 → V.testBit x = true → V.testBit y = false → tp_S F x y := by
  unfold pv_hl
  rw [ps_all_iff]
  constructor
  · intro h x y hx hy a b
    have h1 := h x hx
    rw [a, Bool.not_true, Bool.false_or, ps_wn (pv_lw_lt F x) hV] at h1
    rcases Classical.em (tp_S F x y) with q | q
    · exact q
    · have := h1 y ((tp_lw F x y).mpr ⟨hy, q⟩)
      rw [b] at this; exact absurd this (by decide)
  · intro h x hx
    cases a : V.testBit x
    · rfl
    · rw [Bool.not_true, Bool.false_or, ps_wn (pv_lw_lt F x) hV]
      intro y q
      have q2 := (tp_lw F x y).mp q
      cases b : V.testBit y
      · exact absurd (h x y hx q2.1 a b) q2.2
      · rfl
theorem tp_fix {F : Int32} (hT : tp_T F) {V : Nat} (hV : V < 32) : bt F V = true ↔ ∀ x y, x < 5 → y < 5 → V.testBit x = true → V.testBit y = false → tp_S F x y := by
  constructor
  · intro h x y _ _ a b
    exact ⟨V, hV, h, a, b⟩
  · intro h
    have e : ps_O 0 (fun x => V.testBit x) (pv_lw F) 5 = V := by
      apply Nat.eq_of_testBit_eq
      intro y
      apply ps_beq
      rw [ps_Ot]
      constructor
      · rintro (q | ⟨x, hx, a, q⟩)
        · rw [Nat.zero_testBit] at q; exact absurd q (by decide)
        · have q2 := (tp_lw F x y).mp q
          cases b : V.testBit y
          · exact absurd (h x y hx q2.1 a b) q2.2
          · rfl
      · intro q
        have hy := tb_lt hV q
        refine Or.inr ⟨y, hy, q, (tp_lw F y y).mpr ⟨hy, ?_⟩⟩
        rintro ⟨U, _, _, a, b⟩
        rw [a] at b; exact absurd b (by decide)
    have k := (tp_O hT (b := 0) (c := fun x => V.testBit x) (f := pv_lw F) (n := 5) ⟨by decide, hT.1⟩ (fun i hi _ => ⟨pv_lw_lt F i, tp_lwT hT i⟩)).2
    rw [e] at k
    exact k
theorem tp_eq {F G : Int32} (hF : tp_T F) (hG : tp_T G) (h : ∀ x y, x < 5 → y < 5 → (tp_S F x y ↔ tp_S G x y)) : F = G := by
  apply b_ext
  intro V hV
  apply ps_beq
  rw [tp_fix hF hV, tp_fix hG hV]
  constructor
  · intro q x y hx hy a b; exact (h x y hx hy).mp (q x y hx hy a b)
  · intro q x y hx hy a b; exact (h x y hx hy).mpr (q x y hx hy a b)
theorem ps_Op (c : Nat → Bool) {j : Nat} (hj : j < 32) : bt (nI (ps_O 0 c (fun V => 2 ^ V) 32)) j = c j := by
  rw [ps_bt _ hj]
  apply ps_beq
  rw [ps_Ot]
  constructor
  · rintro (q | ⟨i, hi, a, b⟩)
    · rw [Nat.zero_testBit] at q; exact absurd q (by decide)
    · rw [Nat.testBit_two_pow, decide_eq_true_iff] at b
      subst b; exact a
  · intro q
    exact Or.inr ⟨j, hj, q, Nat.testBit_two_pow_self⟩
theorem ps_Oi (c : Nat → Bool) (f : Nat → Nat) (n : Nat) {j : Nat} (hj : j < 32) : bt (nI (ps_O 0 c (fun V => 2 ^ f V) n)) j = true ↔ ∃ i, i < n ∧ c i = true ∧ f i = j := by
  rw [ps_bt _ hj, ps_Ot]
  constructor
  · rintro (q | ⟨i, hi, a, b⟩)
    · rw [Nat.zero_testBit] at q; exact absurd q (by decide)
    · rw [Nat.testBit_two_pow, decide_eq_true_iff] at b
      exact ⟨i, hi, a, b⟩
  · rintro ⟨i, hi, a, b⟩
    exact Or.inr ⟨i, hi, a, by rw [b]; exact Nat.testBit_two_pow_self⟩
theorem tp_ls {E G : Int32} (hG : tp_T G) (h : ∀ x y, x < 5 → y < 5 → (tp_S E x y ↔ tp_S G x y)) : nI (pv_ls E) = G := by
  apply b_ext
  intro V hV
  unfold pv_ls
  rw [ps_Op _ hV]
  apply ps_beq
  rw [tp_fix hG hV, tp_hl E hV]
  constructor
  · intro q x y hx hy a b; exact (h x y hx hy).mp (q x y hx hy a b)
  · intro q x y hx hy a b; exact (h x y hx hy).mpr (q x y hx hy a b)
/-! with -/
theorem tp_with {F : Int32} (h0 : bt F 0 = true) {S V : Nat} (hV : V < 32) : bt (nI (pv_with F S)) V = true ↔ ∃ a b, a < 32 ∧ b < 32 ∧ bt F a = true ∧ bt F b = true ∧ (a ||| (b &&& S)) = V := by
  unfold pv_with
  rw [ps_bt _ hV, ps_Ot, ← ps_bt _ hV, ps_n_of]
  constructor
  · rintro (q | ⟨p, hp, a, b⟩)
    · exact ⟨V, 0, hV, by decide, q, h0, by simp⟩
    · rw [Bool.and_eq_true] at a
      rw [Nat.testBit_two_pow, decide_eq_true_iff] at b
      exact ⟨p / 32, p % 32, by omega, by omega, a.1, a.2, b⟩
  · rintro ⟨a, b, ha, hb, ka, kb, e⟩
    have e1 : (32 * a + b) / 32 = a := by omega
    have e2 : (32 * a + b) % 32 = b := by omega
    refine Or.inr ⟨32 * a + b, by omega, ?_, ?_⟩
    · rw [e1, e2, ka, kb]; rfl
    · rw [e1, e2, e]; exact Nat.testBit_two_pow_self
theorem tp_u1 (a b c d S : Nat) : (a ||| (b &&& S)) ||| (c ||| (d &&& S)) = (a ||| c) ||| ((b ||| d) &&& S) := by
  apply Nat.eq_of_testBit_eq
  intro i
  simp only [Nat.testBit_or, Nat.testBit_and]
  cases a.testBit i <;> cases b.testBit i <;> cases c.testBit i <;> cases d.testBit i <;> cases S.testBit i <;> rfl
theorem tp_u2 (a b c d S : Nat) : (a ||| (b &&& S)) &&& (c ||| (d &&& S)) = (a &&& c) ||| (((a &&& d) ||| ((b &&& c) ||| (b &&& d))) &&& S) := by
  apply Nat.eq_of_testBit_eq
  intro i
  simp only [Nat.testBit_or, Nat.testBit_and]
  cases a.testBit i <;> cases b.testBit i <;> cases c.testBit i <;> cases d.testBit i <;> cases S.testBit i <;> rfl
theorem tp_withT {F : Int32} (hT : tp_T F) (S : Nat) : tp_T (nI (pv_with F S)) := by
  refine ⟨(tp_with hT.1 (by decide)).mpr ⟨0, 0, by decide, by decide, hT.1, hT.1, by simp⟩, (tp_with hT.1 (by decide)).mpr ⟨31, 0, by decide, by decide, hT.2.1, hT.1, by simp⟩, ?_⟩
  intro u w hu hw ku kw
  obtain ⟨a, b, ha, hb, ka, kb, rfl⟩ := (tp_with hT.1 hu).mp ku
  obtain ⟨c, d, hc, hd, kc, kd, rfl⟩ := (tp_with hT.1 hw).mp kw
  constructor
  · rw [tp_u1]
    refine (tp_with hT.1 ?_).mpr ⟨_, _, tb_or ha hc, tb_or hb hd, (hT.2.2 _ _ ha hc ka kc).1, (hT.2.2 _ _ hb hd kb kd).1, rfl⟩
    rw [← tp_u1]; exact tb_or hu hw
  · rw [tp_u2]
    have m1 := hT.2.2 _ _ hb hc kb kc
    have m2 := hT.2.2 _ _ hb hd kb kd
    have m3 := hT.2.2 _ _ ha hd ka kd
    have m4 := hT.2.2 _ _ (tb_and hb) (tb_and hb) m1.2 m2.2
    have m5 := hT.2.2 _ _ (tb_and ha) (tb_or (tb_and hb) (tb_and hb)) m3.2 m4.1
    refine (tp_with hT.1 ?_).mpr ⟨_, _, tb_and ha, tb_or (tb_and ha) (tb_or (tb_and hb) (tb_and hb)), (hT.2.2 _ _ ha hc ka kc).2, m5.1, rfl⟩
    rw [← tp_u2]; exact tb_and hu
theorem tp_withS {F : Int32} (hT : tp_T F) {S : Nat} (hS : S < 32) (x y : Nat) : tp_S (nI (pv_with F S)) x y ↔ tp_S F x y ∨ (S.testBit x = true ∧ S.testBit y = false) := by
  constructor
  · rintro ⟨V, hV, k, p, q⟩
    obtain ⟨a, b, ha, hb, ka, kb, rfl⟩ := (tp_with hT.1 hV).mp k
    rw [Nat.testBit_or, Nat.testBit_and] at p q
    rw [Bool.or_eq_false_iff] at q
    cases z : a.testBit x
    · rw [z, Bool.false_or, Bool.and_eq_true] at p
      rw [Bool.and_eq_false_iff] at q
      rcases q.2 with r | r
      · exact Or.inl ⟨b, hb, kb, p.1, r⟩
      · exact Or.inr ⟨p.2, r⟩
    · exact Or.inl ⟨a, ha, ka, z, q.1⟩
  · rintro (⟨V, hV, k, p, q⟩ | ⟨p, q⟩)
    · exact ⟨V, hV, (tp_with hT.1 hV).mpr ⟨V, 0, hV, by decide, k, hT.1, by simp⟩, p, q⟩
    · refine ⟨S, hS, (tp_with hT.1 hS).mpr ⟨0, 31, by decide, by decide, hT.1, hT.2.1, ?_⟩, p, q⟩
      rw [Nat.zero_or, Nat.and_comm]
      exact Nat.and_two_pow_sub_one_of_lt_two_pow (n := 5) hS
theorem tp_Sor (F G : Int32) (x y : Nat) : tp_S (F ||| G) x y ↔ tp_S F x y ∨ tp_S G x y := by
  constructor
  · rintro ⟨V, hV, k, p, q⟩
    rw [b_or, Bool.or_eq_true] at k
    rcases k with k | k
    · exact Or.inl ⟨V, hV, k, p, q⟩
    · exact Or.inr ⟨V, hV, k, p, q⟩
  · rintro (⟨V, hV, k, p, q⟩ | ⟨V, hV, k, p, q⟩)
    · exact ⟨V, hV, by rw [b_or, k]; rfl, p, q⟩
    · exact ⟨V, hV, by rw [b_or, k, Bool.or_true], p, q⟩
theorem tp_S1 {S : Nat} (hS : S < 32) (x y : Nat) : tp_S (nI (2 ^ S)) x y ↔ S.testBit x = true ∧ S.testBit y = false := by
  constructor
  · rintro ⟨V, hV, k, p, q⟩
    rw [ps_bt _ hV, Nat.testBit_two_pow, decide_eq_true_iff] at k
    subst k; exact ⟨p, q⟩
  · rintro ⟨p, q⟩
    exact ⟨S, hS, by rw [ps_bt _ hS]; exact Nat.testBit_two_pow_self, p, q⟩
theorem tp_open {F : Int32} (hT : tp_T F) {S : Nat} (hS : S < 32) : nI (pv_ls (F ||| nI (2 ^ S))) = nI (pv_with F S) :=
  tp_ls (tp_withT hT S) (fun x y _ _ => by rw [tp_withS hT hS, tp_Sor, tp_S1 hS])
theorem tp_joinA {F : Int32} (hT : tp_T F) (G : Int32) : ∀ n, n ≤ 32 → tp_T (ps_fo (fun V s => if bt G V then nI (pv_with s V) else s) F n) ∧ ∀ x y, tp_S (ps_fo (fun V s => if bt G V then nI (pv_with s V) else s) F n) x y ↔ tp_S F x y ∨ ∃ V, V < n ∧ bt G V = true ∧ V.testBit x = true ∧ V.testBit y = false := by
  intro n
  induction n with
  | zero =>
    intro _
    refine ⟨hT, fun x y => ⟨Or.inl, ?_⟩⟩
    rintro (h | ⟨V, hV, _⟩)
    · exact h
    · exact absurd hV (by omega)
  | succ n ih =>
    intro hn
    obtain ⟨i1, i2⟩ := ih (by omega)
    have e : ps_fo (fun V s => if bt G V then nI (pv_with s V) else s) F (n + 1) = if bt G n then nI (pv_with (ps_fo (fun V s => if bt G V then nI (pv_with s V) else s) F n) n) else ps_fo (fun V s => if bt G V then nI (pv_with s V) else s) F n := rfl
    rw [e]
    generalize ps_fo (fun V s => if bt G V then nI (pv_with s V) else s) F n = R at i1 i2
    cases z : bt G n
    · rw [if_neg (by decide)]
      refine ⟨i1, fun x y => ?_⟩
      rw [i2]
      constructor
      · rintro (h | ⟨V, hV, h⟩)
        · exact Or.inl h
        · exact Or.inr ⟨V, by omega, h⟩
      · rintro (h | ⟨V, hV, h1, h2⟩)
        · exact Or.inl h
        · refine Or.inr ⟨V, ?_, h1, h2⟩
          by_cases q : V = n
          · subst q; rw [z] at h1; exact absurd h1 (by decide)
          · omega
    · rw [if_pos rfl]
      refine ⟨tp_withT i1 n, fun x y => ?_⟩
      rw [tp_withS i1 (by omega), i2]
      constructor
      · rintro ((h | ⟨V, hV, h⟩) | h)
        · exact Or.inl h
        · exact Or.inr ⟨V, by omega, h⟩
        · exact Or.inr ⟨n, by omega, z, h⟩
      · rintro (h | ⟨V, hV, h1, h2⟩)
        · exact Or.inl (Or.inl h)
        · by_cases q : V = n
          · subst q; exact Or.inr h2
          · exact Or.inl (Or.inr ⟨V, by omega, h1, h2⟩)
theorem tp_joinT {F : Int32} (hT : tp_T F) (G : Int32) : tp_T (pv_join F G) := (tp_joinA hT G 32 (by omega)).1
theorem tp_join {F : Int32} (hT : tp_T F) (G : Int32) : nI (pv_ls (F ||| G)) = pv_join F G :=
  tp_ls (tp_joinT hT G) (fun x y _ _ => by
    rw [tp_Sor]
    exact ((tp_joinA hT G 32 (by omega)).2 x y).symm)
/-! what the other calls make are spaces -/
theorem tp_plainB : ∀ V, V < 32 → bt (-2147483647) V = decide (V = 0 ∨ V = 31) := by decide +kernel
theorem tp_plain : tp_T (-2147483647) := by
  refine ⟨by decide +kernel, by decide +kernel, ?_⟩
  intro a b ha hb ka kb
  rw [tp_plainB a ha, decide_eq_true_iff] at ka
  rw [tp_plainB b hb, decide_eq_true_iff] at kb
  rcases ka with rfl | rfl <;> rcases kb with rfl | rfl <;> decide +kernel
theorem tp_loose : tp_T (-1) := ⟨b_m1 0 (by decide), b_m1 31 (by decide), fun a b ha hb _ _ => ⟨b_m1 _ (tb_or ha hb), b_m1 _ (tb_and ha)⟩⟩
theorem tp_meet {F G : Int32} (hF : tp_T F) (hG : tp_T G) : tp_T (F &&& G) := by
  refine ⟨by rw [b_and, hF.1, hG.1]; rfl, by rw [b_and, hF.2.1, hG.2.1]; rfl, ?_⟩
  intro a b ha hb ka kb
  rw [b_and, Bool.and_eq_true] at ka kb
  have p := hF.2.2 a b ha hb ka.1 kb.1
  have q := hG.2.2 a b ha hb ka.2 kb.2
  exact ⟨by rw [b_and, p.1, q.1]; rfl, by rw [b_and, p.2, q.2]; rfl⟩
theorem tp_tie {F : Int32} (hF : tp_T F) {x y : Nat} (hx : x < 5) (hy : y < 5) : tp_T (nI (pv_tie F x y)) := by
  unfold pv_tie
  refine ⟨?_, ?_, ?_⟩
  · rw [ps_Op _ (by decide), hF.1, Nat.zero_testBit]; rfl
  · rw [ps_Op _ (by decide), hF.2.1, tb_31, tb_31, decide_eq_true hx, decide_eq_true hy]; rfl
  · intro a b ha hb ka kb
    rw [ps_Op _ ha, Bool.and_eq_true] at ka
    rw [ps_Op _ hb, Bool.and_eq_true] at kb
    have p := hF.2.2 a b ha hb ka.1 kb.1
    have k1 := ka.2
    have k2 := kb.2
    rw [ps_Op _ (tb_or ha hb), ps_Op _ (tb_and ha), p.1, p.2, Nat.testBit_or, Nat.testBit_or, Nat.testBit_and, Nat.testBit_and]
    revert k1 k2
    cases a.testBit x <;> cases b.testBit x <;> cases a.testBit y <;> cases b.testBit y <;> decide
theorem ps_c31 : ∀ a, a < 32 → ∀ b, b < 32 → 31 - (a ||| b) = (31 - a) &&& (31 - b) ∧ 31 - (a &&& b) = (31 - a) ||| (31 - b) := by decide +kernel
theorem tp_cx (F : Int32) {V : Nat} (hV : V < 32) : bt (nI (pv_cx F)) V = bt F (31 - V) := by
  unfold pv_cx; exact ps_Op _ hV
theorem tp_cxy (F : Int32) : nI (pv_cx F) = nI (pv_cy F) := by
  apply b_ext
  intro V hV
  rw [tp_cx F hV]
  apply ps_beq
  unfold pv_cy
  rw [ps_Oi _ (fun V => 31 - V) 32 hV]
  constructor
  · intro h; exact ⟨31 - V, by omega, h, by omega⟩
  · rintro ⟨i, hi, a, b⟩
    have : 31 - V = i := by omega
    rw [this]; exact a
theorem tp_turn {F : Int32} (hF : tp_T F) : tp_T (nI (pv_cx F)) := by
  refine ⟨by rw [tp_cx F (by decide)]; exact hF.2.1, by rw [tp_cx F (by decide)]; exact hF.1, ?_⟩
  intro a b ha hb ka kb
  rw [tp_cx F ha] at ka
  rw [tp_cx F hb] at kb
  have p := hF.2.2 _ _ (by omega) (by omega) ka kb
  have e := ps_c31 a ha b hb
  rw [tp_cx F (tb_or ha hb), tp_cx F (tb_and ha), e.1, e.2]
  exact ⟨p.2, p.1⟩
theorem tp_co (m V x : Nat) : (pv_co m V).testBit x = (decide (x < 5) && V.testBit (pv_im m x)) := by
  apply ps_beq
  unfold pv_co
  rw [ps_Ot, Bool.and_eq_true, decide_eq_true_iff]
  constructor
  · rintro (q | ⟨i, hi, a, b⟩)
    · rw [Nat.zero_testBit] at q; exact absurd q (by decide)
    · rw [Nat.testBit_two_pow, decide_eq_true_iff] at b
      subst b; exact ⟨hi, a⟩
  · rintro ⟨h, g⟩
    exact Or.inr ⟨x, h, g, Nat.testBit_two_pow_self⟩
theorem tp_co_or (m a b : Nat) : pv_co m (a ||| b) = pv_co m a ||| pv_co m b := by
  apply Nat.eq_of_testBit_eq
  intro x
  rw [Nat.testBit_or, tp_co, tp_co, tp_co, Nat.testBit_or, Bool.and_or_distrib_left]
theorem tp_co_and (m a b : Nat) : pv_co m (a &&& b) = pv_co m a &&& pv_co m b := by
  apply Nat.eq_of_testBit_eq
  intro x
  rw [Nat.testBit_and, tp_co, tp_co, tp_co, Nat.testBit_and]
  cases decide (x < 5) <;> simp
theorem tp_co_0 (m : Nat) : pv_co m 0 = 0 := by
  apply Nat.eq_of_testBit_eq
  intro x
  rw [tp_co, Nat.zero_testBit, Nat.zero_testBit, Bool.and_false]
theorem tp_co_31 (m : Nat) : pv_co m 31 = 31 := by
  apply Nat.eq_of_testBit_eq
  intro x
  rw [tp_co, tb_31, tb_31, decide_eq_true (pv_im_lt m x), Bool.and_true]
theorem tp_pullB (F : Int32) (m : Nat) {V : Nat} (hV : V < 32) : bt (nI (pv_pull F m)) V = true ↔ ∃ U, U < 32 ∧ bt F U = true ∧ pv_co m U = V := by
  unfold pv_pull
  exact ps_Oi _ (pv_co m) 32 hV
theorem tp_pull {F : Int32} (hF : tp_T F) (m : Nat) : tp_T (nI (pv_pull F m)) := by
  refine ⟨(tp_pullB F m (by decide)).mpr ⟨0, by decide, hF.1, tp_co_0 m⟩, (tp_pullB F m (by decide)).mpr ⟨31, by decide, hF.2.1, tp_co_31 m⟩, ?_⟩
  intro a b ha hb ka kb
  obtain ⟨U, hU, kU, rfl⟩ := (tp_pullB F m ha).mp ka
  obtain ⟨W, hW, kW, rfl⟩ := (tp_pullB F m hb).mp kb
  have p := hF.2.2 U W hU hW kU kW
  exact ⟨(tp_pullB F m (tb_or ha hb)).mpr ⟨_, tb_or hU hW, p.1, tp_co_or m U W⟩, (tp_pullB F m (tb_and ha)).mpr ⟨_, tb_and hU, p.2, tp_co_and m U W⟩⟩
theorem tp_push {F : Int32} (hF : tp_T F) (m : Nat) : tp_T (nI (pv_push F m)) := by
  unfold pv_push
  refine ⟨?_, ?_, ?_⟩
  · rw [ps_Op _ (by decide), tp_co_0]; exact hF.1
  · rw [ps_Op _ (by decide), tp_co_31]; exact hF.2.1
  · intro a b ha hb ka kb
    rw [ps_Op _ ha] at ka
    rw [ps_Op _ hb] at kb
    have p := hF.2.2 _ _ (pv_co_lt m a) (pv_co_lt m b) ka kb
    rw [ps_Op _ (tb_or ha hb), ps_Op _ (tb_and ha), tp_co_or, tp_co_and]
    exact p
/-! questions -/
theorem tp_ct (F T : Int32) (m : Nat) : ps_wi (nI (pv_pull T m)) F = pv_ct F T m := by
  apply ps_beq
  unfold pv_ct
  rw [ps_wi_iff, ps_all_iff]
  constructor
  · intro h V hV
    cases z : bt T V
    · rfl
    · rw [Bool.not_true, Bool.false_or]
      exact h _ (pv_co_lt m V) ((tp_pullB T m (pv_co_lt m V)).mpr ⟨V, hV, z, rfl⟩)
  · intro h i hi q
    obtain ⟨U, hU, kU, rfl⟩ := (tp_pullB T m hi).mp q
    have := h U hU
    rw [kU, Bool.not_true, Bool.false_or] at this
    exact this
theorem tp_inB (F : Int32) {S : Nat} (hS : S < 32) (x : Nat) : (pv_in F S).testBit x = true ↔ ∃ V, V < 32 ∧ bt F V = true ∧ (∀ y, V.testBit y = true → S.testBit y = true) ∧ V.testBit x = true := by
  unfold pv_in
  rw [ps_Ot]
  constructor
  · rintro (q | ⟨V, hV, a, b⟩)
    · rw [Nat.zero_testBit] at q; exact absurd q (by decide)
    · rw [Bool.and_eq_true, ps_wn hV hS] at a
      exact ⟨V, hV, a.1, a.2, b⟩
  · rintro ⟨V, hV, a, b, c⟩
    refine Or.inr ⟨V, hV, ?_, c⟩
    rw [Bool.and_eq_true, ps_wn hV hS]
    exact ⟨a, b⟩
theorem tp_inT {F : Int32} (hT : tp_T F) (S : Nat) : bt F (pv_in F S) = true :=
  (tp_O hT ⟨by decide, hT.1⟩ (fun i hi h => ⟨hi, by rw [Bool.and_eq_true] at h; exact h.1⟩)).2
theorem tp_in_eq {F : Int32} (hT : tp_T F) {S : Nat} (hS : S < 32) : pv_in F S = S ↔ bt F S = true := by
  constructor
  · intro h
    have := tp_inT hT S
    rw [h] at this; exact this
  · intro h
    apply Nat.eq_of_testBit_eq
    intro x
    apply ps_beq
    rw [tp_inB F hS]
    constructor
    · rintro ⟨V, _, _, a, b⟩; exact a x b
    · intro q; exact ⟨S, hS, h, fun _ z => z, q⟩
theorem tp_pc {F : Int32} (hT : tp_T F) {x : Nat} (hx : x < 5) : pv_pc F x = 2 ^ x ↔ bt F (31 - 2 ^ x) = true := by
  unfold pv_pc pv_cl
  have h2 := pv_p2 x hx
  generalize 2 ^ x = z at h2 ⊢
  have h3 := pv_in_lt F (31 - z)
  rw [← tp_in_eq hT (by omega)]
  constructor <;> intro h <;> omega
