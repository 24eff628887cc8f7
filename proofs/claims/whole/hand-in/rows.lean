section
theorem pk_us {f : Nat → Int32} {k : Nat} {x : Int32} : upd f k x k = x := if_pos rfl
theorem pk_un {f : Nat → Int32} {k j : Nat} {x : Int32} (h : j ≠ k) : upd f k x j = f j := if_neg h
theorem pk_sub {a b : Nat} (h : b ≤ a) : nI a - nI b = nI (a - b) := by
  obtain ⟨c, rfl⟩ : ∃ c, a = c + b := ⟨a - b, by omega⟩
  rw [← nI_add, Int32.add_sub_cancel, Nat.add_sub_cancel]
theorem pk_m1 (n : Nat) : nI (n + 1) + (-1) = nI n := by
  rw [← nI_1, Int32.add_assoc, show (1 : Int32) + (-1) = 0 from rfl, Int32.add_zero]
theorem pk_mul (a b : Nat) : nI a * nI b = nI (a * b) := (Int32.ofNat_mul a b).symm
theorem pk_div {a d : Nat} (ha : a < 2 ^ 31) (h0 : 0 < d) (hd : d < 2 ^ 31) : nI a / nI d = nI (a / d) := by
  apply Int32.toInt_inj.mp
  rw [lg_idiv_nonneg (by rw [nI_toInt ha]; omega) (by rw [nI_toInt hd]; omega), nI_toInt ha, nI_toInt hd, nI_toInt (Nat.lt_of_le_of_lt (Nat.div_le_self a d) ha)]
  first | rfl | exact (Int.natCast_ediv _ _).symm
theorem pk_rem {a d : Nat} (ha : a < 2 ^ 31) (h0 : 0 < d) (hd : d < 2 ^ 31) : nI a - nI a / nI d * nI d = nI (a % d) := by
  rw [pk_div ha h0 hd, pk_mul, pk_sub (Nat.div_mul_le_self a d)]
  exact congrArg nI (by have := Nat.div_add_mod' a d; omega)
theorem pk_ix (x : Int32) {n : Nat} (hn : n < 2 ^ 31) : x < 0 ∨ nI n ≤ x ∨ ∃ j : Nat, j < n ∧ x = nI j := by
  by_cases h : x < 0
  · exact Or.inl h
  · obtain ⟨j, hj, rfl⟩ := nI_of h
    by_cases h2 : j < n
    · exact Or.inr (Or.inr ⟨j, h2, rfl⟩)
    · exact Or.inr (Or.inl (nI_le (by omega) hj))
theorem pk_tn {n : Nat} (h : n < 2 ^ 32) : (nI n).toBitVec.toNat = n := Nat.mod_eq_of_lt h
theorem pk_least (P : Nat → Prop) (h : ∃ k, P k) : ∃ k, P k ∧ ∀ j, j < k → ¬ P j := by
  obtain ⟨k, hk⟩ := h
  induction k using Nat.strongRecOn with
  | ind k ih =>
    by_cases e : ∃ j, j < k ∧ P j
    · obtain ⟨j, hj, pj⟩ := e
      exact ih j hj pj
    · exact ⟨k, hk, fun j hj pj => e ⟨j, hj, pj⟩⟩
def bt (x : Int32) (i : Nat) : Bool := x.toBitVec.getLsbD i
theorem b_ext {x y : Int32} (h : ∀ i, i < 32 → bt x i = bt y i) : x = y := Int32.toBitVec_inj.mp (BitVec.eq_of_getLsbD_eq (fun i hi => h i hi))
theorem b_or (x y : Int32) (i : Nat) : bt (x ||| y) i = (bt x i || bt y i) := by unfold bt; rw [Int32.toBitVec_or, BitVec.getLsbD_or]
theorem b_and (x y : Int32) (i : Nat) : bt (x &&& y) i = (bt x i && bt y i) := by unfold bt; rw [Int32.toBitVec_and, BitVec.getLsbD_and]
theorem b_xor (x y : Int32) (i : Nat) : bt (x ^^^ y) i = (bt x i ^^ bt y i) := by unfold bt; rw [Int32.toBitVec_xor, BitVec.getLsbD_xor]
theorem b_big {x : Int32} {i : Nat} (h : 32 ≤ i) : bt x i = false := BitVec.getLsbD_of_ge _ _ h
theorem b_m1 : ∀ i, i < 32 → bt (-1) i = true := by decide +kernel
theorem b_0 (i : Nat) : bt 0 i = false := BitVec.getLsbD_zero
theorem s_l : ∀ n, n < 32 → ((nI n &&& 31).toBitVec.smod 32).toNat = n := by decide +kernel
theorem s_u : ∀ n, n < 32 → (((nI n).toUInt32 &&& Int32.toUInt32 31).toBitVec % 32).toNat = n := by decide +kernel
theorem b_shl (n : Nat) (hn : n < 32) (x : Int32) {i : Nat} (hi : i < 32) : bt (x <<< (nI n &&& 31)) i = (decide (n ≤ i) && bt x (i - n)) := by
  unfold bt
  rw [Int32.toBitVec_shiftLeft]
  show (x.toBitVec <<< ((nI n &&& 31).toBitVec.smod 32).toNat).getLsbD i = _
  rw [s_l n hn, BitVec.getLsbD_shiftLeft]
  rcases Nat.lt_or_ge i n with h | h
  · simp [h, Nat.not_le.mpr h]
  · simp [hi, h, Nat.not_lt.mpr h]
theorem b_ushr (n : Nat) (hn : n < 32) (x : Int32) (i : Nat) : bt ((x.toUInt32 >>> ((nI n).toUInt32 &&& Int32.toUInt32 31)).toInt32) i = bt x (n + i) := by
  show (x.toUInt32 >>> ((nI n).toUInt32 &&& Int32.toUInt32 31)).toBitVec.getLsbD i = x.toUInt32.toBitVec.getLsbD (n + i)
  rw [UInt32.toBitVec_shiftRight]
  show (x.toUInt32.toBitVec >>> (((nI n).toUInt32 &&& Int32.toUInt32 31).toBitVec % 32).toNat).getLsbD i = _
  rw [s_u n hn, BitVec.getLsbD_ushiftRight]
theorem b_sshr (n : Nat) (hn : n < 32) (x : Int32) {i : Nat} (hi : i < 32) : bt (x >>> (nI n &&& 31)) i = if n + i < 32 then bt x (n + i) else bt x 31 := by
  unfold bt
  rw [Int32.toBitVec_shiftRight]
  show (x.toBitVec.sshiftRight ((nI n &&& 31).toBitVec.smod 32).toNat).getLsbD i = _
  rw [s_l n hn, BitVec.getLsbD_sshiftRight, BitVec.msb_eq_getLsbD_last]
  simp [hi]
theorem nx_and (a b : Nat) : nI a &&& nI b = nI (a &&& b) := by
  apply Int32.toBitVec_inj.1
  show BitVec.ofNat 32 a &&& BitVec.ofNat 32 b = BitVec.ofNat 32 (a &&& b)
  apply BitVec.eq_of_getLsbD_eq
  intro i hi
  simp [hi]
/-! bits of numbers -/
theorem ps_or (a b : Nat) : nI a ||| nI b = nI (a ||| b) := by
  apply Int32.toBitVec_inj.1
  show BitVec.ofNat 32 a ||| BitVec.ofNat 32 b = BitVec.ofNat 32 (a ||| b)
  apply BitVec.eq_of_getLsbD_eq
  intro i hi
  simp [hi]
theorem ps_bt (k : Nat) {i : Nat} (hi : i < 32) : bt (nI k) i = k.testBit i := by
  show (BitVec.ofNat 32 k).getLsbD i = _
  rw [BitVec.getLsbD_ofNat, decide_eq_true hi, Bool.true_and]
theorem ps_one : ∀ l, l < 32 → (1 : Int32) <<< (nI l &&& 31) = nI (2 ^ l) := by decide +kernel
theorem ps_sb (s : Nat) {l : Nat} (h : l < 32) : nI s ||| ((1 : Int32) <<< (nI l &&& 31)) = nI (s ||| 2 ^ l) := by
  rw [ps_one l h, ps_or]
theorem ps_sub31 : ∀ l, l < 32 → (31 : Int32) - nI l = nI (31 - l) := by decide +kernel
theorem ps_bt1 : ∀ i, i < 32 → bt 1 i = decide (i = 0) := by decide +kernel
theorem ps_a1 (A : Int32) : A &&& 1 = 1 ↔ bt A 0 = true := by
  constructor
  · intro h
    have e := congrArg (fun z => bt z 0) h
    rw [b_and, ps_bt1 0 (by omega)] at e
    simpa using e
  · intro h
    apply b_ext
    intro i hi
    rw [b_and, ps_bt1 i hi]
    by_cases z : i = 0
    · subst z; rw [h]; rfl
    · rw [decide_eq_false z, Bool.and_false]
theorem ps_nz (A : Int32) (h : ∀ i, i < 32 → bt A i = false) : A = 0 := b_ext fun i hi => by rw [h i hi, b_0]
def ps_b (b : Bool) : Int32 := if b then 1 else 0
theorem ps_br {v : Bool} {A B : Prop} (b : v = true → B) (a : v = false → A) : (ps_b v = 0 → A) ∧ (¬ ps_b v = 0 → B) := by
  cases v
  · exact br_t rfl (a rfl)
  · exact br_f (by decide) (b rfl)
theorem ps_nb (v : Bool) : narrow .boolean (.int (ps_b v)) = .int (ps_b v) := by
  cases v
  · rfl
  · rfl
/-- A within B -/
def ps_wi (A B : Int32) : Bool := decide (A &&& (B ^^^ (-1)) = 0)
theorem ps_wi_iff (A B : Int32) : ps_wi A B = true ↔ ∀ i, i < 32 → bt A i = true → bt B i = true := by
  unfold ps_wi
  rw [decide_eq_true_iff]
  constructor
  · intro h i hi ha
    have e := congrArg (fun z => bt z i) h
    rw [b_and, b_xor, b_m1 i hi, b_0, ha] at e
    simpa using e
  · intro h
    apply ps_nz
    intro i hi
    rw [b_and, b_xor, b_m1 i hi]
    cases ha : bt A i
    · rfl
    · rw [h i hi ha]; rfl
/-! folds -/
def ps_fo {σ : Type} (g : Nat → σ → σ) (s : σ) : Nat → σ
  | 0 => s
  | n + 1 => g n (ps_fo g s n)
theorem lo_fo {σ : Type} (W : Nat → Nat → σ → Prop) (g : Nat → σ → σ) (s0 : σ) (e i0 : Nat) (hx : ∀ n, W (n + 1) e (ps_fo g s0 e)) (hs : ∀ n i s, i0 ≤ i → i < e → W n (i + 1) (g i s) → W (n + 1) i s) : ∀ d i, i0 ≤ i → i + d = e → W (d + 1) i (ps_fo g s0 i) := by
  intro d
  induction d with
  | zero => intro i _ h; obtain rfl : i = e := by omega
            exact hx 0
  | succ d ih => intro i h0 h; exact hs _ _ _ h0 (by omega) (ih (i + 1) (by omega) (by omega))
def ps_O (b : Nat) (c : Nat → Bool) (f : Nat → Nat) (n : Nat) : Nat := ps_fo (fun i s => if c i then s ||| f i else s) b n
def ps_A (b : Nat) (c : Nat → Bool) (f : Nat → Nat) (n : Nat) : Nat := ps_fo (fun i s => if c i then s &&& f i else s) b n
def ps_C (c : Nat → Bool) (n : Nat) : Nat := ps_fo (fun i s => if c i then s + 1 else s) 0 n
def ps_all (c : Nat → Bool) (n : Nat) : Bool := ps_fo (fun i s => s && c i) true n
theorem lo_O (W : Nat → Nat → Nat → Prop) (b : Nat) (c : Nat → Bool) (f : Nat → Nat) (e : Nat) (hx : ∀ n, W (n + 1) e (ps_O b c f e)) (hs : ∀ n i s, i < e → (c i = true → W n (i + 1) (s ||| f i)) → (c i = false → W n (i + 1) s) → W (n + 1) i s) : W (e + 1) 0 b := by
  refine lo_fo W (fun i s => if c i then s ||| f i else s) b e 0 hx ?_ e 0 (by omega) (by omega)
  intro n i s _ hi w
  exact hs n i s hi (fun z => by rw [z] at w; exact w) (fun z => by rw [z] at w; exact w)
theorem lo_A (W : Nat → Nat → Nat → Prop) (b : Nat) (c : Nat → Bool) (f : Nat → Nat) (e : Nat) (hx : ∀ n, W (n + 1) e (ps_A b c f e)) (hs : ∀ n i s, i < e → (c i = true → W n (i + 1) (s &&& f i)) → (c i = false → W n (i + 1) s) → W (n + 1) i s) : W (e + 1) 0 b := by
  refine lo_fo W (fun i s => if c i then s &&& f i else s) b e 0 hx ?_ e 0 (by omega) (by omega)
  intro n i s _ hi w
  exact hs n i s hi (fun z => by rw [z] at w; exact w) (fun z => by rw [z] at w; exact w)
theorem lo_C (W : Nat → Nat → Nat → Prop) (c : Nat → Bool) (e : Nat) (hx : ∀ n, W (n + 1) e (ps_C c e)) (hs : ∀ n i s, i < e → (c i = true → W n (i + 1) (s + 1)) → (c i = false → W n (i + 1) s) → W (n + 1) i s) : W (e + 1) 0 0 := by
  refine lo_fo W (fun i s => if c i then s + 1 else s) 0 e 0 hx ?_ e 0 (by omega) (by omega)
  intro n i s _ hi w
  exact hs n i s hi (fun z => by rw [z] at w; exact w) (fun z => by rw [z] at w; exact w)
/-- a count that begins at 1: c 0 is false -/
theorem lo_C1 (W : Nat → Nat → Nat → Prop) (c : Nat → Bool) (e : Nat) (h0 : c 0 = false) (hx : ∀ n, W (n + 1) (e + 1) (ps_C c (e + 1))) (hs : ∀ n i s, 0 < i → i < e + 1 → (c i = true → W n (i + 1) (s + 1)) → (c i = false → W n (i + 1) s) → W (n + 1) i s) : W (e + 1) 1 0 := by
  have h := lo_fo W (fun i s => if c i then s + 1 else s) 0 (e + 1) 1 hx (fun n i s h1 hi w => hs n i s h1 hi (fun z => by rw [z] at w; exact w) (fun z => by rw [z] at w; exact w)) e 1 (by omega) (by omega)
  have e1 : ps_fo (fun i s => if c i then s + 1 else s) 0 1 = 0 := by
    show (if c 0 then 0 + 1 else 0) = 0
    rw [h0]; rfl
  rw [e1] at h
  exact h
theorem ps_all_iff (c : Nat → Bool) (n : Nat) : ps_all c n = true ↔ ∀ i, i < n → c i = true := by
  induction n with
  | zero => exact ⟨fun _ i h => by omega, fun _ => rfl⟩
  | succ n ih =>
    show (ps_all c n && c n) = true ↔ _
    rw [Bool.and_eq_true, ih]
    constructor
    · rintro ⟨a, b⟩ i hi
      rcases Nat.lt_or_ge i n with h | h
      · exact a i h
      · obtain rfl : i = n := by omega
        exact b
    · intro h; exact ⟨fun i hi => h i (by omega), h n (by omega)⟩
/-- a loop that leaves at the first i without c -/
theorem lo_exS (W : Nat → Nat → Prop) (c : Nat → Bool) (e i0 : Nat) (P : Bool → Prop) (h0 : ps_all c i0 = true) (hi0 : i0 ≤ e) (h : P (ps_all c e)) (hx : ∀ n, P true → W (n + 1) e) (hs : ∀ n i, i0 ≤ i → i < e → (c i = true → W n (i + 1)) → (c i = false → P false) → W (n + 1) i) : W (e - i0 + 1) i0 := by
  have H : ∀ d i, i0 ≤ i → i + d = e → ps_all c i = true → W (d + 1) i := by
    intro d
    induction d with
    | zero =>
      intro i _ hi a
      obtain rfl : i = e := by omega
      rw [a] at h
      exact hx 0 h
    | succ d ih =>
      intro i hj hi a
      refine hs _ _ hj (by omega) (fun z => ih (i + 1) (by omega) (by omega) ?_) (fun z => ?_)
      · show (ps_all c i && c i) = true
        rw [a, z]; rfl
      · have e1 : ps_all c e = false := by
          cases q : ps_all c e
          · rfl
          · have := (ps_all_iff c e).mp q i (by omega)
            rw [z] at this; exact absurd this (by decide)
        rw [e1] at h; exact h
  exact H (e - i0) i0 (by omega) (by omega) h0
theorem lo_ex (W : Nat → Nat → Prop) (c : Nat → Bool) (e : Nat) (P : Bool → Prop) (h : P (ps_all c e)) (hx : ∀ n, P true → W (n + 1) e) (hs : ∀ n i, i < e → (c i = true → W n (i + 1)) → (c i = false → P false) → W (n + 1) i) : W (e + 1) 0 :=
  lo_exS W c e 0 P rfl (by omega) h hx (fun n i _ => hs n i)
/-- a loop that keeps a truth value -/
theorem lo_bo (W : Nat → Nat → Bool → Prop) (c : Nat → Bool) (e : Nat) (hx : ∀ n, W (n + 1) e (ps_all c e)) (hs : ∀ n i s, i < e → W n (i + 1) (s && c i) → W (n + 1) i s) : W (e + 1) 0 true := by
  refine lo_fo W (fun i s => s && c i) true e 0 hx ?_ e 0 (by omega) (by omega)
  intro n i s _ hi w
  exact hs n i s hi w
theorem ps_Ot (b : Nat) (c : Nat → Bool) (f : Nat → Nat) (n x : Nat) : (ps_O b c f n).testBit x = true ↔ b.testBit x = true ∨ ∃ i, i < n ∧ c i = true ∧ (f i).testBit x = true := by
  induction n with
  | zero =>
    show b.testBit x = true ↔ _
    exact ⟨Or.inl, fun h => h.elim id (fun ⟨i, hi, _⟩ => absurd hi (by omega))⟩
  | succ n ih =>
    have e : ps_O b c f (n + 1) = if c n then ps_O b c f n ||| f n else ps_O b c f n := rfl
    rw [e]
    cases z : c n
    · rw [if_neg (by decide), ih]
      constructor
      · rintro (h | ⟨i, hi, h⟩)
        · exact Or.inl h
        · exact Or.inr ⟨i, by omega, h⟩
      · rintro (h | ⟨i, hi, h1, h2⟩)
        · exact Or.inl h
        · refine Or.inr ⟨i, ?_, h1, h2⟩
          by_cases q : i = n
          · subst q; rw [z] at h1; exact absurd h1 (by decide)
          · omega
    · rw [if_pos rfl, Nat.testBit_or, Bool.or_eq_true, ih]
      constructor
      · rintro ((h | ⟨i, hi, h⟩) | h)
        · exact Or.inl h
        · exact Or.inr ⟨i, by omega, h⟩
        · exact Or.inr ⟨n, by omega, z, h⟩
      · rintro (h | ⟨i, hi, h1, h2⟩)
        · exact Or.inl (Or.inl h)
        · by_cases q : i = n
          · subst q; exact Or.inr h2
          · exact Or.inl (Or.inr ⟨i, by omega, h1, h2⟩)
theorem ps_At (b : Nat) (c : Nat → Bool) (f : Nat → Nat) (n x : Nat) : (ps_A b c f n).testBit x = true ↔ b.testBit x = true ∧ ∀ i, i < n → c i = true → (f i).testBit x = true := by
  induction n with
  | zero =>
    show b.testBit x = true ↔ _
    exact ⟨fun h => ⟨h, fun i hi => absurd hi (by omega)⟩, fun h => h.1⟩
  | succ n ih =>
    have e : ps_A b c f (n + 1) = if c n then ps_A b c f n &&& f n else ps_A b c f n := rfl
    rw [e]
    cases z : c n
    · rw [if_neg (by decide), ih]
      constructor
      · rintro ⟨h, g⟩
        refine ⟨h, fun i hi h1 => ?_⟩
        by_cases q : i = n
        · subst q; rw [z] at h1; exact absurd h1 (by decide)
        · exact g i (by omega) h1
      · rintro ⟨h, g⟩
        exact ⟨h, fun i hi => g i (by omega)⟩
    · rw [if_pos rfl, Nat.testBit_and, Bool.and_eq_true, ih]
      constructor
      · rintro ⟨⟨h, g⟩, k⟩
        refine ⟨h, fun i hi h1 => ?_⟩
        by_cases q : i = n
        · subst q; exact k
        · exact g i (by omega) h1
      · rintro ⟨h, g⟩
        exact ⟨⟨h, fun i hi => g i (by omega)⟩, g n (by omega) z⟩
theorem ps_Olt {k : Nat} {b : Nat} {c : Nat → Bool} {f : Nat → Nat} {n : Nat} (hb : b < 2 ^ k) (hf : ∀ i, i < n → c i = true → f i < 2 ^ k) : ps_O b c f n < 2 ^ k := by
  induction n with
  | zero => exact hb
  | succ n ih =>
    have e : ps_O b c f (n + 1) = if c n then ps_O b c f n ||| f n else ps_O b c f n := rfl
    rw [e]
    cases z : c n
    · rw [if_neg (by decide)]; exact ih (fun i hi => hf i (by omega))
    · rw [if_pos rfl]; exact Nat.or_lt_two_pow (ih (fun i hi => hf i (by omega))) (hf n (by omega) z)
theorem ps_Ale (b : Nat) (c : Nat → Bool) (f : Nat → Nat) (n : Nat) : ps_A b c f n ≤ b := by
  induction n with
  | zero => exact Nat.le_refl _
  | succ n ih =>
    have e : ps_A b c f (n + 1) = if c n then ps_A b c f n &&& f n else ps_A b c f n := rfl
    rw [e]
    cases z : c n
    · rw [if_neg (by decide)]; exact ih
    · rw [if_pos rfl]; exact Nat.le_trans Nat.and_le_left ih
theorem ps_Oc {b : Nat} {c c' : Nat → Bool} {f f' : Nat → Nat} {n : Nat} (hc : ∀ i, i < n → c i = c' i) (hf : ∀ i, i < n → f i = f' i) : ps_O b c f n = ps_O b c' f' n := by
  induction n with
  | zero => rfl
  | succ n ih =>
    show (if c n then ps_O b c f n ||| f n else ps_O b c f n) = (if c' n then ps_O b c' f' n ||| f' n else ps_O b c' f' n)
    rw [ih (fun i hi => hc i (by omega)) (fun i hi => hf i (by omega)), hc n (by omega), hf n (by omega)]
theorem ps_Cc {c c' : Nat → Bool} {n : Nat} (hc : ∀ i, i < n → c i = c' i) : ps_C c n = ps_C c' n := by
  induction n with
  | zero => rfl
  | succ n ih =>
    show (if c n then ps_C c n + 1 else ps_C c n) = (if c' n then ps_C c' n + 1 else ps_C c' n)
    rw [ih (fun i hi => hc i (by omega)), hc n (by omega)]
theorem ps_allc {c c' : Nat → Bool} {n : Nat} (hc : ∀ i, i < n → c i = c' i) : ps_all c n = ps_all c' n := by
  induction n with
  | zero => rfl
  | succ n ih =>
    show (ps_all c n && c n) = (ps_all c' n && c' n)
    rw [ih (fun i hi => hc i (by omega)), hc n (by omega)]
theorem ps_Cle (c : Nat → Bool) (n : Nat) : ps_C c n ≤ n := by
  induction n with
  | zero => exact Nat.le_refl _
  | succ n ih =>
    show (if c n then ps_C c n + 1 else ps_C c n) ≤ n + 1
    split <;> omega
theorem ps_beq {a b : Bool} (h : a = true ↔ b = true) : a = b := by
  cases a
  · cases b
    · rfl
    · exact absurd (h.mpr rfl) (by decide)
  · exact (h.mp rfl).symm
end
section
/-! the pure pictures -/
def pv_lw (F : Int32) (x : Nat) : Nat := ps_A 31 (fun V => bt F V && V.testBit x) (fun V => V) 32
def pv_hl (F : Int32) (V : Nat) : Bool := ps_all (fun x => !V.testBit x || ps_wi (nI (pv_lw F x)) (nI V)) 5
def pv_ls (F : Int32) : Nat := ps_O 0 (pv_hl F) (fun V => 2 ^ V) 32
def pv_tie (F : Int32) (a b : Nat) : Nat := ps_O 0 (fun V => bt F V && (!V.testBit a || V.testBit b)) (fun V => 2 ^ V) 32
def pv_cx (F : Int32) : Nat := ps_O 0 (fun V => bt F (31 - V)) (fun V => 2 ^ V) 32
def pv_cy (F : Int32) : Nat := ps_O 0 (bt F) (fun V => 2 ^ (31 - V)) 32
def pv_im (m x : Nat) : Nat := m / 5 ^ x % 5
def pv_co (m V : Nat) : Nat := ps_O 0 (fun x => V.testBit (pv_im m x)) (fun x => 2 ^ x) 5
def pv_pull (F : Int32) (m : Nat) : Nat := ps_O 0 (bt F) (fun V => 2 ^ pv_co m V) 32
def pv_push (F : Int32) (m : Nat) : Nat := ps_O 0 (fun V => bt F (pv_co m V)) (fun V => 2 ^ V) 32
def pv_in (F : Int32) (S : Nat) : Nat := ps_O 0 (fun V => bt F V && ps_wi (nI V) (nI S)) (fun V => V) 32
def pv_cl (F : Int32) (S : Nat) : Nat := 31 - pv_in F (31 - S)
def pv_ta (m V : Nat) : Nat := ps_O 0 (fun x => V.testBit x) (fun x => 2 ^ pv_im m x) 5
def pv_bk (F T : Int32) (m : Nat) : Bool := ps_all (fun V => !bt F V || bt T (pv_ta m V)) 32
theorem pv_im_lt (m x : Nat) : pv_im m x < 5 := Nat.mod_lt _ (by decide)
theorem pv_p2 : ∀ x, x < 5 → 2 ^ x < 2 ^ 5 := by decide
theorem pv_co_lt (m V : Nat) : pv_co m V < 32 := ps_Olt (k := 5) (by decide) (fun x hx _ => pv_p2 x hx)
theorem pv_ta_lt (m V : Nat) : pv_ta m V < 32 := ps_Olt (k := 5) (by decide) (fun x hx _ => pv_p2 _ (pv_im_lt m x))
theorem pv_in_lt (F : Int32) (S : Nat) : pv_in F S < 32 := ps_Olt (k := 5) (by decide) (fun x hx _ => hx)
theorem pv_lw_lt (F : Int32) (x : Nat) : pv_lw F x < 32 := Nat.lt_of_le_of_lt (ps_Ale _ _ _ _) (by decide)
theorem pv_cl_lt (F : Int32) (S : Nat) : pv_cl F S < 32 := by unfold pv_cl; omega
theorem ps_32 {i : Nat} (h : i < 32) : ¬ (32 : Int32) ≤ nI i := nI_ge (b := 32) h (by decide)
theorem ps_32e : (32 : Int32) ≤ nI 32 := nI_le (a := 32) (b := 32) (by decide) (by decide)
theorem ps_5 {i : Nat} (h : i < 5) : ¬ (5 : Int32) ≤ nI i := nI_ge (b := 5) h (by decide)
theorem ps_5e : (5 : Int32) ≤ nI 5 := nI_le (a := 5) (b := 5) (by decide) (by decide)
theorem ps_m {i : Nat} (h : i < 3125) : ¬ (3125 : Int32) ≤ nI i := nI_ge (b := 3125) h (by decide)
theorem ps_me : (3125 : Int32) ≤ nI 3125 := nI_le (a := 3125) (b := 3125) (by decide) (by decide)
theorem ps_dle (m i : Nat) : m / 5 ^ i ≤ m := Nat.div_le_self _ _
theorem ps_dv {m : Nat} (h : m < 2 ^ 31) (i : Nat) : nI (m / 5 ^ i) / 5 = nI (m / 5 ^ (i + 1)) := by
  have := ps_dle m i
  have e := pk_div (a := m / 5 ^ i) (d := 5) (by omega) (by decide) (by decide)
  rw [Nat.div_div_eq_div_mul, ← Nat.pow_succ] at e
  exact e
theorem ps_md {m : Nat} (h : m < 2 ^ 31) (i : Nat) : nI (m / 5 ^ i) - nI (m / 5 ^ i) / 5 * 5 = nI (pv_im m i) := by
  have := ps_dle m i
  exact pk_rem (a := m / 5 ^ i) (d := 5) (by omega) (by decide) (by decide)
theorem ps_n50 : ¬ (5 : Int32) = 0 := by decide
/-! the component's walks -/
theorem hx_has {post : Int32 → Prop} {F : Int32} {i : Nat} (hi : i < 32) (h : post (ps_b (bt F i))) : wpX_has post F (nI i) := by
  have e : (((F.toUInt32 >>> ((nI i).toUInt32 &&& Int32.toUInt32 31)).toInt32) &&& 1) = 1 ↔ bt F i = true := by
    rw [ps_a1, b_ushr i hi, Nat.add_zero]
  unfold wpX_has
  cases z : bt F i
  · rw [z] at h e; exact br_f (fun q => absurd (e.mp q) (by decide)) h
  · rw [z] at h e; exact br_t (e.mpr rfl) h
theorem hx_hasE {post : Int32 → Prop} {F y : Int32} {i : Nat} (hy : y = nI i) (hi : i < 32) (h : post (ps_b (bt F i))) : wpX_has post F y := by
  rw [hy]; exact hx_has hi h
theorem hx_hasN {post : Int32 → Prop} {V i : Nat} (hi : i < 32) (h : post (ps_b (V.testBit i))) : wpX_has post (nI V) (nI i) :=
  hx_has hi (by rw [ps_bt V hi]; exact h)
theorem hx_hasNE {post : Int32 → Prop} {V i : Nat} {y : Int32} (hy : y = nI i) (hi : i < 32) (h : post (ps_b (V.testBit i))) : wpX_has post (nI V) y := by
  rw [hy]; exact hx_hasN hi h
theorem xv_within {post : Int32 → Prop} {A B : Int32} (h : post (ps_b (ps_wi A B))) : wpX_isWithin post A B := by
  unfold wpX_isWithin
  by_cases z : A &&& (B ^^^ (-1)) = 0
  · have e : ps_wi A B = true := decide_eq_true z
    rw [e] at h; exact br_t z h
  · have e : ps_wi A B = false := decide_eq_false z
    rw [e] at h; exact br_f z h
theorem xv_count {post : Int32 → Prop} {F : Int32} (h : post (nI (ps_C (bt F) 32))) : wpX_countOnes post F := by
  unfold wpX_countOnes
  exact ⟨_, lo_C (fun n i s => wX_countOnes_4 post F n (nI s) (nI i)) (bt F) 32 (fun n => br_t ps_32e h) (fun n i s hi t f => br_f (ps_32 hi) (hx_has hi (ps_br (fun b => nm_r (nI_1 s) (nm_r (nI_1 i) (t b))) (fun b => nm_r (nI_1 i) (f b)))))⟩
theorem xv_leastWith {post : Int32 → Prop} {F : Int32} {x : Nat} (hx : x < 5) (h : post (nI (pv_lw F x))) : wpX_leastWith post F (nI x) := by
  unfold wpX_leastWith
  exact ⟨_, lo_A (fun n i s => wX_leastWith_5 post F (nI x) n (nI s) (nI i)) 31 (fun V => bt F V && V.testBit x) (fun V => V) 32 (fun n => br_t ps_32e h) (fun n i s hi t f => br_f (ps_32 hi) (hx_has hi (ps_br (fun b1 => hx_hasN (by omega) (ps_br (fun b2 => nm_r (nx_and s i) (nm_r (nI_1 i) (t (by rw [b1, b2]; rfl)))) (fun b2 => nm_r (nI_1 i) (f (by rw [b1, b2]; rfl))))) (fun b1 => nm_r (nI_1 i) (f (by rw [b1]; rfl))))))⟩
theorem xv_holds {post : Int32 → Prop} {F : Int32} {V : Nat} (h : post (ps_b (pv_hl F V))) : wpX_holdsLeastOfEachPoint post F (nI V) := by
  unfold wpX_holdsLeastOfEachPoint
  exact ⟨_, lo_ex (fun n i => wX_holdsLeastOfEachPoint_2 post F (nI V) n (nI i)) (fun x => !V.testBit x || ps_wi (nI (pv_lw F x)) (nI V)) 5 (fun b => post (ps_b b)) h (fun n p => br_t ps_5e p) (fun n i hi t f => br_f (ps_5 hi) (hx_hasN (by omega) (ps_br (fun b1 => xv_leastWith hi (xv_within (ps_br (fun b2 => nm_r (nI_1 i) (t (by rw [b1, b2]; rfl))) (fun b2 => f (by rw [b1, b2]; rfl))))) (fun b1 => nm_r (nI_1 i) (t (by rw [b1]; rfl))))))⟩
theorem xv_leastSpace {post : Int32 → Prop} {F : Int32} (h : post (nI (pv_ls F))) : wpX_leastSpace post F := by
  unfold wpX_leastSpace
  exact ⟨_, lo_O (fun n i s => wX_leastSpace_4 post F n (nI s) (nI i)) 0 (pv_hl F) (fun V => 2 ^ V) 32 (fun n => br_t ps_32e h) (fun n i s hi t f => br_f (ps_32 hi) (xv_holds (ps_br (fun b => nm_r (ps_sb s hi) (nm_r (nI_1 i) (t b))) (fun b => nm_r (nI_1 i) (f b)))))⟩
theorem xv_tied {post : Int32 → Prop} {F : Int32} {a b : Nat} (ha : a < 5) (hb : b < 5) (h : post (nI (pv_tie F a b))) : wpX_tiedFamily post F (nI a) (nI b) := by
  unfold wpX_tiedFamily
  exact ⟨_, lo_O (fun n i s => wX_tiedFamily_5 post F (nI a) (nI b) n (nI s) (nI i)) 0 (fun V => bt F V && (!V.testBit a || V.testBit b)) (fun V => 2 ^ V) 32 (fun n => br_t ps_32e h) (fun n i s hi t f => br_f (ps_32 hi) (hx_has hi (ps_br (fun b1 => hx_hasN (by omega) (ps_br (fun b2 => hx_hasN (by omega) (ps_br (fun b3 => nm_r (ps_sb s hi) (nm_r (nI_1 i) (t (by rw [b1, b2, b3]; rfl)))) (fun b3 => nm_r (nI_1 i) (f (by rw [b1, b2, b3]; rfl))))) (fun b2 => nm_r (ps_sb s hi) (nm_r (nI_1 i) (t (by rw [b1, b2]; rfl)))))) (fun b1 => nm_r (nI_1 i) (f (by rw [b1]; rfl))))))⟩
theorem xv_closed {post : Int32 → Prop} {F : Int32} (h : post (nI (pv_cx F))) : wpX_closedSets post F := by
  unfold wpX_closedSets
  exact ⟨_, lo_O (fun n i s => wX_closedSets_4 post F n (nI s) (nI i)) 0 (fun V => bt F (31 - V)) (fun V => 2 ^ V) 32 (fun n => br_t ps_32e h) (fun n i s hi t f => br_f (ps_32 hi) (hx_hasE (ps_sub31 i hi) (by omega) (ps_br (fun b => nm_r (ps_sb s hi) (nm_r (nI_1 i) (t b))) (fun b => nm_r (nI_1 i) (f b)))))⟩
theorem xv_coming {post : Int32 → Prop} {m V : Nat} (hm : m < 2 ^ 31) (h : post (nI (pv_co m V))) : wpX_comingTo post (nI m) (nI V) := by
  unfold wpX_comingTo
  have e0 : nI m = nI (m / 5 ^ 0) := by rw [Nat.pow_zero, Nat.div_one]
  rw [e0]
  exact ⟨_, lo_O (fun n i s => wX_comingTo_7 post (nI V) n (nI s) (nI (m / 5 ^ i)) (nI i)) 0 (fun x => V.testBit (pv_im m x)) (fun x => 2 ^ x) 5 (fun n => br_t ps_5e h) (fun n i s hi t f => br_f (ps_5 hi) ⟨ps_n50, hx_hasNE (ps_md hm i) (by have := pv_im_lt m i; omega) (ps_br (fun b => nm_r (ps_sb s (by omega)) ⟨ps_n50, nm_r (ps_dv hm i) (nm_r (nI_1 i) (t b))⟩) (fun b => ⟨ps_n50, nm_r (ps_dv hm i) (nm_r (nI_1 i) (f b))⟩))⟩)⟩
theorem xv_pulled {post : Int32 → Prop} {F : Int32} {m : Nat} (hm : m < 2 ^ 31) (h : post (nI (pv_pull F m))) : wpX_pulledFamily post F (nI m) := by
  unfold wpX_pulledFamily
  exact ⟨_, lo_O (fun n i s => wX_pulledFamily_4 post F (nI m) n (nI s) (nI i)) 0 (bt F) (fun V => 2 ^ pv_co m V) 32 (fun n => br_t ps_32e h) (fun n i s hi t f => br_f (ps_32 hi) (hx_has hi (ps_br (fun b => xv_coming hm (nm_r (ps_sb s (pv_co_lt m i)) (nm_r (nI_1 i) (t b)))) (fun b => nm_r (nI_1 i) (f b)))))⟩
theorem xv_pushed {post : Int32 → Prop} {F : Int32} {m : Nat} (hm : m < 2 ^ 31) (h : post (nI (pv_push F m))) : wpX_pushedFamily post F (nI m) := by
  unfold wpX_pushedFamily
  exact ⟨_, lo_O (fun n i s => wX_pushedFamily_4 post F (nI m) n (nI s) (nI i)) 0 (fun V => bt F (pv_co m V)) (fun V => 2 ^ V) 32 (fun n => br_t ps_32e h) (fun n i s hi t f => br_f (ps_32 hi) (xv_coming hm (hx_has (pv_co_lt m i) (ps_br (fun b => nm_r (ps_sb s hi) (nm_r (nI_1 i) (t b))) (fun b => nm_r (nI_1 i) (f b))))))⟩
theorem xv_inner {post : Int32 → Prop} {F : Int32} {S : Nat} (h : post (nI (pv_in F S))) : wpX_innerPart post F (nI S) := by
  unfold wpX_innerPart
  exact ⟨_, lo_O (fun n i s => wX_innerPart_4 post F (nI S) n (nI s) (nI i)) 0 (fun V => bt F V && ps_wi (nI V) (nI S)) (fun V => V) 32 (fun n => br_t ps_32e h) (fun n i s hi t f => br_f (ps_32 hi) (hx_has hi (ps_br (fun b1 => xv_within (ps_br (fun b2 => nm_r (ps_or s i) (nm_r (nI_1 i) (t (by rw [b1, b2]; rfl)))) (fun b2 => nm_r (nI_1 i) (f (by rw [b1, b2]; rfl))))) (fun b1 => nm_r (nI_1 i) (f (by rw [b1]; rfl))))))⟩
theorem xv_closure {post : Int32 → Prop} {F : Int32} {S : Nat} (hS : S < 32) (h : post (nI (pv_cl F S))) : wpX_closureOf post F (nI S) := by
  unfold wpX_closureOf
  rw [ps_sub31 S hS]
  refine xv_inner ?_
  rw [ps_sub31 _ (pv_in_lt F _)]
  exact h
theorem xv_closureP {post : Int32 → Prop} {F : Int32} {x : Nat} (hx : x < 5) (h : post (nI (pv_cl F (2 ^ x)))) : wpX_closureOf post F ((1 : Int32) <<< (nI x &&& 31)) := by
  rw [ps_one x (by omega)]
  exact xv_closure (pv_p2 x hx) h
theorem xv_taken {post : Int32 → Prop} {m V : Nat} (hm : m < 2 ^ 31) (h : post (nI (pv_ta m V))) : wpX_takenFrom post (nI m) (nI V) := by
  unfold wpX_takenFrom
  have e0 : nI m = nI (m / 5 ^ 0) := by rw [Nat.pow_zero, Nat.div_one]
  rw [e0]
  exact ⟨_, lo_O (fun n i s => wX_takenFrom_7 post (nI V) n (nI s) (nI (m / 5 ^ i)) (nI i)) 0 (fun x => V.testBit x) (fun x => 2 ^ pv_im m x) 5 (fun n => br_t ps_5e h) (fun n i s hi t f => br_f (ps_5 hi) (hx_hasN (by omega) (ps_br (fun b => ⟨ps_n50, nm_r (by rw [ps_md hm i]; exact ps_sb s (Nat.lt_trans (pv_im_lt m i) (by decide))) ⟨ps_n50, nm_r (ps_dv hm i) (nm_r (nI_1 i) (t b))⟩⟩) (fun b => ⟨ps_n50, nm_r (ps_dv hm i) (nm_r (nI_1 i) (f b))⟩))))⟩
theorem xv_cont {post : Int32 → Prop} {F T : Int32} {m : Nat} (hm : m < 2 ^ 31) (h : post (ps_b (ps_wi (nI (pv_pull T m)) F))) : wpX_isContinuous post F T (nI m) := by
  unfold wpX_isContinuous
  exact xv_pulled hm (xv_within ⟨ps_nb _, h⟩)
theorem xv_back {post : Int32 → Prop} {F T : Int32} {m : Nat} (hm : m < 2 ^ 31) (h : post (ps_b (pv_bk F T m))) : wpX_takesOpenToOpen post F T (nI m) := by
  unfold wpX_takesOpenToOpen
  exact ⟨_, lo_ex (fun n i => wX_takesOpenToOpen_2 post F T (nI m) n (nI i)) (fun V => !bt F V || bt T (pv_ta m V)) 32 (fun b => post (ps_b b)) h (fun n p => br_t ps_32e p) (fun n i hi t f => br_f (ps_32 hi) (hx_has hi (ps_br (fun b1 => xv_taken hm (hx_has (pv_ta_lt m i) (ps_br (fun b2 => nm_r (nI_1 i) (t (by rw [b1, b2]; rfl))) (fun b2 => f (by rw [b1, b2]; rfl))))) (fun b1 => nm_r (nI_1 i) (t (by rw [b1]; rfl))))))⟩
end
section
/-! the reference's walks -/
def ps_n (F : Int32) : Nat := F.toBitVec.toNat
theorem ps_n_lt (F : Int32) : ps_n F < 2 ^ 32 := F.toBitVec.isLt
theorem ps_n_of (F : Int32) : nI (ps_n F) = F := by
  apply Int32.toBitVec_inj.1
  show BitVec.ofNat 32 F.toBitVec.toNat = F.toBitVec
  simp
def pv_with (F : Int32) (S : Nat) : Nat := ps_O (ps_n F) (fun p => bt F (p / 32) && bt F (p % 32)) (fun p => 2 ^ (p / 32 ||| (p % 32 &&& S))) 1024
def pv_join (F G : Int32) : Int32 := ps_fo (fun V s => if bt G V then nI (pv_with s V) else s) F 32
def pv_ct (F T : Int32) (m : Nat) : Bool := ps_all (fun V => !bt T V || bt F (pv_co m V)) 32
def pv_pc (F : Int32) (x : Nat) : Nat := pv_cl F (2 ^ x)
theorem hy_e {F : Int32} {i : Nat} (hi : i < 32) : ((F >>> (nI i &&& 31)) &&& 1) = 1 ↔ bt F i = true := by
  rw [ps_a1, b_sshr i hi _ (by omega), if_pos (by omega), Nat.add_zero]
theorem hy_in {post : Int32 → Prop} {fa ma ta : Nat → Int32} {F : Int32} {i : Nat} (hi : i < 32) (h : post (ps_b (bt F i))) : wpY_in post (fa, ma, ta) F (nI i) := by
  have e := hy_e (F := F) hi
  unfold wpY_in
  cases z : bt F i
  · rw [z] at h e; exact br_f (fun q => absurd (e.mp q) (by decide)) h
  · rw [z] at h e; exact br_t (e.mpr rfl) h
theorem hy_has {post : Int32 → Prop} {fa ma ta : Nat → Int32} {F : Int32} {i : Nat} (hi : i < 32) (h : post (ps_b (bt F i))) : wpY_has post (fa, ma, ta) F (nI i) := by
  have e := hy_e (F := F) hi
  unfold wpY_has
  cases z : bt F i
  · rw [z] at h e; exact br_f (fun q => absurd (e.mp q) (by decide)) h
  · rw [z] at h e; exact br_t (e.mpr rfl) h
theorem hy_hasN {post : Int32 → Prop} {fa ma ta : Nat → Int32} {V i : Nat} (hi : i < 32) (h : post (ps_b (V.testBit i))) : wpY_has post (fa, ma, ta) (nI V) (nI i) :=
  hy_has hi (by rw [ps_bt V hi]; exact h)
theorem yv_count {post : Int32 → Prop} {fa ma ta : Nat → Int32} {F : Int32} (h : post (nI (ps_C (bt F) 32))) : wpY_count post (fa, ma, ta) F := by
  unfold wpY_count
  exact ⟨_, lo_C (fun n i s => wY_count_4 post F fa ma ta n (nI s) (nI i)) (bt F) 32 (fun n => br_t ps_32e h) (fun n i s hi t f => br_f (ps_32 hi) (hy_in hi (ps_br (fun b => nm_r (nI_1 s) (nm_r (nI_1 i) (t b))) (fun b => nm_r (nI_1 i) (f b)))))⟩
theorem ps_n320 : ¬ (32 : Int32) = 0 := by decide
theorem ps_orlt {a b S : Nat} (ha : a < 32) (hb : b < 32) : (a ||| (b &&& S)) < 32 := Nat.or_lt_two_pow (n := 5) ha (Nat.lt_of_le_of_lt Nat.and_le_left hb)
theorem yv_with {post : Int32 → Prop} {fa ma ta : Nat → Int32} {F : Int32} {S : Nat} (h : post (nI (pv_with F S))) : wpY_with post (fa, ma, ta) F (nI S) := by
  unfold wpY_with
  have L := lo_O (fun n i s => wY_with_5 post F (nI S) fa ma ta n (nI s) (nI i)) (ps_n F) (fun p => bt F (p / 32) && bt F (p % 32)) (fun p => 2 ^ (p / 32 ||| (p % 32 &&& S))) 1024 (fun n => br_t (nI_le (a := 1024) (b := 1024) (by decide) (by decide)) h) (fun n i s hi t f => br_f (nI_ge (b := 1024) hi (by decide)) ⟨ps_n320, nm_r (pk_div (a := i) (d := 32) (by omega) (by decide) (by decide)) ⟨ps_n320, nm_r (pk_rem (a := i) (d := 32) (by omega) (by decide) (by decide)) (hy_in (by omega) (ps_br (fun b1 => hy_in (by omega) (ps_br (fun b2 => nm_r (by rw [nx_and, ps_or]; exact ps_sb s (ps_orlt (by omega) (by omega))) (nm_r (nI_1 i) (t (by rw [b1, b2]; rfl)))) (fun b2 => nm_r (nI_1 i) (f (by rw [b1, b2]; rfl))))) (fun b1 => nm_r (nI_1 i) (f (by rw [b1]; rfl)))))⟩⟩)
  rw [ps_n_of] at L
  exact ⟨_, L⟩
theorem yv_joined {post : Int32 → Prop} {fa ma ta : Nat → Int32} {F G : Int32} (h : post (pv_join F G)) : wpY_joined post (fa, ma, ta) F G := by
  unfold wpY_joined
  refine ⟨_, lo_fo (fun n i s => wY_joined_5 post G fa ma ta n s (nI i)) (fun V s => if bt G V then nI (pv_with s V) else s) F 32 0 (fun n => br_t ps_32e h) ?_ 32 0 (by omega) (by omega)⟩
  intro n i s _ hi w
  refine br_f (ps_32 hi) (hy_in hi (ps_br (fun b => ?_) (fun b => ?_)))
  · rw [b] at w
    exact yv_with (nm_r (nI_1 i) w)
  · rw [b] at w
    exact nm_r (nI_1 i) w
theorem yv_tied {post : Int32 → Prop} {fa ma ta : Nat → Int32} {F : Int32} {a b : Nat} (ha : a < 5) (hb : b < 5) (h : post (nI (pv_tie F a b))) : wpY_tied post (fa, ma, ta) F (nI a) (nI b) := by
  unfold wpY_tied
  exact ⟨_, lo_O (fun n i s => wY_tied_6 post F (nI a) (nI b) fa ma ta n (nI s) (nI i)) 0 (fun V => bt F V && (!V.testBit a || V.testBit b)) (fun V => 2 ^ V) 32 (fun n => br_t ps_32e h) (fun n i s hi t f => br_f (ps_32 hi) (hy_in hi (ps_br (fun b1 => hy_hasN (by omega) (ps_br (fun b2 => hy_hasN (by omega) (ps_br (fun b3 => nm_r (ps_sb s hi) (nm_r (nI_1 i) (t (by rw [b1, b2, b3]; rfl)))) (fun b3 => nm_r (nI_1 i) (f (by rw [b1, b2, b3]; rfl))))) (fun b2 => nm_r (ps_sb s hi) (nm_r (nI_1 i) (t (by rw [b1, b2]; rfl)))))) (fun b1 => nm_r (nI_1 i) (f (by rw [b1]; rfl))))))⟩
theorem yv_turned {post : Int32 → Prop} {fa ma ta : Nat → Int32} {F : Int32} (h : post (nI (pv_cy F))) : wpY_turned post (fa, ma, ta) F := by
  unfold wpY_turned
  exact ⟨_, lo_O (fun n i s => wY_turned_4 post F fa ma ta n (nI s) (nI i)) 0 (bt F) (fun V => 2 ^ (31 - V)) 32 (fun n => br_t ps_32e h) (fun n i s hi t f => br_f (ps_32 hi) (hy_in hi (ps_br (fun b => nm_r (by rw [ps_sub31 i hi]; exact ps_sb s (by omega)) (nm_r (nI_1 i) (t b))) (fun b => nm_r (nI_1 i) (f b)))))⟩
theorem yv_image {post : Int32 → Prop} {fa ma ta : Nat → Int32} {m x : Nat} (hm : m < 2 ^ 31) (hx : x < 5) (h : post (nI (pv_im m x))) : wpY_image post (fa, ma, ta) (nI m) (nI x) := by
  unfold wpY_image
  have L := lo_fo (fun n i (_ : Unit) => wY_image_5 post (nI x) fa ma ta n (nI (m / 5 ^ i)) (nI i)) (fun _ s => s) () x 0 (fun n => br_t (nI_le (Nat.le_refl x) (by omega)) ⟨ps_n50, by rw [ps_md hm x]; exact h⟩) (fun n i s _ hi w => br_f (nI_ge hi (by omega)) ⟨ps_n50, nm_r (ps_dv hm i) (nm_r (nI_1 i) w)⟩) x 0 (by omega) (by omega)
  rw [Nat.pow_zero, Nat.div_one] at L
  exact ⟨_, L⟩
theorem yv_comes {post : Int32 → Prop} {fa ma ta : Nat → Int32} {m V : Nat} (hm : m < 2 ^ 31) (h : post (nI (pv_co m V))) : wpY_comesTo post (fa, ma, ta) (nI m) (nI V) := by
  unfold wpY_comesTo
  exact ⟨_, lo_O (fun n i s => wY_comesTo_5 post (nI m) (nI V) fa ma ta n (nI s) (nI i)) 0 (fun x => V.testBit (pv_im m x)) (fun x => 2 ^ x) 5 (fun n => br_t ps_5e h) (fun n i s hi t f => br_f (ps_5 hi) (yv_image hm hi (hy_hasN (Nat.lt_trans (pv_im_lt m i) (by decide)) (ps_br (fun b => nm_r (ps_sb s (by omega)) (nm_r (nI_1 i) (t b))) (fun b => nm_r (nI_1 i) (f b))))))⟩
theorem yv_pulled {post : Int32 → Prop} {fa ma ta : Nat → Int32} {F : Int32} {m : Nat} (hm : m < 2 ^ 31) (h : post (nI (pv_pull F m))) : wpY_pulled post (fa, ma, ta) F (nI m) := by
  unfold wpY_pulled
  exact ⟨_, lo_O (fun n i s => wY_pulled_5 post F (nI m) fa ma ta n (nI s) (nI i)) 0 (bt F) (fun V => 2 ^ pv_co m V) 32 (fun n => br_t ps_32e h) (fun n i s hi t f => br_f (ps_32 hi) (yv_comes hm (hy_in hi (ps_br (fun b => nm_r (ps_sb s (pv_co_lt m i)) (nm_r (nI_1 i) (t b))) (fun b => nm_r (nI_1 i) (f b))))))⟩
theorem yv_pushed {post : Int32 → Prop} {fa ma ta : Nat → Int32} {F : Int32} {m : Nat} (hm : m < 2 ^ 31) (h : post (nI (pv_push F m))) : wpY_pushed post (fa, ma, ta) F (nI m) := by
  unfold wpY_pushed
  exact ⟨_, lo_O (fun n i s => wY_pushed_5 post F (nI m) fa ma ta n (nI s) (nI i)) 0 (fun V => bt F (pv_co m V)) (fun V => 2 ^ V) 32 (fun n => br_t ps_32e h) (fun n i s hi t f => br_f (ps_32 hi) (yv_comes hm (hy_in (pv_co_lt m i) (ps_br (fun b => nm_r (ps_sb s hi) (nm_r (nI_1 i) (t b))) (fun b => nm_r (nI_1 i) (f b))))))⟩
theorem yv_inner {post : Int32 → Prop} {fa ma ta : Nat → Int32} {F : Int32} {S : Nat} (h : post (nI (pv_in F S))) : wpY_innerPart post (fa, ma, ta) F (nI S) := by
  unfold wpY_innerPart
  refine ⟨_, lo_O (fun n i s => wY_innerPart_5 post F (nI S) fa ma ta n (nI s) (nI i)) 0 (fun V => bt F V && ps_wi (nI V) (nI S)) (fun V => V) 32 (fun n => br_t ps_32e h) (fun n i s hi t f => br_f (ps_32 hi) (hy_in hi (ps_br (fun b1 => br_c (fun z => ?_) (fun z => ?_)) (fun b1 => nm_r (nI_1 i) (f (by rw [b1]; rfl))))))⟩
  · exact nm_r (ps_or s i) (nm_r (nI_1 i) (t (by rw [b1, show ps_wi (nI i) (nI S) = true from decide_eq_true z]; rfl)))
  · exact nm_r (nI_1 i) (f (by rw [b1, show ps_wi (nI i) (nI S) = false from decide_eq_false z]; rfl))
theorem yv_closure {post : Int32 → Prop} {fa ma ta : Nat → Int32} {F : Int32} {S : Nat} (hS : S < 32) (h : post (nI (pv_cl F S))) : wpY_closureOf post (fa, ma, ta) F (nI S) := by
  unfold wpY_closureOf
  dsimp only
  rw [ps_sub31 S hS]
  refine yv_inner ?_
  rw [ps_sub31 _ (pv_in_lt F _)]
  exact h
theorem yv_pc {post : Int32 → Prop} {fa ma ta : Nat → Int32} {p : Int32} (hp : vp_in p 3) {x : Nat} (hx : x < 5) (h : post (nI (pv_pc (fa p.toNatClampNeg) x))) : wpY_pointClosure post (fa, ma, ta) p (nI x) := by
  unfold wpY_pointClosure
  dsimp only
  rw [ps_one x (by omega)]
  exact ⟨hp, yv_closure (pv_p2 x hx) h⟩
theorem yv_leastWith {post : Int32 → Prop} {fa ma ta : Nat → Int32} {F : Int32} {x : Nat} (hx : x < 5) (h : post (nI (pv_lw F x))) : wpY_leastWith post (fa, ma, ta) F (nI x) := by
  unfold wpY_leastWith
  exact ⟨_, lo_A (fun n i s => wY_leastWith_6 post F (nI x) fa ma ta n (nI s) (nI i)) 31 (fun V => bt F V && V.testBit x) (fun V => V) 32 (fun n => br_t ps_32e h) (fun n i s hi t f => br_f (ps_32 hi) (hy_in hi (ps_br (fun b1 => hy_hasN (by omega) (ps_br (fun b2 => nm_r (nx_and s i) (nm_r (nI_1 i) (t (by rw [b1, b2]; rfl)))) (fun b2 => nm_r (nI_1 i) (f (by rw [b1, b2]; rfl))))) (fun b1 => nm_r (nI_1 i) (f (by rw [b1]; rfl))))))⟩
theorem yv_both {post : Int32 → Prop} {fa ma ta : Nat → Int32} {p : Int32} (hp : vp_in p 3) (h : post (fa p.toNatClampNeg &&& nI (pv_cy (fa p.toNatClampNeg)))) : wpY_both post (fa, ma, ta) p := by
  unfold wpY_both
  exact ⟨hp, hp, yv_turned h⟩
theorem yv_cont {post : Int32 → Prop} {fa ma ta : Nat → Int32} {p q : Int32} (hp : vp_in p 3) (hq : vp_in q 3) {m : Nat} (hm : m < 2 ^ 31) (h : post (ps_b (pv_ct (fa p.toNatClampNeg) (fa q.toNatClampNeg) m))) : wpY_isContinuous post (fa, ma, ta) p q (nI m) := by
  unfold wpY_isContinuous
  exact ⟨_, lo_ex (fun n i => wY_isContinuous_3 post p q (nI m) fa ma ta n (nI i)) (fun V => !bt (fa q.toNatClampNeg) V || bt (fa p.toNatClampNeg) (pv_co m V)) 32 (fun b => post (ps_b b)) h (fun n z => br_t ps_32e z) (fun n i hi t f => br_f (ps_32 hi) ⟨hq, hy_in hi (ps_br (fun b1 => ⟨hp, yv_comes hm (hy_in (pv_co_lt m i) (ps_br (fun b2 => nm_r (nI_1 i) (t (by rw [b1, b2]; rfl))) (fun b2 => f (by rw [b1, b2]; rfl))))⟩) (fun b1 => nm_r (nI_1 i) (t (by rw [b1]; rfl))))⟩)⟩
theorem yv_taken {post : Int32 → Prop} {fa ma ta : Nat → Int32} {m V : Nat} (hm : m < 2 ^ 31) (h : post (nI (pv_ta m V))) : wpY_taken post (fa, ma, ta) (nI m) (nI V) := by
  unfold wpY_taken
  exact ⟨_, lo_O (fun n i s => wY_taken_5 post (nI m) (nI V) fa ma ta n (nI s) (nI i)) 0 (fun x => V.testBit x) (fun x => 2 ^ pv_im m x) 5 (fun n => br_t ps_5e h) (fun n i s hi t f => br_f (ps_5 hi) (hy_hasN (by omega) (ps_br (fun b => yv_image hm hi (nm_r (ps_sb s (Nat.lt_trans (pv_im_lt m i) (by decide))) (nm_r (nI_1 i) (t b)))) (fun b => nm_r (nI_1 i) (f b)))))⟩
theorem yv_back {post : Int32 → Prop} {fa ma ta : Nat → Int32} {p q : Int32} (hp : vp_in p 3) (hq : vp_in q 3) {m : Nat} (hm : m < 2 ^ 31) (h : post (ps_b (pv_bk (fa p.toNatClampNeg) (fa q.toNatClampNeg) m))) : wpY_isBack post (fa, ma, ta) p q (nI m) := by
  unfold wpY_isBack
  refine ⟨_, lo_bo (fun n i s => wY_isBack_6 post p q (nI m) fa ma ta n (ps_b s) (nI i)) (fun V => !bt (fa p.toNatClampNeg) V || bt (fa q.toNatClampNeg) (pv_ta m V)) 32 (fun n => br_t ps_32e ⟨ps_nb _, h⟩) ?_⟩
  intro n i s hi w
  cases s
  · exact br_f (ps_32 hi) (br_t rfl (nm_r (nI_1 i) w))
  · refine br_f (ps_32 hi) (br_f (by decide) ⟨hp, hy_in hi (ps_br (fun b1 => ⟨hq, yv_taken hm (hy_in (pv_ta_lt m i) (ps_br (fun b2 => nm_r (nI_1 i) ?_) (fun b2 => nm_r (nI_1 i) ?_)))⟩) (fun b1 => nm_r (nI_1 i) ?_))⟩)
    · rw [b1, b2] at w; exact w
    · rw [b1, b2] at w; exact w
    · rw [b1] at w; exact w
end
section
/-! families of sets that are spaces -/
def tp_T (F : Int32) : Prop := bt F 0 = true ∧ bt F 31 = true ∧ ∀ a b, a < 32 → b < 32 → bt F a = true → bt F b = true → bt F (a ||| b) = true ∧ bt F (a &&& b) = true
/-- some set of F has x and not y -/
def tp_S (F : Int32) (x y : Nat) : Prop := ∃ V, V < 32 ∧ bt F V = true ∧ V.testBit x = true ∧ V.testBit y = false
theorem tb_lt {V x : Nat} (hV : V < 32) (h : V.testBit x = true) : x < 5 := by
  rcases Nat.lt_or_ge x 5 with q | q
  · exact q
  · rw [Nat.testBit_lt_two_pow (Nat.lt_of_lt_of_le hV (Nat.pow_le_pow_right (n := 2) (i := 5) (by decide) q))] at h
    exact absurd h (by decide)
theorem tb_31 (y : Nat) : (31 : Nat).testBit y = decide (y < 5) := Nat.testBit_two_pow_sub_one 5 y
theorem tb_f {b : Bool} (h : ¬ b = true) : b = false := by cases b; rfl; exact absurd rfl h
theorem tb_or {a b : Nat} (ha : a < 32) (hb : b < 32) : (a ||| b) < 32 := Nat.or_lt_two_pow (n := 5) ha hb
theorem tb_and {a b : Nat} (ha : a < 32) : (a &&& b) < 32 := Nat.lt_of_le_of_lt Nat.and_le_left ha
theorem tp_A {F : Int32} (hT : tp_T F) {b : Nat} {c : Nat → Bool} {f : Nat → Nat} {n : Nat} (hb : b < 32 ∧ bt F b = true) (hf : ∀ i, i < n → c i = true → f i < 32 ∧ bt F (f i) = true) : ps_A b c f n < 32 ∧ bt F (ps_A b c f n) = true := by
  induction n with
  | zero => exact hb
  | succ n ih =>
    have e : ps_A b c f (n + 1) = if c n then ps_A b c f n &&& f n else ps_A b c f n := rfl
    have i1 := ih (fun i hi => hf i (by omega))
    rw [e]
    cases z : c n
    · rw [if_neg (by decide)]; exact i1
    · rw [if_pos rfl]
      have i2 := hf n (by omega) z
      exact ⟨tb_and i1.1, (hT.2.2 _ _ i1.1 i2.1 i1.2 i2.2).2⟩
theorem tp_O {F : Int32} (hT : tp_T F) {b : Nat} {c : Nat → Bool} {f : Nat → Nat} {n : Nat} (hb : b < 32 ∧ bt F b = true) (hf : ∀ i, i < n → c i = true → f i < 32 ∧ bt F (f i) = true) : ps_O b c f n < 32 ∧ bt F (ps_O b c f n) = true := by
  induction n with
  | zero => exact hb
  | succ n ih =>
    have e : ps_O b c f (n + 1) = if c n then ps_O b c f n ||| f n else ps_O b c f n := rfl
    have i1 := ih (fun i hi => hf i (by omega))
    rw [e]
    cases z : c n
    · rw [if_neg (by decide)]; exact i1
    · rw [if_pos rfl]
      have i2 := hf n (by omega) z
      exact ⟨tb_or i1.1 i2.1, (hT.2.2 _ _ i1.1 i2.1 i1.2 i2.2).1⟩
theorem tp_lw (F : Int32) (x y : Nat) : (pv_lw F x).testBit y = true ↔ y < 5 ∧ ¬ tp_S F x y := by
  unfold pv_lw
  rw [ps_At, tb_31, decide_eq_true_iff]
  constructor
  · rintro ⟨h, g⟩
    refine ⟨h, ?_⟩
    rintro ⟨V, hV, a, b, c⟩
    have := g V hV (by rw [a, b]; rfl)
    rw [c] at this
    exact absurd this (by decide)
  · rintro ⟨h, g⟩
    refine ⟨h, fun V hV a => ?_⟩
    rw [Bool.and_eq_true] at a
    cases z : V.testBit y
    · exact absurd ⟨V, hV, a.1, a.2, z⟩ g
    · rfl
theorem tp_lwT {F : Int32} (hT : tp_T F) (x : Nat) : bt F (pv_lw F x) = true :=
  (tp_A hT ⟨by decide, hT.2.1⟩ (fun i hi h => ⟨hi, by rw [Bool.and_eq_true] at h; exact h.1⟩)).2
theorem ps_wn {a b : Nat} (ha : a < 32) (hb : b < 32) : ps_wi (nI a) (nI b) = true ↔ ∀ x, a.testBit x = true → b.testBit x = true := by
  rw [ps_wi_iff]
  constructor
  · intro h x q
    have hx := tb_lt ha q
    have := h x (by omega) (by rw [ps_bt a (by omega)]; exact q)
    rw [ps_bt b (by omega)] at this
    exact this
  · intro h i hi q
    rw [ps_bt a hi] at q
    rw [ps_bt b hi]
    exact h i q
theorem tp_hl (F : Int32) {V : Nat} (hV : V < 32) : pv_hl F V = true ↔ ∀ x y, x < 5 → y < 5 → V.testBit x = true → V.testBit y = false → tp_S F x y := by
  unfold pv_hl
  rw [ps_all_iff]
  constructor
  · intro h x y hx hy a b
    have h1 := h x hx
    rw [a, Bool.not_true, Bool.false_or, ps_wn (pv_lw_lt F x) hV] at h1
    rcases Classical.em (tp_S F x y) with q | q
    · exact q
    · have := h1 y ((tp_lw F x y).mpr ⟨hy, q⟩)
      rw [b] at this; exact absurd this (by decide)
  · intro h x hx
    cases a : V.testBit x
    · rfl
    · rw [Bool.not_true, Bool.false_or, ps_wn (pv_lw_lt F x) hV]
      intro y q
      have q2 := (tp_lw F x y).mp q
      cases b : V.testBit y
      · exact absurd (h x y hx q2.1 a b) q2.2
      · rfl
theorem tp_fix {F : Int32} (hT : tp_T F) {V : Nat} (hV : V < 32) : bt F V = true ↔ ∀ x y, x < 5 → y < 5 → V.testBit x = true → V.testBit y = false → tp_S F x y := by
  constructor
  · intro h x y _ _ a b
    exact ⟨V, hV, h, a, b⟩
  · intro h
    have e : ps_O 0 (fun x => V.testBit x) (pv_lw F) 5 = V := by
      apply Nat.eq_of_testBit_eq
      intro y
      apply ps_beq
      rw [ps_Ot]
      constructor
      · rintro (q | ⟨x, hx, a, q⟩)
        · rw [Nat.zero_testBit] at q; exact absurd q (by decide)
        · have q2 := (tp_lw F x y).mp q
          cases b : V.testBit y
          · exact absurd (h x y hx q2.1 a b) q2.2
          · rfl
      · intro q
        have hy := tb_lt hV q
        refine Or.inr ⟨y, hy, q, (tp_lw F y y).mpr ⟨hy, ?_⟩⟩
        rintro ⟨U, _, _, a, b⟩
        rw [a] at b; exact absurd b (by decide)
    have k := (tp_O hT (b := 0) (c := fun x => V.testBit x) (f := pv_lw F) (n := 5) ⟨by decide, hT.1⟩ (fun i hi _ => ⟨pv_lw_lt F i, tp_lwT hT i⟩)).2
    rw [e] at k
    exact k
theorem tp_eq {F G : Int32} (hF : tp_T F) (hG : tp_T G) (h : ∀ x y, x < 5 → y < 5 → (tp_S F x y ↔ tp_S G x y)) : F = G := by
  apply b_ext
  intro V hV
  apply ps_beq
  rw [tp_fix hF hV, tp_fix hG hV]
  constructor
  · intro q x y hx hy a b; exact (h x y hx hy).mp (q x y hx hy a b)
  · intro q x y hx hy a b; exact (h x y hx hy).mpr (q x y hx hy a b)
theorem ps_Op (c : Nat → Bool) {j : Nat} (hj : j < 32) : bt (nI (ps_O 0 c (fun V => 2 ^ V) 32)) j = c j := by
  rw [ps_bt _ hj]
  apply ps_beq
  rw [ps_Ot]
  constructor
  · rintro (q | ⟨i, hi, a, b⟩)
    · rw [Nat.zero_testBit] at q; exact absurd q (by decide)
    · rw [Nat.testBit_two_pow, decide_eq_true_iff] at b
      subst b; exact a
  · intro q
    exact Or.inr ⟨j, hj, q, Nat.testBit_two_pow_self⟩
theorem ps_Oi (c : Nat → Bool) (f : Nat → Nat) (n : Nat) {j : Nat} (hj : j < 32) : bt (nI (ps_O 0 c (fun V => 2 ^ f V) n)) j = true ↔ ∃ i, i < n ∧ c i = true ∧ f i = j := by
  rw [ps_bt _ hj, ps_Ot]
  constructor
  · rintro (q | ⟨i, hi, a, b⟩)
    · rw [Nat.zero_testBit] at q; exact absurd q (by decide)
    · rw [Nat.testBit_two_pow, decide_eq_true_iff] at b
      exact ⟨i, hi, a, b⟩
  · rintro ⟨i, hi, a, b⟩
    exact Or.inr ⟨i, hi, a, by rw [b]; exact Nat.testBit_two_pow_self⟩
theorem tp_ls {E G : Int32} (hG : tp_T G) (h : ∀ x y, x < 5 → y < 5 → (tp_S E x y ↔ tp_S G x y)) : nI (pv_ls E) = G := by
  apply b_ext
  intro V hV
  unfold pv_ls
  rw [ps_Op _ hV]
  apply ps_beq
  rw [tp_fix hG hV, tp_hl E hV]
  constructor
  · intro q x y hx hy a b; exact (h x y hx hy).mp (q x y hx hy a b)
  · intro q x y hx hy a b; exact (h x y hx hy).mpr (q x y hx hy a b)
/-! with -/
theorem tp_with {F : Int32} (h0 : bt F 0 = true) {S V : Nat} (hV : V < 32) : bt (nI (pv_with F S)) V = true ↔ ∃ a b, a < 32 ∧ b < 32 ∧ bt F a = true ∧ bt F b = true ∧ (a ||| (b &&& S)) = V := by
  unfold pv_with
  rw [ps_bt _ hV, ps_Ot, ← ps_bt _ hV, ps_n_of]
  constructor
  · rintro (q | ⟨p, hp, a, b⟩)
    · exact ⟨V, 0, hV, by decide, q, h0, by simp⟩
    · rw [Bool.and_eq_true] at a
      rw [Nat.testBit_two_pow, decide_eq_true_iff] at b
      exact ⟨p / 32, p % 32, by omega, by omega, a.1, a.2, b⟩
  · rintro ⟨a, b, ha, hb, ka, kb, e⟩
    have e1 : (32 * a + b) / 32 = a := by omega
    have e2 : (32 * a + b) % 32 = b := by omega
    refine Or.inr ⟨32 * a + b, by omega, ?_, ?_⟩
    · rw [e1, e2, ka, kb]; rfl
    · rw [e1, e2, e]; exact Nat.testBit_two_pow_self
theorem tp_u1 (a b c d S : Nat) : (a ||| (b &&& S)) ||| (c ||| (d &&& S)) = (a ||| c) ||| ((b ||| d) &&& S) := by
  apply Nat.eq_of_testBit_eq
  intro i
  simp only [Nat.testBit_or, Nat.testBit_and]
  cases a.testBit i <;> cases b.testBit i <;> cases c.testBit i <;> cases d.testBit i <;> cases S.testBit i <;> rfl
theorem tp_u2 (a b c d S : Nat) : (a ||| (b &&& S)) &&& (c ||| (d &&& S)) = (a &&& c) ||| (((a &&& d) ||| ((b &&& c) ||| (b &&& d))) &&& S) := by
  apply Nat.eq_of_testBit_eq
  intro i
  simp only [Nat.testBit_or, Nat.testBit_and]
  cases a.testBit i <;> cases b.testBit i <;> cases c.testBit i <;> cases d.testBit i <;> cases S.testBit i <;> rfl
theorem tp_withT {F : Int32} (hT : tp_T F) (S : Nat) : tp_T (nI (pv_with F S)) := by
  refine ⟨(tp_with hT.1 (by decide)).mpr ⟨0, 0, by decide, by decide, hT.1, hT.1, by simp⟩, (tp_with hT.1 (by decide)).mpr ⟨31, 0, by decide, by decide, hT.2.1, hT.1, by simp⟩, ?_⟩
  intro u w hu hw ku kw
  obtain ⟨a, b, ha, hb, ka, kb, rfl⟩ := (tp_with hT.1 hu).mp ku
  obtain ⟨c, d, hc, hd, kc, kd, rfl⟩ := (tp_with hT.1 hw).mp kw
  constructor
  · rw [tp_u1]
    refine (tp_with hT.1 ?_).mpr ⟨_, _, tb_or ha hc, tb_or hb hd, (hT.2.2 _ _ ha hc ka kc).1, (hT.2.2 _ _ hb hd kb kd).1, rfl⟩
    rw [← tp_u1]; exact tb_or hu hw
  · rw [tp_u2]
    have m1 := hT.2.2 _ _ hb hc kb kc
    have m2 := hT.2.2 _ _ hb hd kb kd
    have m3 := hT.2.2 _ _ ha hd ka kd
    have m4 := hT.2.2 _ _ (tb_and hb) (tb_and hb) m1.2 m2.2
    have m5 := hT.2.2 _ _ (tb_and ha) (tb_or (tb_and hb) (tb_and hb)) m3.2 m4.1
    refine (tp_with hT.1 ?_).mpr ⟨_, _, tb_and ha, tb_or (tb_and ha) (tb_or (tb_and hb) (tb_and hb)), (hT.2.2 _ _ ha hc ka kc).2, m5.1, rfl⟩
    rw [← tp_u2]; exact tb_and hu
theorem tp_withS {F : Int32} (hT : tp_T F) {S : Nat} (hS : S < 32) (x y : Nat) : tp_S (nI (pv_with F S)) x y ↔ tp_S F x y ∨ (S.testBit x = true ∧ S.testBit y = false) := by
  constructor
  · rintro ⟨V, hV, k, p, q⟩
    obtain ⟨a, b, ha, hb, ka, kb, rfl⟩ := (tp_with hT.1 hV).mp k
    rw [Nat.testBit_or, Nat.testBit_and] at p q
    rw [Bool.or_eq_false_iff] at q
    cases z : a.testBit x
    · rw [z, Bool.false_or, Bool.and_eq_true] at p
      rw [Bool.and_eq_false_iff] at q
      rcases q.2 with r | r
      · exact Or.inl ⟨b, hb, kb, p.1, r⟩
      · exact Or.inr ⟨p.2, r⟩
    · exact Or.inl ⟨a, ha, ka, z, q.1⟩
  · rintro (⟨V, hV, k, p, q⟩ | ⟨p, q⟩)
    · exact ⟨V, hV, (tp_with hT.1 hV).mpr ⟨V, 0, hV, by decide, k, hT.1, by simp⟩, p, q⟩
    · refine ⟨S, hS, (tp_with hT.1 hS).mpr ⟨0, 31, by decide, by decide, hT.1, hT.2.1, ?_⟩, p, q⟩
      rw [Nat.zero_or, Nat.and_comm]
      exact Nat.and_two_pow_sub_one_of_lt_two_pow (n := 5) hS
theorem tp_Sor (F G : Int32) (x y : Nat) : tp_S (F ||| G) x y ↔ tp_S F x y ∨ tp_S G x y := by
  constructor
  · rintro ⟨V, hV, k, p, q⟩
    rw [b_or, Bool.or_eq_true] at k
    rcases k with k | k
    · exact Or.inl ⟨V, hV, k, p, q⟩
    · exact Or.inr ⟨V, hV, k, p, q⟩
  · rintro (⟨V, hV, k, p, q⟩ | ⟨V, hV, k, p, q⟩)
    · exact ⟨V, hV, by rw [b_or, k]; rfl, p, q⟩
    · exact ⟨V, hV, by rw [b_or, k, Bool.or_true], p, q⟩
theorem tp_S1 {S : Nat} (hS : S < 32) (x y : Nat) : tp_S (nI (2 ^ S)) x y ↔ S.testBit x = true ∧ S.testBit y = false := by
  constructor
  · rintro ⟨V, hV, k, p, q⟩
    rw [ps_bt _ hV, Nat.testBit_two_pow, decide_eq_true_iff] at k
    subst k; exact ⟨p, q⟩
  · rintro ⟨p, q⟩
    exact ⟨S, hS, by rw [ps_bt _ hS]; exact Nat.testBit_two_pow_self, p, q⟩
theorem tp_open {F : Int32} (hT : tp_T F) {S : Nat} (hS : S < 32) : nI (pv_ls (F ||| nI (2 ^ S))) = nI (pv_with F S) :=
  tp_ls (tp_withT hT S) (fun x y _ _ => by rw [tp_withS hT hS, tp_Sor, tp_S1 hS])
theorem tp_joinA {F : Int32} (hT : tp_T F) (G : Int32) : ∀ n, n ≤ 32 → tp_T (ps_fo (fun V s => if bt G V then nI (pv_with s V) else s) F n) ∧ ∀ x y, tp_S (ps_fo (fun V s => if bt G V then nI (pv_with s V) else s) F n) x y ↔ tp_S F x y ∨ ∃ V, V < n ∧ bt G V = true ∧ V.testBit x = true ∧ V.testBit y = false := by
  intro n
  induction n with
  | zero =>
    intro _
    refine ⟨hT, fun x y => ⟨Or.inl, ?_⟩⟩
    rintro (h | ⟨V, hV, _⟩)
    · exact h
    · exact absurd hV (by omega)
  | succ n ih =>
    intro hn
    obtain ⟨i1, i2⟩ := ih (by omega)
    have e : ps_fo (fun V s => if bt G V then nI (pv_with s V) else s) F (n + 1) = if bt G n then nI (pv_with (ps_fo (fun V s => if bt G V then nI (pv_with s V) else s) F n) n) else ps_fo (fun V s => if bt G V then nI (pv_with s V) else s) F n := rfl
    rw [e]
    generalize ps_fo (fun V s => if bt G V then nI (pv_with s V) else s) F n = R at i1 i2
    cases z : bt G n
    · rw [if_neg (by decide)]
      refine ⟨i1, fun x y => ?_⟩
      rw [i2]
      constructor
      · rintro (h | ⟨V, hV, h⟩)
        · exact Or.inl h
        · exact Or.inr ⟨V, by omega, h⟩
      · rintro (h | ⟨V, hV, h1, h2⟩)
        · exact Or.inl h
        · refine Or.inr ⟨V, ?_, h1, h2⟩
          by_cases q : V = n
          · subst q; rw [z] at h1; exact absurd h1 (by decide)
          · omega
    · rw [if_pos rfl]
      refine ⟨tp_withT i1 n, fun x y => ?_⟩
      rw [tp_withS i1 (by omega), i2]
      constructor
      · rintro ((h | ⟨V, hV, h⟩) | h)
        · exact Or.inl h
        · exact Or.inr ⟨V, by omega, h⟩
        · exact Or.inr ⟨n, by omega, z, h⟩
      · rintro (h | ⟨V, hV, h1, h2⟩)
        · exact Or.inl (Or.inl h)
        · by_cases q : V = n
          · subst q; exact Or.inr h2
          · exact Or.inl (Or.inr ⟨V, by omega, h1, h2⟩)
theorem tp_joinT {F : Int32} (hT : tp_T F) (G : Int32) : tp_T (pv_join F G) := (tp_joinA hT G 32 (by omega)).1
theorem tp_join {F : Int32} (hT : tp_T F) (G : Int32) : nI (pv_ls (F ||| G)) = pv_join F G :=
  tp_ls (tp_joinT hT G) (fun x y _ _ => by
    rw [tp_Sor]
    exact ((tp_joinA hT G 32 (by omega)).2 x y).symm)
/-! what the other calls make are spaces -/
theorem tp_plainB : ∀ V, V < 32 → bt (-2147483647) V = decide (V = 0 ∨ V = 31) := by decide +kernel
theorem tp_plain : tp_T (-2147483647) := by
  refine ⟨by decide +kernel, by decide +kernel, ?_⟩
  intro a b ha hb ka kb
  rw [tp_plainB a ha, decide_eq_true_iff] at ka
  rw [tp_plainB b hb, decide_eq_true_iff] at kb
  rcases ka with rfl | rfl <;> rcases kb with rfl | rfl <;> decide +kernel
theorem tp_loose : tp_T (-1) := ⟨b_m1 0 (by decide), b_m1 31 (by decide), fun a b ha hb _ _ => ⟨b_m1 _ (tb_or ha hb), b_m1 _ (tb_and ha)⟩⟩
theorem tp_meet {F G : Int32} (hF : tp_T F) (hG : tp_T G) : tp_T (F &&& G) := by
  refine ⟨by rw [b_and, hF.1, hG.1]; rfl, by rw [b_and, hF.2.1, hG.2.1]; rfl, ?_⟩
  intro a b ha hb ka kb
  rw [b_and, Bool.and_eq_true] at ka kb
  have p := hF.2.2 a b ha hb ka.1 kb.1
  have q := hG.2.2 a b ha hb ka.2 kb.2
  exact ⟨by rw [b_and, p.1, q.1]; rfl, by rw [b_and, p.2, q.2]; rfl⟩
theorem tp_tie {F : Int32} (hF : tp_T F) {x y : Nat} (hx : x < 5) (hy : y < 5) : tp_T (nI (pv_tie F x y)) := by
  unfold pv_tie
  refine ⟨?_, ?_, ?_⟩
  · rw [ps_Op _ (by decide), hF.1, Nat.zero_testBit]; rfl
  · rw [ps_Op _ (by decide), hF.2.1, tb_31, tb_31, decide_eq_true hx, decide_eq_true hy]; rfl
  · intro a b ha hb ka kb
    rw [ps_Op _ ha, Bool.and_eq_true] at ka
    rw [ps_Op _ hb, Bool.and_eq_true] at kb
    have p := hF.2.2 a b ha hb ka.1 kb.1
    have k1 := ka.2
    have k2 := kb.2
    rw [ps_Op _ (tb_or ha hb), ps_Op _ (tb_and ha), p.1, p.2, Nat.testBit_or, Nat.testBit_or, Nat.testBit_and, Nat.testBit_and]
    revert k1 k2
    cases a.testBit x <;> cases b.testBit x <;> cases a.testBit y <;> cases b.testBit y <;> decide
theorem ps_c31 : ∀ a, a < 32 → ∀ b, b < 32 → 31 - (a ||| b) = (31 - a) &&& (31 - b) ∧ 31 - (a &&& b) = (31 - a) ||| (31 - b) := by decide +kernel
theorem tp_cx (F : Int32) {V : Nat} (hV : V < 32) : bt (nI (pv_cx F)) V = bt F (31 - V) := by
  unfold pv_cx; exact ps_Op _ hV
theorem tp_cxy (F : Int32) : nI (pv_cx F) = nI (pv_cy F) := by
  apply b_ext
  intro V hV
  rw [tp_cx F hV]
  apply ps_beq
  unfold pv_cy
  rw [ps_Oi _ (fun V => 31 - V) 32 hV]
  constructor
  · intro h; exact ⟨31 - V, by omega, h, by omega⟩
  · rintro ⟨i, hi, a, b⟩
    have : 31 - V = i := by omega
    rw [this]; exact a
theorem tp_turn {F : Int32} (hF : tp_T F) : tp_T (nI (pv_cx F)) := by
  refine ⟨by rw [tp_cx F (by decide)]; exact hF.2.1, by rw [tp_cx F (by decide)]; exact hF.1, ?_⟩
  intro a b ha hb ka kb
  rw [tp_cx F ha] at ka
  rw [tp_cx F hb] at kb
  have p := hF.2.2 _ _ (by omega) (by omega) ka kb
  have e := ps_c31 a ha b hb
  rw [tp_cx F (tb_or ha hb), tp_cx F (tb_and ha), e.1, e.2]
  exact ⟨p.2, p.1⟩
theorem tp_co (m V x : Nat) : (pv_co m V).testBit x = (decide (x < 5) && V.testBit (pv_im m x)) := by
  apply ps_beq
  unfold pv_co
  rw [ps_Ot, Bool.and_eq_true, decide_eq_true_iff]
  constructor
  · rintro (q | ⟨i, hi, a, b⟩)
    · rw [Nat.zero_testBit] at q; exact absurd q (by decide)
    · rw [Nat.testBit_two_pow, decide_eq_true_iff] at b
      subst b; exact ⟨hi, a⟩
  · rintro ⟨h, g⟩
    exact Or.inr ⟨x, h, g, Nat.testBit_two_pow_self⟩
theorem tp_co_or (m a b : Nat) : pv_co m (a ||| b) = pv_co m a ||| pv_co m b := by
  apply Nat.eq_of_testBit_eq
  intro x
  rw [Nat.testBit_or, tp_co, tp_co, tp_co, Nat.testBit_or, Bool.and_or_distrib_left]
theorem tp_co_and (m a b : Nat) : pv_co m (a &&& b) = pv_co m a &&& pv_co m b := by
  apply Nat.eq_of_testBit_eq
  intro x
  rw [Nat.testBit_and, tp_co, tp_co, tp_co, Nat.testBit_and]
  cases decide (x < 5) <;> simp
theorem tp_co_0 (m : Nat) : pv_co m 0 = 0 := by
  apply Nat.eq_of_testBit_eq
  intro x
  rw [tp_co, Nat.zero_testBit, Nat.zero_testBit, Bool.and_false]
theorem tp_co_31 (m : Nat) : pv_co m 31 = 31 := by
  apply Nat.eq_of_testBit_eq
  intro x
  rw [tp_co, tb_31, tb_31, decide_eq_true (pv_im_lt m x), Bool.and_true]
theorem tp_pullB (F : Int32) (m : Nat) {V : Nat} (hV : V < 32) : bt (nI (pv_pull F m)) V = true ↔ ∃ U, U < 32 ∧ bt F U = true ∧ pv_co m U = V := by
  unfold pv_pull
  exact ps_Oi _ (pv_co m) 32 hV
theorem tp_pull {F : Int32} (hF : tp_T F) (m : Nat) : tp_T (nI (pv_pull F m)) := by
  refine ⟨(tp_pullB F m (by decide)).mpr ⟨0, by decide, hF.1, tp_co_0 m⟩, (tp_pullB F m (by decide)).mpr ⟨31, by decide, hF.2.1, tp_co_31 m⟩, ?_⟩
  intro a b ha hb ka kb
  obtain ⟨U, hU, kU, rfl⟩ := (tp_pullB F m ha).mp ka
  obtain ⟨W, hW, kW, rfl⟩ := (tp_pullB F m hb).mp kb
  have p := hF.2.2 U W hU hW kU kW
  exact ⟨(tp_pullB F m (tb_or ha hb)).mpr ⟨_, tb_or hU hW, p.1, tp_co_or m U W⟩, (tp_pullB F m (tb_and ha)).mpr ⟨_, tb_and hU, p.2, tp_co_and m U W⟩⟩
theorem tp_push {F : Int32} (hF : tp_T F) (m : Nat) : tp_T (nI (pv_push F m)) := by
  unfold pv_push
  refine ⟨?_, ?_, ?_⟩
  · rw [ps_Op _ (by decide), tp_co_0]; exact hF.1
  · rw [ps_Op _ (by decide), tp_co_31]; exact hF.2.1
  · intro a b ha hb ka kb
    rw [ps_Op _ ha] at ka
    rw [ps_Op _ hb] at kb
    have p := hF.2.2 _ _ (pv_co_lt m a) (pv_co_lt m b) ka kb
    rw [ps_Op _ (tb_or ha hb), ps_Op _ (tb_and ha), tp_co_or, tp_co_and]
    exact p
/-! questions -/
theorem tp_ct (F T : Int32) (m : Nat) : ps_wi (nI (pv_pull T m)) F = pv_ct F T m := by
  apply ps_beq
  unfold pv_ct
  rw [ps_wi_iff, ps_all_iff]
  constructor
  · intro h V hV
    cases z : bt T V
    · rfl
    · rw [Bool.not_true, Bool.false_or]
      exact h _ (pv_co_lt m V) ((tp_pullB T m (pv_co_lt m V)).mpr ⟨V, hV, z, rfl⟩)
  · intro h i hi q
    obtain ⟨U, hU, kU, rfl⟩ := (tp_pullB T m hi).mp q
    have := h U hU
    rw [kU, Bool.not_true, Bool.false_or] at this
    exact this
theorem tp_inB (F : Int32) {S : Nat} (hS : S < 32) (x : Nat) : (pv_in F S).testBit x = true ↔ ∃ V, V < 32 ∧ bt F V = true ∧ (∀ y, V.testBit y = true → S.testBit y = true) ∧ V.testBit x = true := by
  unfold pv_in
  rw [ps_Ot]
  constructor
  · rintro (q | ⟨V, hV, a, b⟩)
    · rw [Nat.zero_testBit] at q; exact absurd q (by decide)
    · rw [Bool.and_eq_true, ps_wn hV hS] at a
      exact ⟨V, hV, a.1, a.2, b⟩
  · rintro ⟨V, hV, a, b, c⟩
    refine Or.inr ⟨V, hV, ?_, c⟩
    rw [Bool.and_eq_true, ps_wn hV hS]
    exact ⟨a, b⟩
theorem tp_inT {F : Int32} (hT : tp_T F) (S : Nat) : bt F (pv_in F S) = true :=
  (tp_O hT ⟨by decide, hT.1⟩ (fun i hi h => ⟨hi, by rw [Bool.and_eq_true] at h; exact h.1⟩)).2
theorem tp_in_eq {F : Int32} (hT : tp_T F) {S : Nat} (hS : S < 32) : pv_in F S = S ↔ bt F S = true := by
  constructor
  · intro h
    have := tp_inT hT S
    rw [h] at this; exact this
  · intro h
    apply Nat.eq_of_testBit_eq
    intro x
    apply ps_beq
    rw [tp_inB F hS]
    constructor
    · rintro ⟨V, _, _, a, b⟩; exact a x b
    · intro q; exact ⟨S, hS, h, fun _ z => z, q⟩
theorem tp_pc {F : Int32} (hT : tp_T F) {x : Nat} (hx : x < 5) : pv_pc F x = 2 ^ x ↔ bt F (31 - 2 ^ x) = true := by
  unfold pv_pc pv_cl
  have h2 := pv_p2 x hx
  generalize 2 ^ x = z at h2 ⊢
  have h3 := pv_in_lt F (31 - z)
  rw [← tp_in_eq hT (by omega)]
  constructor <;> intro h <;> omega
end
section
/-! questions with loops of their own -/
def pv_st (F : Int32) (x y : Nat) : Bool := !decide (pv_pc F x = pv_pc F y) && (ps_wi (nI (pv_pc F x)) (nI (pv_pc F y)) || ps_wi (nI (pv_pc F y)) (nI (pv_pc F x)))
def pv_dx (F : Int32) : Bool := ps_all (fun x => ps_all (fun y => !decide (x < y) || !decide (pv_pc F x = pv_pc F y)) 5) 5
def pv_chx (F : Int32) (V : Nat) : Bool := ps_all (fun x => ps_all (fun y => !decide (x < y) || (!V.testBit x || (!V.testBit y || pv_st F x y))) 5) 5
def pv_ep (C : Int32) : Bool := ps_all (fun x => bt C (2 ^ x)) 5
def pv_k8 (q : Bool) (x : Int32) : Int32 := if q then x + 8 else x
def pv_k4 (q : Bool) (x : Int32) : Int32 := if q then x + 4 else x
def pv_k2 (q : Bool) (x : Int32) : Int32 := if q then x + 2 else x
def pv_k1 (q : Bool) : Int32 := if q then 1 else 0
theorem ps_ni {a b : Nat} (ha : a < 32) (hb : b < 32) : nI a = nI b ↔ a = b := nI_eq (by omega) (by omega)
theorem pv_pc_lt (F : Int32) (x : Nat) : pv_pc F x < 32 := pv_cl_lt F _
theorem xv_pc {post : Int32 → Prop} {F : Int32} {x : Nat} (hx : x < 5) (h : post (nI (pv_pc F x))) : wpX_closureOf post F ((1 : Int32) <<< (nI x &&& 31)) := xv_closureP hx h
theorem ps_nd {p : Prop} {d : Decidable p} (h : ¬ p) : (!decide p) = true := by rw [decide_eq_false h]; rfl
theorem ps_yd {p : Prop} {d : Decidable p} (h : p) : (!decide p) = false := by rw [decide_eq_true h]; rfl
theorem xv_differ {post : Int32 → Prop} {F : Int32} (h : post (ps_b (pv_dx F))) : wpX_closuresDiffer post F := by
  unfold wpX_closuresDiffer
  refine ⟨_, lo_ex (fun n x => wX_closuresDiffer_2 post F n (nI x)) (fun x => ps_all (fun y => !decide (x < y) || !decide (pv_pc F x = pv_pc F y)) 5) 5 (fun b => post (ps_b b)) h (fun n p => br_t ps_5e p) ?_⟩
  intro n x hx t f
  refine br_f (ps_5 hx) (nm_r (nI_1 x) ⟨_, lo_exS (fun n' y => wX_closuresDiffer_11 post (wX_closuresDiffer_2 post F n) F (nI x) n' (nI y)) (fun y => !decide (x < y) || !decide (pv_pc F x = pv_pc F y)) 5 (x + 1) (fun b => (b = true → wX_closuresDiffer_2 post F n (nI (x + 1))) ∧ (b = false → post 0)) ?_ (by omega) ⟨t, f⟩ (fun n' p => br_t ps_5e (nm_r (nI_1 x) (p.1 rfl))) ?_⟩)
  · rw [ps_all_iff]
    intro y hy
    rw [ps_nd (by omega : ¬ x < y)]; rfl
  · intro n' y hxy hy t' f'
    refine br_f (ps_5 hy) (xv_pc hx (xv_pc hy (br_c (fun e => ?_) (fun e => ?_))))
    · rw [ps_ni (pv_pc_lt F x) (pv_pc_lt F y)] at e
      exact (f' (by rw [ps_yd (by omega : x < y), ps_yd e]; rfl)).2 rfl
    · rw [ps_ni (pv_pc_lt F x) (pv_pc_lt F y)] at e
      exact nm_r (nI_1 y) (t' (by rw [ps_yd (by omega : x < y), ps_nd e]; rfl))
theorem xv_each {post : Int32 → Prop} {C : Int32} (h : post (ps_b (pv_ep C))) : wpX_hasEachPoint post C := by
  unfold wpX_hasEachPoint
  exact ⟨_, lo_ex (fun n x => wX_hasEachPoint_2 post C n (nI x)) (fun x => bt C (2 ^ x)) 5 (fun b => post (ps_b b)) h (fun n p => br_t ps_5e p) (fun n x hx t f => br_f (ps_5 hx) (hx_hasE (ps_one x (by omega)) (pv_p2 x hx) (ps_br (fun b => nm_r (nI_1 x) (t b)) (fun b => f b))))⟩
theorem xv_step {post : Int32 → Prop} {F : Int32} {x y : Nat} (hx : x < 5) (hy : y < 5) (h : post (ps_b (pv_st F x y))) : wpX_isStep post F (nI x) (nI y) := by
  unfold wpX_isStep
  unfold pv_st at h
  refine xv_pc hx (xv_pc hy (br_c (fun e => ?_) (fun e => xv_within (ps_br (fun b => ?_) (fun b => xv_within (ps_br (fun b' => ?_) (fun b' => ?_)))))))
  · rw [ps_ni (pv_pc_lt F x) (pv_pc_lt F y)] at e
    rw [ps_yd e] at h; exact h
  · rw [ps_ni (pv_pc_lt F x) (pv_pc_lt F y)] at e
    rw [ps_nd e, b] at h; exact h
  · rw [ps_ni (pv_pc_lt F x) (pv_pc_lt F y)] at e
    rw [ps_nd e, b, b'] at h; exact h
  · rw [ps_ni (pv_pc_lt F x) (pv_pc_lt F y)] at e
    rw [ps_nd e, b, b'] at h; exact h
theorem xv_chain {post : Int32 → Prop} {F : Int32} {V : Nat} (h : post (ps_b (pv_chx F V))) : wpX_isChain post F (nI V) := by
  unfold wpX_isChain
  refine ⟨_, lo_ex (fun n x => wX_isChain_2 post F (nI V) n (nI x)) (fun x => ps_all (fun y => !decide (x < y) || (!V.testBit x || (!V.testBit y || pv_st F x y))) 5) 5 (fun b => post (ps_b b)) h (fun n p => br_t ps_5e p) ?_⟩
  intro n x hx t f
  refine br_f (ps_5 hx) (nm_r (nI_1 x) ⟨_, lo_exS (fun n' y => wX_isChain_11 post (wX_isChain_2 post F (nI V) n) F (nI V) (nI x) n' (nI y)) (fun y => !decide (x < y) || (!V.testBit x || (!V.testBit y || pv_st F x y))) 5 (x + 1) (fun b => (b = true → wX_isChain_2 post F (nI V) n (nI (x + 1))) ∧ (b = false → post 0)) ?_ (by omega) ⟨t, f⟩ (fun n' p => br_t ps_5e (nm_r (nI_1 x) (p.1 rfl))) ?_⟩)
  · rw [ps_all_iff]
    intro y hy
    rw [ps_nd (by omega : ¬ x < y)]; rfl
  · intro n' y hxy hy t' f'
    refine br_f (ps_5 hy) (hx_hasN (by omega) (ps_br (fun b1 => hx_hasN (by omega) (ps_br (fun b2 => xv_step hx hy (ps_br (fun b3 => nm_r (nI_1 y) (t' ?_)) (fun b3 => (f' ?_).2 rfl))) (fun b2 => nm_r (nI_1 y) (t' ?_)))) (fun b1 => nm_r (nI_1 y) (t' ?_))))
    · rw [b3]; cases V.testBit x <;> cases V.testBit y <;> cases decide (x < y) <;> rfl
    · rw [b1, b2, b3, ps_yd (by omega : x < y)]; rfl
    · rw [b2]; cases V.testBit x <;> cases decide (x < y) <;> rfl
    · rw [b1]; cases decide (x < y) <;> rfl
theorem xk_55 {post : Int32 → Prop} {F C x : Int32} {fa sp : Nat → Int32} (h : post (pv_k8 (ps_wi F C) x)) : wX_kind_55 post F C x fa sp := by
  unfold wX_kind_55
  refine br_c (fun e => ?_) (fun e => ?_)
  · rw [show ps_wi F C = true from decide_eq_true e] at h; exact nm_e h
  · rw [show ps_wi F C = false from decide_eq_false e] at h; exact h
theorem xk_44 {post : Int32 → Prop} {F C x : Int32} {fa sp : Nat → Int32} (h : post (pv_k8 (ps_wi F C) (pv_k4 (decide (F &&& C = -2147483647)) x))) : wX_kind_44 post F C x fa sp := by
  unfold wX_kind_44
  refine br_c (fun e => ?_) (fun e => ?_)
  · rw [decide_eq_true e] at h; exact nm_e (xk_55 h)
  · rw [decide_eq_false e] at h; exact xk_55 h
theorem xk_34 {post : Int32 → Prop} {F C x : Int32} {fa sp : Nat → Int32} (h : post (pv_k8 (ps_wi F C) (pv_k4 (decide (F &&& C = -2147483647)) (pv_k2 (pv_ep C) x)))) : wX_kind_34 post F C x fa sp := by
  unfold wX_kind_34
  refine xv_each (ps_br (fun b => ?_) (fun b => ?_))
  · rw [b] at h; exact nm_e (xk_44 h)
  · rw [b] at h; exact xk_44 h
theorem xv_kind {post : Int32 → Prop} {F : Int32} {fa sp : Nat → Int32} (h : post (pv_k8 (ps_wi F (nI (pv_cx F))) (pv_k4 (decide (F &&& nI (pv_cx F) = -2147483647)) (pv_k2 (pv_ep (nI (pv_cx F))) (pv_k1 (pv_dx F)))))) : wpX_closedSets (fun r_5 => wpX_closuresDiffer (fun r_6 => ((r_6 = 0 → wX_kind_34 post F r_5 0 fa sp) ∧ (¬ r_6 = 0 → ∀ x4_15 : Int32, x4_15 = 0 + 1 → wX_kind_34 post F r_5 x4_15 fa sp))) F) F := by
  refine xv_closed (xv_differ (ps_br (fun b => ?_) (fun b => ?_)))
  · rw [b] at h; exact nm_r (e' := 1) (by decide) (xk_34 h)
  · rw [b] at h; exact xk_34 h
/-! the reference -/
theorem lo_b2 (W : Nat → Nat → Bool → Bool → Prop) (c d : Nat → Bool) (e : Nat) (hx : ∀ n, W (n + 1) e (ps_all c e) (ps_all d e)) (hs : ∀ n i s r, i < e → W n (i + 1) (s && c i) (r && d i) → W (n + 1) i s r) : W (e + 1) 0 true true := by
  have H : ∀ k i, i + k = e → W (k + 1) i (ps_all c i) (ps_all d i) := by
    intro k
    induction k with
    | zero => intro i h; obtain rfl : i = e := by omega
              exact hx 0
    | succ k ih => intro i h; exact hs _ _ _ _ (by omega) (ih (i + 1) (by omega))
  exact H e 0 (by omega)
def pv_dy (F : Int32) : Bool := ps_all (fun p => decide (p / 5 = p % 5) || !decide (pv_pc F (p / 5) = pv_pc F (p % 5))) 25
def pv_ey (F : Int32) : Bool := ps_all (fun p => decide (pv_pc F (p / 5) = 2 ^ (p / 5))) 25
def pv_chy (F : Int32) (V : Nat) : Bool := ps_all (fun p => !decide (p / 5 < p % 5) || (!V.testBit (p / 5) || (!V.testBit (p % 5) || pv_st F (p / 5) (p % 5)))) 25
theorem yk_145 {post : Int32 → Prop} {p z : Int32} {fa ma ta : Nat → Int32} (hp : vp_in p 3) (h : post (pv_k8 (decide (fa p.toNatClampNeg &&& nI (pv_cy (fa p.toNatClampNeg)) = fa p.toNatClampNeg)) z)) : wY_kind_145 post p z fa ma ta := by
  unfold wY_kind_145
  refine yv_both hp ⟨hp, br_c (fun e => ?_) (fun e => ?_)⟩
  · rw [decide_eq_true e] at h; exact h
  · rw [decide_eq_false e] at h; exact h
theorem yk_124 {post : Int32 → Prop} {p z : Int32} {fa ma ta : Nat → Int32} (hp : vp_in p 3) (h : post (pv_k8 (decide (fa p.toNatClampNeg &&& nI (pv_cy (fa p.toNatClampNeg)) = fa p.toNatClampNeg)) (pv_k4 (decide (fa p.toNatClampNeg &&& nI (pv_cy (fa p.toNatClampNeg)) = -2147483647)) z))) : wY_kind_124 post p z fa ma ta := by
  unfold wY_kind_124
  refine yv_both hp (br_c (fun e => ?_) (fun e => ?_))
  · rw [decide_eq_true e] at h; exact yk_145 hp h
  · rw [decide_eq_false e] at h; exact yk_145 hp h
theorem yk_109 {post : Int32 → Prop} {p z : Int32} {r : Bool} {fa ma ta : Nat → Int32} (hp : vp_in p 3) (h : post (pv_k8 (decide (fa p.toNatClampNeg &&& nI (pv_cy (fa p.toNatClampNeg)) = fa p.toNatClampNeg)) (pv_k4 (decide (fa p.toNatClampNeg &&& nI (pv_cy (fa p.toNatClampNeg)) = -2147483647)) (pv_k2 r z)))) : wY_kind_109 post p (ps_b r) z fa ma ta := by
  unfold wY_kind_109
  refine ps_br (fun b => ?_) (fun b => ?_)
  · rw [b] at h; exact yk_124 hp h
  · rw [b] at h; exact yk_124 hp h
theorem yk_69 {post : Int32 → Prop} {J : Int32 → Int32 → Int32 → Prop} {p z : Int32} {r : Bool} {i x : Nat} {fa ma ta : Nat → Int32} (hp : vp_in p 3) (hx : x < 5) (h : J z (ps_b (r && decide (pv_pc (fa p.toNatClampNeg) x = 2 ^ x))) (nI (i + 1))) : wY_kind_69 post J p (ps_b r) (nI i) (nI x) z fa ma ta := by
  unfold wY_kind_69
  refine ps_br (fun b => yv_pc hp hx (br_c (fun e => ?_) (fun e => ?_))) (fun b => ?_)
  · rw [ps_one x (by omega), ps_ni (pv_pc_lt _ x) (pv_p2 x hx)] at e
    rw [b, decide_eq_true e] at h
    exact nm_r (nI_1 i) h
  · rw [ps_one x (by omega), ps_ni (pv_pc_lt _ x) (pv_p2 x hx)] at e
    rw [b, decide_eq_false e] at h
    exact nm_r (nI_1 i) h
  · rw [b] at h
    exact nm_r (nI_1 i) h
theorem ps_d5 {i : Nat} (h : i < 25) : nI i / 5 = nI (i / 5) := pk_div (a := i) (d := 5) (by omega) (by decide) (by decide)
theorem ps_r5 {i : Nat} (h : i < 25) : nI i - nI i / 5 * 5 = nI (i % 5) := pk_rem (a := i) (d := 5) (by omega) (by decide) (by decide)
theorem yv_kind {post : Int32 → Prop} {p : Int32} {fa ma ta : Nat → Int32} (hp : vp_in p 3) (h : post (pv_k8 (decide (fa p.toNatClampNeg &&& nI (pv_cy (fa p.toNatClampNeg)) = fa p.toNatClampNeg)) (pv_k4 (decide (fa p.toNatClampNeg &&& nI (pv_cy (fa p.toNatClampNeg)) = -2147483647)) (pv_k2 (pv_ey (fa p.toNatClampNeg)) (pv_k1 (pv_dy (fa p.toNatClampNeg))))))) : ∃ n, wY_kind_17 post p fa ma ta n 1 1 0 := by
  refine ⟨_, lo_b2 (fun n i s r => wY_kind_17 post p fa ma ta n (ps_b s) (ps_b r) (nI i)) (fun q => decide (q / 5 = q % 5) || !decide (pv_pc (fa p.toNatClampNeg) (q / 5) = pv_pc (fa p.toNatClampNeg) (q % 5))) (fun q => decide (pv_pc (fa p.toNatClampNeg) (q / 5) = 2 ^ (q / 5))) 25 (fun n => br_t (nI_le (a := 25) (b := 25) (by decide) (by decide)) (ps_br (fun b => ?_) (fun b => ?_))) ?_⟩
  · unfold pv_dy at h
    rw [b] at h; exact yk_109 hp h
  · unfold pv_dy at h
    rw [b] at h; exact yk_109 hp h
  · intro n i s r hi w
    refine br_f (nI_ge (b := 25) hi (by decide)) ⟨ps_n50, nm_r (ps_d5 hi) ⟨ps_n50, nm_r (ps_r5 hi) (ps_br (fun b => br_c (fun e => ?_) (fun e => yv_pc hp (by omega) (yv_pc hp (by omega) (br_c (fun e2 => ?_) (fun e2 => ?_))))) (fun b => ?_))⟩⟩
    · rw [ps_ni (by omega) (by omega)] at e
      rw [b, decide_eq_true e] at w
      exact yk_69 hp (by omega) w
    · rw [ps_ni (by omega) (by omega)] at e
      rw [ps_ni (pv_pc_lt _ _) (pv_pc_lt _ _)] at e2
      rw [b, decide_eq_false e, decide_eq_true e2] at w
      exact yk_69 hp (by omega) w
    · rw [ps_ni (by omega) (by omega)] at e
      rw [ps_ni (pv_pc_lt _ _) (pv_pc_lt _ _)] at e2
      rw [b, decide_eq_false e, decide_eq_false e2] at w
      exact yk_69 hp (by omega) w
    · rw [b] at w
      exact yk_69 hp (by omega) w
theorem yv_chain {post : Int32 → Prop} {p : Int32} {V : Nat} {fa ma ta : Nat → Int32} (hp : vp_in p 3) (h : post (ps_b (pv_chy (fa p.toNatClampNeg) V))) : wpY_isChain post (fa, ma, ta) p (nI V) := by
  unfold wpY_isChain
  refine ⟨_, lo_ex (fun n i => wY_isChain_2 post p (nI V) fa ma ta n (nI i)) (fun q => !decide (q / 5 < q % 5) || (!V.testBit (q / 5) || (!V.testBit (q % 5) || pv_st (fa p.toNatClampNeg) (q / 5) (q % 5)))) 25 (fun b => post (ps_b b)) h (fun n z => br_t (nI_le (a := 25) (b := 25) (by decide) (by decide)) z) ?_⟩
  intro n i hi t f
  refine br_f (nI_ge (b := 25) hi (by decide)) ⟨ps_n50, nm_r (ps_d5 hi) ⟨ps_n50, nm_r (ps_r5 hi) (br_c (fun e => ?_) (fun e => hy_hasN (by omega) (ps_br (fun b1 => hy_hasN (by omega) (ps_br (fun b2 => yv_pc hp (by omega) (yv_pc hp (by omega) (br_c (fun e1 => ?_) (fun e1 => br_c (fun e2 => ?_) (fun e2 => br_c (fun e3 => ?_) (fun e3 => ?_)))))) (fun b2 => ?_))) (fun b1 => ?_))))⟩⟩
  · rw [nI_leI (by omega) (by omega)] at e
    exact nm_r (nI_1 i) (t (by rw [ps_nd (by omega : ¬ i / 5 < i % 5)]; rfl))
  · rw [nI_leI (by omega) (by omega)] at e
    rw [ps_ni (pv_pc_lt _ _) (pv_pc_lt _ _)] at e1
    exact f (by unfold pv_st; rw [ps_yd (by omega : i / 5 < i % 5), b1, b2, ps_yd e1]; rfl)
  · rw [ps_ni (pv_pc_lt _ _) (pv_pc_lt _ _)] at e1
    exact nm_r (nI_1 i) (t (by unfold pv_st; rw [ps_nd e1, show ps_wi (nI (pv_pc (fa p.toNatClampNeg) (i / 5))) (nI (pv_pc (fa p.toNatClampNeg) (i % 5))) = true from decide_eq_true e2]; cases decide (i / 5 < i % 5) <;> cases V.testBit (i / 5) <;> cases V.testBit (i % 5) <;> rfl))
  · rw [ps_ni (pv_pc_lt _ _) (pv_pc_lt _ _)] at e1
    exact nm_r (nI_1 i) (t (by unfold pv_st; rw [ps_nd e1, show ps_wi (nI (pv_pc (fa p.toNatClampNeg) (i % 5))) (nI (pv_pc (fa p.toNatClampNeg) (i / 5))) = true from decide_eq_true e3, Bool.or_true]; cases decide (i / 5 < i % 5) <;> cases V.testBit (i / 5) <;> cases V.testBit (i % 5) <;> rfl))
  · rw [nI_leI (by omega) (by omega)] at e
    rw [ps_ni (pv_pc_lt _ _) (pv_pc_lt _ _)] at e1
    exact f (by unfold pv_st; rw [ps_yd (by omega : i / 5 < i % 5), b1, b2, ps_nd e1, show ps_wi (nI (pv_pc (fa p.toNatClampNeg) (i / 5))) (nI (pv_pc (fa p.toNatClampNeg) (i % 5))) = false from decide_eq_false e2, show ps_wi (nI (pv_pc (fa p.toNatClampNeg) (i % 5))) (nI (pv_pc (fa p.toNatClampNeg) (i / 5))) = false from decide_eq_false e3]; rfl)
  · exact nm_r (nI_1 i) (t (by rw [b2]; cases decide (i / 5 < i % 5) <;> cases V.testBit (i / 5) <;> rfl))
  · exact nm_r (nI_1 i) (t (by rw [b1]; cases decide (i / 5 < i % 5) <;> rfl))
theorem ps_sz : ∀ V, V < 32 → ∀ i, i < 5 → (nI V >>> (nI i &&& 31)) &&& 1 = nI (if V.testBit i then 1 else 0) := by decide +kernel
theorem yv_size {post : Int32 → Prop} {V : Nat} {fa ma ta : Nat → Int32} (hV : V < 32) (h : post (nI (ps_C (fun x => V.testBit x) 5))) : wpY_size post (fa, ma, ta) (nI V) := by
  unfold wpY_size
  refine ⟨_, lo_C (fun n i s => wY_size_4 post (nI V) fa ma ta n (nI s) (nI i)) (fun x => V.testBit x) 5 (fun n => br_t ps_5e h) ?_⟩
  intro n i s hi t f
  refine br_f (ps_5 hi) ?_
  cases z : V.testBit i
  · exact nm_r (by rw [ps_sz V hV i hi, z, nI_add]; rfl) (nm_r (nI_1 i) (f z))
  · exact nm_r (by rw [ps_sz V hV i hi, z, nI_add]; rfl) (nm_r (nI_1 i) (t z))
/-! both sides the same -/
theorem ps_sizes : ∀ V, V < 32 → ps_C (bt (nI V)) 32 = ps_C (fun x => V.testBit x) 5 := by decide +kernel
theorem tp_d (F : Int32) : pv_dx F = pv_dy F := by
  apply ps_beq
  unfold pv_dx pv_dy
  rw [ps_all_iff, ps_all_iff]
  constructor
  · intro h p hp
    by_cases e : p / 5 = p % 5
    · rw [decide_eq_true e]; rfl
    · rw [decide_eq_false e, Bool.false_or]
      rcases Nat.lt_or_gt_of_ne e with q | q
      · have := (ps_all_iff _ _).mp (h (p / 5) (by omega)) (p % 5) (by omega)
        rw [ps_yd q, Bool.false_or] at this
        exact this
      · have := (ps_all_iff _ _).mp (h (p % 5) (by omega)) (p / 5) (by omega)
        rw [ps_yd q, Bool.false_or] at this
        by_cases e2 : pv_pc F (p / 5) = pv_pc F (p % 5)
        · rw [ps_yd e2.symm] at this; exact absurd this (by decide)
        · exact ps_nd e2
  · intro h x hx
    rw [ps_all_iff]
    intro y hy
    by_cases q : x < y
    · have := h (5 * x + y) (by omega)
      rw [show (5 * x + y) / 5 = x by omega, show (5 * x + y) % 5 = y by omega, decide_eq_false (by omega : ¬ x = y), Bool.false_or] at this
      rw [this, Bool.or_true]
    · rw [ps_nd q]; rfl
theorem tp_e {F : Int32} (hT : tp_T F) : pv_ep (nI (pv_cx F)) = pv_ey F := by
  apply ps_beq
  unfold pv_ep pv_ey
  rw [ps_all_iff, ps_all_iff]
  constructor
  · intro h p hp
    have := h (p / 5) (by omega)
    rw [tp_cx F (pv_p2 _ (by omega)), ← tp_pc hT (by omega)] at this
    exact decide_eq_true this
  · intro h x hx
    have := h (5 * x) (by omega)
    rw [decide_eq_true_iff, show 5 * x / 5 = x by omega, tp_pc hT hx] at this
    rw [tp_cx F (pv_p2 _ hx)]
    exact this
theorem tp_q (F C : Int32) : ps_wi F C = decide (F &&& C = F) := by
  apply ps_beq
  rw [ps_wi_iff, decide_eq_true_iff]
  constructor
  · intro h
    apply b_ext
    intro i hi
    rw [b_and]
    cases z : bt F i
    · rfl
    · rw [h i hi z]; rfl
  · intro h i hi a
    have e := congrArg (fun z => bt z i) h
    rw [b_and, a, Bool.true_and] at e
    exact e
theorem tp_ch (F : Int32) (V : Nat) : pv_chx F V = pv_chy F V := by
  apply ps_beq
  unfold pv_chx pv_chy
  rw [ps_all_iff, ps_all_iff]
  constructor
  · intro h p hp
    exact (ps_all_iff _ _).mp (h (p / 5) (by omega)) (p % 5) (by omega)
  · intro h x hx
    rw [ps_all_iff]
    intro y hy
    have := h (5 * x + y) (by omega)
    rw [show (5 * x + y) / 5 = x by omega, show (5 * x + y) % 5 = y by omega] at this
    exact this
end
section
/-! what the arguments may be -/
def ps_ok (p : Int32) (N : Nat) : Bool := !decide (p < 0) && !decide (nI N ≤ p)
theorem ps_okE {p : Int32} {N : Nat} (hN : N < 2 ^ 31) (b : ps_ok p N = true) : ∃ j, j < N ∧ p = nI j := by
  unfold ps_ok at b
  rw [Bool.and_eq_true] at b
  rcases pk_ix p hN with h | h | h
  · rw [ps_yd h] at b; exact absurd b.1 (by decide)
  · rw [ps_yd h] at b; exact absurd b.2 (by decide)
  · exact h
theorem ps_okx {p : Int32} {N : Nat} {post : Int32 → Prop} (h : post (ps_b (ps_ok p N))) : (p < 0 → post 0) ∧ (¬ p < 0 → ((nI N ≤ p → post 0) ∧ (¬ nI N ≤ p → post 1))) := by
  unfold ps_ok at h
  refine br_c (fun a => ?_) (fun a => br_c (fun c => ?_) (fun c => ?_))
  · rw [ps_yd a] at h; exact h
  · rw [ps_nd a, ps_yd c] at h; exact h
  · rw [ps_nd a, ps_nd c] at h; exact h
theorem ps_oky {p : Int32} {M : Nat} (hM : M + 1 < 2 ^ 31) {post : Int32 → Prop} (h : post (ps_b (ps_ok p (M + 1)))) : (p < 0 → post 0) ∧ (¬ p < 0 → ((nI M < p → post 0) ∧ (¬ nI M < p → post 1))) := by
  have k := ps_okx h
  refine br_c (fun a => k.1 a) (fun a => ?_)
  obtain ⟨j, hj, rfl⟩ := nI_of a
  refine br_c (fun c => (k.2 a).1 ?_) (fun c => (k.2 a).2 ?_)
  · rw [nI_ltI (by omega) hj] at c
    exact nI_le (by omega) hj
  · rw [nI_ltI (by omega) hj] at c
    exact nI_ge (by omega) (by omega)
theorem xo_isSpace {post : Int32 → Prop} {p : Int32} (h : post (ps_b (ps_ok p 3))) : wpX_isSpace post p := by
  unfold wpX_isSpace
  exact ps_okx (N := 3) h
theorem yo_isSpace {post : Int32 → Prop} {p : Int32} {fa ma ta : Nat → Int32} (h : post (ps_b (ps_ok p 3))) : wpY_isSpace post (fa, ma, ta) p := by
  unfold wpY_isSpace
  exact ps_oky (M := 2) (by decide) h
theorem xt_isSpace {A B : Prop} {p : Int32} (b : ps_ok p 3 = true) (h : B) : wpX_isSpace (fun r => (r = 0 → A) ∧ (¬ r = 0 → B)) p := xo_isSpace (ps_br (fun _ => h) (fun c => absurd (c.symm.trans b) (by decide)))
theorem xf_isSpace {A B : Prop} {p : Int32} (b : ps_ok p 3 = false) (h : A) : wpX_isSpace (fun r => (r = 0 → A) ∧ (¬ r = 0 → B)) p := xo_isSpace (ps_br (fun c => absurd (b.symm.trans c) (by decide)) (fun _ => h))
theorem yt_isSpace {A B : Prop} {p : Int32} {fa ma ta : Nat → Int32} (b : ps_ok p 3 = true) (h : B) : wpY_isSpace (fun r => (r = 0 → A) ∧ (¬ r = 0 → B)) (fa, ma, ta) p := yo_isSpace (ps_br (fun _ => h) (fun c => absurd (c.symm.trans b) (by decide)))
theorem yf_isSpace {A B : Prop} {p : Int32} {fa ma ta : Nat → Int32} (b : ps_ok p 3 = false) (h : A) : wpY_isSpace (fun r => (r = 0 → A) ∧ (¬ r = 0 → B)) (fa, ma, ta) p := yo_isSpace (ps_br (fun c => absurd (b.symm.trans c) (by decide)) (fun _ => h))
theorem xo_isSet {post : Int32 → Prop} {p : Int32} (h : post (ps_b (ps_ok p 32))) : wpX_isSet post p := by
  unfold wpX_isSet
  exact ps_okx (N := 32) h
theorem yo_isSet {post : Int32 → Prop} {p : Int32} {fa ma ta : Nat → Int32} (h : post (ps_b (ps_ok p 32))) : wpY_isSet post (fa, ma, ta) p := by
  unfold wpY_isSet
  exact ps_oky (M := 31) (by decide) h
theorem xt_isSet {A B : Prop} {p : Int32} (b : ps_ok p 32 = true) (h : B) : wpX_isSet (fun r => (r = 0 → A) ∧ (¬ r = 0 → B)) p := xo_isSet (ps_br (fun _ => h) (fun c => absurd (c.symm.trans b) (by decide)))
theorem xf_isSet {A B : Prop} {p : Int32} (b : ps_ok p 32 = false) (h : A) : wpX_isSet (fun r => (r = 0 → A) ∧ (¬ r = 0 → B)) p := xo_isSet (ps_br (fun c => absurd (b.symm.trans c) (by decide)) (fun _ => h))
theorem yt_isSet {A B : Prop} {p : Int32} {fa ma ta : Nat → Int32} (b : ps_ok p 32 = true) (h : B) : wpY_isSet (fun r => (r = 0 → A) ∧ (¬ r = 0 → B)) (fa, ma, ta) p := yo_isSet (ps_br (fun _ => h) (fun c => absurd (c.symm.trans b) (by decide)))
theorem yf_isSet {A B : Prop} {p : Int32} {fa ma ta : Nat → Int32} (b : ps_ok p 32 = false) (h : A) : wpY_isSet (fun r => (r = 0 → A) ∧ (¬ r = 0 → B)) (fa, ma, ta) p := yo_isSet (ps_br (fun c => absurd (b.symm.trans c) (by decide)) (fun _ => h))
theorem xo_isPoint {post : Int32 → Prop} {p : Int32} (h : post (ps_b (ps_ok p 5))) : wpX_isPoint post p := by
  unfold wpX_isPoint
  exact ps_okx (N := 5) h
theorem yo_isPoint {post : Int32 → Prop} {p : Int32} {fa ma ta : Nat → Int32} (h : post (ps_b (ps_ok p 5))) : wpY_isPoint post (fa, ma, ta) p := by
  unfold wpY_isPoint
  exact ps_oky (M := 4) (by decide) h
theorem xt_isPoint {A B : Prop} {p : Int32} (b : ps_ok p 5 = true) (h : B) : wpX_isPoint (fun r => (r = 0 → A) ∧ (¬ r = 0 → B)) p := xo_isPoint (ps_br (fun _ => h) (fun c => absurd (c.symm.trans b) (by decide)))
theorem xf_isPoint {A B : Prop} {p : Int32} (b : ps_ok p 5 = false) (h : A) : wpX_isPoint (fun r => (r = 0 → A) ∧ (¬ r = 0 → B)) p := xo_isPoint (ps_br (fun c => absurd (b.symm.trans c) (by decide)) (fun _ => h))
theorem yt_isPoint {A B : Prop} {p : Int32} {fa ma ta : Nat → Int32} (b : ps_ok p 5 = true) (h : B) : wpY_isPoint (fun r => (r = 0 → A) ∧ (¬ r = 0 → B)) (fa, ma, ta) p := yo_isPoint (ps_br (fun _ => h) (fun c => absurd (c.symm.trans b) (by decide)))
theorem yf_isPoint {A B : Prop} {p : Int32} {fa ma ta : Nat → Int32} (b : ps_ok p 5 = false) (h : A) : wpY_isPoint (fun r => (r = 0 → A) ∧ (¬ r = 0 → B)) (fa, ma, ta) p := yo_isPoint (ps_br (fun c => absurd (b.symm.trans c) (by decide)) (fun _ => h))
theorem xo_isMap {post : Int32 → Prop} {p : Int32} (h : post (ps_b (ps_ok p 3125))) : wpX_isMap post p := by
  unfold wpX_isMap
  exact ps_okx (N := 3125) h
theorem yo_isMap {post : Int32 → Prop} {p : Int32} {fa ma ta : Nat → Int32} (h : post (ps_b (ps_ok p 3125))) : wpY_isMap post (fa, ma, ta) p := by
  unfold wpY_isMap
  exact ps_oky (M := 3124) (by decide) h
theorem xt_isMap {A B : Prop} {p : Int32} (b : ps_ok p 3125 = true) (h : B) : wpX_isMap (fun r => (r = 0 → A) ∧ (¬ r = 0 → B)) p := xo_isMap (ps_br (fun _ => h) (fun c => absurd (c.symm.trans b) (by decide)))
theorem xf_isMap {A B : Prop} {p : Int32} (b : ps_ok p 3125 = false) (h : A) : wpX_isMap (fun r => (r = 0 → A) ∧ (¬ r = 0 → B)) p := xo_isMap (ps_br (fun c => absurd (b.symm.trans c) (by decide)) (fun _ => h))
theorem yt_isMap {A B : Prop} {p : Int32} {fa ma ta : Nat → Int32} (b : ps_ok p 3125 = true) (h : B) : wpY_isMap (fun r => (r = 0 → A) ∧ (¬ r = 0 → B)) (fa, ma, ta) p := yo_isMap (ps_br (fun _ => h) (fun c => absurd (c.symm.trans b) (by decide)))
theorem yf_isMap {A B : Prop} {p : Int32} {fa ma ta : Nat → Int32} (b : ps_ok p 3125 = false) (h : A) : wpY_isMap (fun r => (r = 0 → A) ∧ (¬ r = 0 → B)) (fa, ma, ta) p := yo_isMap (ps_br (fun c => absurd (b.symm.trans c) (by decide)) (fun _ => h))
theorem ps_okI {p : Int32} (b : ps_ok p 3 = true) : vp_in p 3 := by
  obtain ⟨j, hj, rfl⟩ := ps_okE (by decide) b
  exact vp_in_nI hj (by decide)
theorem ps_okL {p : Int32} (b : ps_ok p 3 = true) : p.toNatClampNeg < 3 := by
  obtain ⟨j, hj, rfl⟩ := ps_okE (by decide) b
  rw [nI_clamp (by omega)]
  exact hj
theorem yb_1 {post : Int32 → Prop} {p q m : Int32} {fa ma ta : Nat → Int32} (b : ps_ok p 3 = false) (h : post (-1)) : wpY_bad post (fa, ma, ta) p q m := by
  unfold wpY_bad
  exact yf_isSpace b h
theorem yb_2 {post : Int32 → Prop} {p q m : Int32} {fa ma ta : Nat → Int32} (b : ps_ok p 3 = true) (b2 : ps_ok q 3 = false) (h : post (-1)) : wpY_bad post (fa, ma, ta) p q m := by
  unfold wpY_bad
  exact yt_isSpace b (yf_isSpace b2 h)
theorem yb_3 {post : Int32 → Prop} {p q m : Int32} {fa ma ta : Nat → Int32} (b : ps_ok p 3 = true) (b2 : ps_ok q 3 = true) (b3 : ps_ok m 3125 = false) (h : post (-2)) : wpY_bad post (fa, ma, ta) p q m := by
  unfold wpY_bad
  exact yt_isSpace b (yt_isSpace b2 (yf_isMap b3 h))
theorem yb_4 {post : Int32 → Prop} {p q m : Int32} {fa ma ta : Nat → Int32} (b : ps_ok p 3 = true) (b2 : ps_ok q 3 = true) (b3 : ps_ok m 3125 = true) (h : post 0) : wpY_bad post (fa, ma, ta) p q m := by
  unfold wpY_bad
  exact yt_isSpace b (yt_isSpace b2 (yt_isMap b3 h))
theorem xv_become {post : Int32 → SX → Prop} {fa sp : Nat → Int32} {p G : Int32} (hp : vp_in p 3) (h : post (nI (ps_C (bt G) 32)) (upd fa p.toNatClampNeg G, sp)) : wpX_become post (fa, sp) p G := by
  unfold wpX_become
  exact ⟨hp, nm_e (xv_count h)⟩
theorem yv_take {post : Int32 → SY → Prop} {fa ma ta : Nat → Int32} {p G : Int32} (hp : vp_in p 3) (h : post (nI (ps_C (bt G) 32)) (upd fa p.toNatClampNeg G, ma, ta)) : wpY_take post (fa, ma, ta) p G := by
  unfold wpY_take
  exact ⟨hp, nm_e (yv_count h)⟩
theorem xv_open {post : Int32 → Prop} {F : Int32} {S : Nat} (hT : tp_T F) (hS : S < 32) (h : post (nI (pv_with F S))) : wpX_leastSpace post (F ||| ((1 : Int32) <<< (nI S &&& 31))) := by
  rw [ps_one S hS]
  exact xv_leastSpace (by rw [tp_open hT hS]; exact h)
theorem xv_join {post : Int32 → Prop} {F G : Int32} (hT : tp_T F) (h : post (pv_join F G)) : wpX_leastSpace post (F ||| G) :=
  xv_leastSpace (by rw [tp_join hT G]; exact h)
/-! the splits of a set -/
def pv_sp (V : Nat) : Nat := ps_fo (fun x s => ps_O s (fun y => V.testBit x && !V.testBit y) (fun y => 2 ^ (5 * x + y)) 5) 0 5
theorem ps_53 : ∀ x, x < 5 → ∀ y, y < 5 → (5 * nI x) + nI y = nI (5 * x + y) := by decide +kernel
theorem xv_split {post : Int32 → Prop} {V : Nat} (h : post (nI (pv_sp V))) : wpX_splitPairs post (nI V) := by
  unfold wpX_splitPairs
  refine ⟨_, lo_fo (fun n x s => wX_splitPairs_4 post (nI V) n (nI s) (nI x)) (fun x s => ps_O s (fun y => V.testBit x && !V.testBit y) (fun y => 2 ^ (5 * x + y)) 5) 0 5 0 (fun n => br_t ps_5e h) ?_ 5 0 (by omega) (by omega)⟩
  intro n x s _ hx w
  refine br_f (ps_5 hx) ⟨_, lo_O (fun n' y s' => wX_splitPairs_11 post (wX_splitPairs_4 post (nI V) n) (nI V) (nI x) n' (nI s') (nI y)) s (fun y => V.testBit x && !V.testBit y) (fun y => 2 ^ (5 * x + y)) 5 (fun n' => br_t ps_5e (nm_r (nI_1 x) w)) (fun n' y s' hy t f => br_f (ps_5 hy) (hx_hasN (by omega) (ps_br (fun b1 => hx_hasN (by omega) (ps_br (fun b2 => nm_r (nI_1 y) (f (by rw [b1, b2]; rfl))) (fun b2 => nm_r (by rw [ps_53 x hx y hy]; exact ps_sb s' (by omega)) (nm_r (nI_1 y) (t (by rw [b1, b2]; rfl)))))) (fun b1 => nm_r (nI_1 y) (f (by rw [b1]; rfl))))))⟩
theorem xv_init (post : SX → Prop) (h : ∀ sp : Nat → Int32, (∀ j, j < 32 → sp j = nI (pv_sp j)) → post (upd (upd (upd (fun _ => 0) 0 (-2147483647)) 1 (-2147483647)) 2 (-2147483647), sp)) : wpX_init post := by
  unfold wpX_init
  have H : ∀ fa : Nat → Int32, (∀ sp : Nat → Int32, (∀ j, j < 32 → sp j = nI (pv_sp j)) → post (fa, sp)) → ∃ n, wX_init_42 post n 0 fa (fun _ => 0) := by
    intro fa hf
    refine loop_0 (fun n i sp => wX_init_42 post n (nI i) fa sp) (fun i sp => ∀ j, j < i → sp j = nI (pv_sp j)) 32 (fun _ => 0) (fun j hj => absurd hj (by omega)) (fun n s hs => br_t ps_32e (hf s hs)) ?_
    intro n i s hi hs w
    refine br_f (ps_32 hi) (xv_split ⟨vp_in_nI hi (by decide), nm_e (nm_r (nI_1 i) (w _ ?_))⟩)
    intro j hj
    rw [nI_clamp (by omega)]
    by_cases q : j = i
    · subst q; exact pk_us
    · rw [pk_un q]; exact hs j (by omega)
  refine ⟨4, ?_⟩
  refine br_f (by decide) ⟨vp_in_nI (n := 0) (by decide) (by decide), nm_e (nm_r (nI_1 0) ?_)⟩
  refine br_f (by decide) ⟨vp_in_nI (n := 1) (by decide) (by decide), nm_e (nm_r (nI_1 1) ?_)⟩
  refine br_f (by decide) ⟨vp_in_nI (n := 2) (by decide) (by decide), nm_e (nm_r (nI_1 2) ?_)⟩
  exact br_t (by decide) (H _ h)
theorem yv_init (post : SY → Prop) (h : post (upd (upd (upd (fun _ => 0) 0 (-2147483647)) 1 (-2147483647)) 2 (-2147483647), (fun _ => 0), (fun _ => 0))) : wpY_init post := by
  unfold wpY_init
  refine ⟨4, ?_⟩
  refine br_f (by decide) ⟨vp_in_nI (n := 0) (by decide) (by decide), nm_e (nm_r (nI_1 0) ?_)⟩
  refine br_f (by decide) ⟨vp_in_nI (n := 1) (by decide) (by decide), nm_e (nm_r (nI_1 1) ?_)⟩
  refine br_f (by decide) ⟨vp_in_nI (n := 2) (by decide) (by decide), nm_e (nm_r (nI_1 2) ?_)⟩
  exact br_t (by decide) h
end
section
/-! the outer loops of questions, both sides -/
theorem xv_dense {post : Int32 → Prop} {fa sp : Nat → Int32} {p : Int32} (hp : vp_in p 3) (h : post (nI (ps_C (fun V => decide (pv_cl (fa p.toNatClampNeg) V = 31)) 32))) : ∃ n, wX_dense_13 post p fa sp n 0 0 := by
  refine ⟨_, lo_C (fun n i s => wX_dense_13 post p fa sp n (nI s) (nI i)) (fun V => decide (pv_cl (fa p.toNatClampNeg) V = 31)) 32 (fun n => br_t ps_32e h) (fun n i s hi t f => br_f (ps_32 hi) ⟨hp, xv_closure hi (br_c (fun e => ?_) (fun e => ?_))⟩)⟩
  · have e2 := (ps_ni (b := 31) (pv_cl_lt _ i) (by decide)).mp e
    exact nm_r (nI_1 s) (nm_r (nI_1 i) (t (decide_eq_true e2)))
  · have e2 : ¬ pv_cl (fa p.toNatClampNeg) i = 31 := fun q => e ((ps_ni (b := 31) (pv_cl_lt _ i) (by decide)).mpr q)
    exact nm_r (nI_1 i) (f (decide_eq_false e2))
theorem yv_dense {post : Int32 → Prop} {fa ma ta : Nat → Int32} {p : Int32} (hp : vp_in p 3) (h : post (nI (ps_C (fun V => decide (pv_cl (fa p.toNatClampNeg) V = 31)) 32))) : ∃ n, wY_dense_14 post p fa ma ta n 0 0 := by
  refine ⟨_, lo_C (fun n i s => wY_dense_14 post p fa ma ta n (nI s) (nI i)) (fun V => decide (pv_cl (fa p.toNatClampNeg) V = 31)) 32 (fun n => br_t ps_32e h) (fun n i s hi t f => br_f (ps_32 hi) ⟨hp, yv_closure hi (br_c (fun e => ?_) (fun e => ?_))⟩)⟩
  · have e2 := (ps_ni (b := 31) (pv_cl_lt _ i) (by decide)).mp e
    exact nm_r (nI_1 s) (nm_r (nI_1 i) (t (decide_eq_true e2)))
  · have e2 : ¬ pv_cl (fa p.toNatClampNeg) i = 31 := fun q => e ((ps_ni (b := 31) (pv_cl_lt _ i) (by decide)).mpr q)
    exact nm_r (nI_1 i) (f (decide_eq_false e2))
theorem xv_maps {post : Int32 → Prop} {fa sp : Nat → Int32} {p q : Int32} (hp : vp_in p 3) (hq : vp_in q 3) (h : post (nI (ps_C (fun m => pv_ct (fa p.toNatClampNeg) (fa q.toNatClampNeg) m) 3125))) : ∃ n, wX_maps_21 post p q fa sp n 0 0 := by
  refine ⟨_, lo_C (fun n i s => wX_maps_21 post p q fa sp n (nI s) (nI i)) (fun m => pv_ct (fa p.toNatClampNeg) (fa q.toNatClampNeg) m) 3125 (fun n => br_t ps_me h) (fun n i s hi t f => br_f (ps_m hi) ⟨hp, hq, xv_cont (by omega) (ps_br (fun b => ?_) (fun b => ?_))⟩)⟩
  · rw [tp_ct] at b
    exact nm_r (nI_1 s) (nm_r (nI_1 i) (t b))
  · rw [tp_ct] at b
    exact nm_r (nI_1 i) (f b)
theorem yv_maps {post : Int32 → Prop} {fa ma ta : Nat → Int32} {p q : Int32} (hp : vp_in p 3) (hq : vp_in q 3) (h : post (nI (ps_C (fun m => pv_ct (fa p.toNatClampNeg) (fa q.toNatClampNeg) m) 3125))) : ∃ n, wY_maps_23 post p q fa ma ta n 0 0 :=
  ⟨_, lo_C (fun n i s => wY_maps_23 post p q fa ma ta n (nI s) (nI i)) (fun m => pv_ct (fa p.toNatClampNeg) (fa q.toNatClampNeg) m) 3125 (fun n => br_t ps_me h) (fun n i s hi t f => br_f (ps_m hi) (yv_cont hp hq (by omega) (ps_br (fun b => nm_r (nI_1 s) (nm_r (nI_1 i) (t b))) (fun b => nm_r (nI_1 i) (f b)))))⟩
def pv_sm (F T : Int32) (m : Nat) : Bool := decide (pv_ta m 31 = 31) && (pv_ct F T m && pv_bk F T m)
theorem xv_sameness {post : Int32 → Prop} {F T : Int32} {m : Nat} (hm : m < 2 ^ 31) (h : post (ps_b (pv_sm F T m))) : wpX_isSameness post F T (nI m) := by
  unfold wpX_isSameness
  unfold pv_sm at h
  refine xv_taken (V := 31) hm (br_c (fun e => xv_cont hm (ps_br (fun b1 => xv_back hm (ps_br (fun b2 => ?_) (fun b2 => ?_))) (fun b1 => ?_))) (fun e => ?_))
  · have e2 := (ps_ni (b := 31) (pv_ta_lt m 31) (by decide)).mp e
    rw [tp_ct] at b1
    rw [decide_eq_true e2, b1, b2] at h
    exact h
  · have e2 := (ps_ni (b := 31) (pv_ta_lt m 31) (by decide)).mp e
    rw [tp_ct] at b1
    rw [decide_eq_true e2, b1, b2] at h
    exact h
  · have e2 := (ps_ni (b := 31) (pv_ta_lt m 31) (by decide)).mp e
    rw [tp_ct] at b1
    rw [decide_eq_true e2, b1] at h
    exact h
  · have e2 : ¬ pv_ta m 31 = 31 := fun q => e ((ps_ni (b := 31) (pv_ta_lt m 31) (by decide)).mpr q)
    rw [decide_eq_false e2] at h
    exact h
theorem xv_same {post : Int32 → Prop} {fa sp : Nat → Int32} {p q : Int32} (hp : vp_in p 3) (hq : vp_in q 3) (h : post (nI (ps_C (fun m => pv_sm (fa p.toNatClampNeg) (fa q.toNatClampNeg) m) 3125))) : ∃ n, wX_same_21 post p q fa sp n 0 0 :=
  ⟨_, lo_C (fun n i s => wX_same_21 post p q fa sp n (nI s) (nI i)) (fun m => pv_sm (fa p.toNatClampNeg) (fa q.toNatClampNeg) m) 3125 (fun n => br_t ps_me h) (fun n i s hi t f => br_f (ps_m hi) ⟨hp, hq, xv_sameness (by omega) (ps_br (fun b => nm_r (nI_1 s) (nm_r (nI_1 i) (t b))) (fun b => nm_r (nI_1 i) (f b)))⟩)⟩
theorem yv_same {post : Int32 → Prop} {fa ma ta : Nat → Int32} {p q : Int32} (hp : vp_in p 3) (hq : vp_in q 3) (h : post (nI (ps_C (fun m => pv_sm (fa p.toNatClampNeg) (fa q.toNatClampNeg) m) 3125))) : ∃ n, wY_same_23 post p q fa ma ta n 0 0 := by
  refine ⟨_, lo_C (fun n i s => wY_same_23 post p q fa ma ta n (nI s) (nI i)) (fun m => pv_sm (fa p.toNatClampNeg) (fa q.toNatClampNeg) m) 3125 (fun n => br_t ps_me h) (fun n i s hi t f => br_f (ps_m hi) (yv_taken (V := 31) (by omega) (br_c (fun e => yv_cont hp hq (by omega) (ps_br (fun b1 => yv_back hp hq (by omega) (ps_br (fun b2 => nm_r (nI_1 s) (nm_r (nI_1 i) (t ?_))) (fun b2 => nm_r (nI_1 i) (f ?_)))) (fun b1 => nm_r (nI_1 i) (f ?_)))) (fun e => nm_r (nI_1 i) (f ?_)))))⟩
  · have e2 := (ps_ni (b := 31) (pv_ta_lt i 31) (by decide)).mp e
    unfold pv_sm; rw [decide_eq_true e2, b1, b2]; rfl
  · have e2 := (ps_ni (b := 31) (pv_ta_lt i 31) (by decide)).mp e
    unfold pv_sm; rw [decide_eq_true e2, b1, b2]; rfl
  · have e2 := (ps_ni (b := 31) (pv_ta_lt i 31) (by decide)).mp e
    unfold pv_sm; rw [decide_eq_true e2, b1]; rfl
  · have e2 : ¬ pv_ta i 31 = 31 := fun q => e ((ps_ni (b := 31) (pv_ta_lt i 31) (by decide)).mpr q)
    unfold pv_sm; rw [decide_eq_false e2]; rfl
def pv_cc (F : Int32) (k : Int32) (V : Nat) : Bool := decide (0 < V) && (decide (nI (ps_C (fun x => V.testBit x) 5) = k) && pv_chx F V)
theorem xv_chains {post : Int32 → Prop} {fa sp : Nat → Int32} {p k : Int32} (hp : vp_in p 3) (h : post (nI (ps_C (pv_cc (fa p.toNatClampNeg) k) 32))) : ∃ n, wX_chains_14 post p k fa sp n 0 1 := by
  refine ⟨_, lo_C1 (fun n i s => wX_chains_14 post p k fa sp n (nI s) (nI i)) (pv_cc (fa p.toNatClampNeg) k) 31 rfl (fun n => br_t ps_32e h) (fun n i s h0 hi t f => br_f (ps_32 hi) (xv_count (br_c (fun e => ⟨hp, xv_chain (ps_br (fun b => nm_r (nI_1 s) (nm_r (nI_1 i) (t ?_))) (fun b => nm_r (nI_1 i) (f ?_)))⟩) (fun e => nm_r (nI_1 i) (f ?_)))))⟩
  · rw [ps_sizes i hi] at e
    unfold pv_cc; rw [decide_eq_true h0, decide_eq_true e, b]; rfl
  · rw [ps_sizes i hi] at e
    unfold pv_cc; rw [decide_eq_true h0, decide_eq_true e, b]; rfl
  · rw [ps_sizes i hi] at e
    unfold pv_cc; rw [decide_eq_true h0, decide_eq_false e]; rfl
theorem yv_chains {post : Int32 → Prop} {fa ma ta : Nat → Int32} {p k : Int32} (hp : vp_in p 3) (h : post (nI (ps_C (pv_cc (fa p.toNatClampNeg) k) 32))) : ∃ n, wY_chains_15 post p k fa ma ta n 0 1 := by
  refine ⟨_, lo_C1 (fun n i s => wY_chains_15 post p k fa ma ta n (nI s) (nI i)) (pv_cc (fa p.toNatClampNeg) k) 31 rfl (fun n => br_t ps_32e h) (fun n i s h0 hi t f => br_f (ps_32 hi) (yv_size hi (br_c (fun e => yv_chain hp (ps_br (fun b => nm_r (nI_1 s) (nm_r (nI_1 i) (t ?_))) (fun b => nm_r (nI_1 i) (f ?_)))) (fun e => nm_r (nI_1 i) (f ?_)))))⟩
  · rw [← tp_ch] at b
    unfold pv_cc; rw [decide_eq_true h0, decide_eq_true e, b]; rfl
  · rw [← tp_ch] at b
    unfold pv_cc; rw [decide_eq_true h0, decide_eq_true e, b]; rfl
  · unfold pv_cc; rw [decide_eq_true h0, decide_eq_false e]; rfl
theorem ps_sb0 (k : Int32) (l : Nat) : nI l = k ↔ k - nI l = 0 := by
  constructor
  · intro h; rw [h]; exact Int32.sub_self k
  · intro h; grind
theorem ps_sb1 (k : Int32) (l : Nat) : k - nI l + (-1) = k - nI (l + 1) := by
  rw [← nI_1]; grind
theorem v_openAt {fa sp ma ta : Nat → Int32} {p k : Int32} (hp : vp_in p 3) : ∀ d i l : Nat, i + d = 32 → ∃ r : Int32, (∀ post : Int32 → Prop, post r → wX_openAt_14 post p k fa sp (d + 1) (nI l) (nI i)) ∧ (∀ post : Int32 → Prop, post r → wY_openAt_15 post p fa ma ta (d + 1) (k - nI l) (nI i)) := by
  intro d
  induction d with
  | zero =>
    intro i l h
    obtain rfl : i = 32 := by omega
    exact ⟨-3, fun post q => br_t ps_32e q, fun post q => br_t ps_32e q⟩
  | succ d ih =>
    intro i l h
    have hi : i < 32 := by omega
    cases b : bt (fa p.toNatClampNeg) i
    · obtain ⟨r, hX, hY⟩ := ih (i + 1) l (by omega)
      refine ⟨r, fun post q => br_f (ps_32 hi) ⟨hp, hx_has hi ?_⟩, fun post q => br_f (ps_32 hi) ⟨hp, hy_in hi ?_⟩⟩
      · rw [b]; exact br_t rfl (nm_r (nI_1 i) (hX post q))
      · rw [b]; exact br_t rfl (nm_r (nI_1 i) (hY post q))
    · by_cases e : nI l = k
      · refine ⟨nI i, fun post q => br_f (ps_32 hi) ⟨hp, hx_has hi ?_⟩, fun post q => br_f (ps_32 hi) ⟨hp, hy_in hi ?_⟩⟩
        · rw [b]; exact br_f (by decide) (br_t e q)
        · rw [b]; exact br_f (by decide) (br_t ((ps_sb0 k l).mp e) q)
      · obtain ⟨r, hX, hY⟩ := ih (i + 1) (l + 1) (by omega)
        refine ⟨r, fun post q => br_f (ps_32 hi) ⟨hp, hx_has hi ?_⟩, fun post q => br_f (ps_32 hi) ⟨hp, hy_in hi ?_⟩⟩
        · rw [b]; exact br_f (by decide) (br_f e (nm_r (nI_1 l) (nm_r (nI_1 i) (hX post q))))
        · rw [b]; exact br_f (by decide) (br_f (fun z => e ((ps_sb0 k l).mpr z)) (nm_r (ps_sb1 k l) (nm_r (nI_1 i) (hY post q))))
end
section
/-! how many sets make a space: the pure side -/
theorem pk_loop {σ : Type} (W : Nat → Nat → σ → Prop) (I : Nat → σ → Prop) (e i0 : Nat) (s : σ) (hi : i0 ≤ e) (h0 : I i0 s) (hx : ∀ n s, I e s → W (n + 1) e s)
    (hs : ∀ n i s, i < e → I i s → (∀ s', I (i + 1) s' → W n (i + 1) s') → W (n + 1) i s) : ∃ n, W n i0 s :=
  ⟨e + 1, loop_i W I e hx hs (e + 1) i0 s hi (by omega) h0⟩
def nd_ch (a : Nat) : Nat := if a = 0 then 0 else 1
def nd_I (g : Nat → Nat → Prop) (R : Nat → Nat → Nat → Prop) (c d v : Nat) : Prop := v ≤ 5 ∧ (∀ a b, a ≤ b → b < 32 → (a < c ∨ (a = c ∧ b < d)) → g a b → ∃ n, R a b n ∧ v ≤ n) ∧ (v < 5 → ∃ a b, a < 32 ∧ b < 32 ∧ g a b ∧ R a b v)
theorem nd_init (g : Nat → Nat → Prop) (R : Nat → Nat → Nat → Prop) : nd_I g R 0 0 5 :=
  ⟨by omega, fun a b _ _ h => absurd h (by omega), fun h => absurd h (by omega)⟩
theorem nd_skip {g : Nat → Nat → Prop} {R : Nat → Nat → Nat → Prop} {c d v : Nat} (h : nd_I g R c d v) (q : ¬ g c d) : nd_I g R c (d + 1) v := by
  refine ⟨h.1, fun a b h1 h2 h3 h4 => h.2.1 a b h1 h2 ?_ h4, h.2.2⟩
  rcases h3 with h3 | ⟨h3, h5⟩
  · exact Or.inl h3
  · by_cases z : b = d
    · subst h3; subst z; exact absurd h4 q
    · exact Or.inr ⟨h3, by omega⟩
theorem nd_keep {g : Nat → Nat → Prop} {R : Nat → Nat → Nat → Prop} {c d v n : Nat} (h : nd_I g R c d v) (r : R c d n) (q : v ≤ n) : nd_I g R c (d + 1) v := by
  refine ⟨h.1, fun a b h1 h2 h3 h4 => ?_, h.2.2⟩
  by_cases z : a = c ∧ b = d
  · obtain ⟨rfl, rfl⟩ := z
    exact ⟨n, r, q⟩
  · exact h.2.1 a b h1 h2 (by omega) h4
theorem nd_take {g : Nat → Nat → Prop} {R : Nat → Nat → Nat → Prop} {c d v n : Nat} (h : nd_I g R c d v) (hc : c < 32) (hd : d < 32) (gg : g c d) (r : R c d n) (q : n < v) : nd_I g R c (d + 1) n := by
  refine ⟨by have := h.1; omega, fun a b h1 h2 h3 h4 => ?_, fun _ => ⟨c, d, hc, hd, gg, r⟩⟩
  by_cases z : a = c ∧ b = d
  · obtain ⟨rfl, rfl⟩ := z
    exact ⟨n, r, by omega⟩
  · obtain ⟨m, hm, hv⟩ := h.2.1 a b h1 h2 (by omega) h4
    exact ⟨m, hm, by omega⟩
theorem nd_next {g : Nat → Nat → Prop} {R : Nat → Nat → Nat → Prop} {c v : Nat} (h : nd_I g R c 32 v) : nd_I g R (c + 1) (c + 1) v :=
  ⟨h.1, fun a b h1 h2 h3 h4 => h.2.1 a b h1 h2 (by omega) h4, h.2.2⟩
/-- what a walk over all pairs finds -/
def nd_E (g : Nat → Nat → Prop) (R : Nat → Nat → Nat → Prop) (v : Nat) : Prop := v ≤ 5 ∧ (∀ a b, a ≤ b → b < 32 → g a b → ∃ n, R a b n ∧ v ≤ n) ∧ (v < 5 → ∃ a b, a < 32 ∧ b < 32 ∧ g a b ∧ R a b v)
theorem nd_end {g : Nat → Nat → Prop} {R : Nat → Nat → Nat → Prop} {v : Nat} (h : nd_I g R 32 32 v) : nd_E g R v :=
  ⟨h.1, fun a b h1 h2 h3 => h.2.1 a b h1 h2 (by omega) h3, h.2.2⟩
/-! covers -/
def nd_al (F : Int32) : Nat := ps_O 0 (bt F) pv_sp 32
theorem nd_spt : ∀ V, V < 32 → ∀ i, i < 32 → (pv_sp V).testBit i = (decide (i < 25) && (V.testBit (i / 5) && !V.testBit (i % 5))) := by decide +kernel
def nd_cov (F : Int32) (L : List Nat) : Prop := ∀ x y, x < 5 → y < 5 → tp_S F x y → ∃ s, s ∈ L ∧ s.testBit x = true ∧ s.testBit y = false
def nd_Q (F : Int32) (k : Nat) : Prop := ∃ L : List Nat, L.length ≤ k ∧ (∀ s, s ∈ L → s < 32 ∧ bt F s = true) ∧ nd_cov F L
theorem nd_alt (F : Int32) {i : Nat} (hi : i < 32) : (nd_al F).testBit i = true ↔ i < 25 ∧ tp_S F (i / 5) (i % 5) := by
  unfold nd_al
  rw [ps_Ot]
  constructor
  · rintro (q | ⟨V, hV, a, b⟩)
    · rw [Nat.zero_testBit] at q; exact absurd q (by decide)
    · rw [nd_spt V hV i hi, Bool.and_eq_true, Bool.and_eq_true, decide_eq_true_iff] at b
      exact ⟨b.1, V, hV, a, b.2.1, by have := b.2.2; cases z : V.testBit (i % 5); rfl; rw [z] at this; exact absurd this (by decide)⟩
  · rintro ⟨h, V, hV, a, b, c⟩
    refine Or.inr ⟨V, hV, a, ?_⟩
    rw [nd_spt V hV i hi, decide_eq_true h, b, c]; rfl
/-- covering by bits is covering by points -/
theorem nd_covI {F : Int32} {L : List Nat} (hL : ∀ s, s ∈ L → s < 32) : nd_cov F L ↔ ∀ i, i < 32 → (nd_al F).testBit i = true → ∃ s, s ∈ L ∧ (pv_sp s).testBit i = true := by
  constructor
  · intro h i hi a
    obtain ⟨h1, h2⟩ := (nd_alt F hi).mp a
    obtain ⟨s, hs, p, q⟩ := h (i / 5) (i % 5) (by omega) (by omega) h2
    exact ⟨s, hs, by rw [nd_spt s (hL s hs) i hi, decide_eq_true h1, p, q]; rfl⟩
  · intro h x y hx hy a
    have e1 : (5 * x + y) / 5 = x := by omega
    have e2 : (5 * x + y) % 5 = y := by omega
    obtain ⟨s, hs, b⟩ := h (5 * x + y) (by omega) ((nd_alt F (by omega)).mpr ⟨by omega, by rw [e1, e2]; exact a⟩)
    rw [nd_spt s (hL s hs) _ (by omega), e1, e2, Bool.and_eq_true, Bool.and_eq_true] at b
    exact ⟨s, hs, b.2.1, by have := b.2.2; cases z : s.testBit y; rfl; rw [z] at this; exact absurd this (by decide)⟩
theorem nd_Q5 {F : Int32} (hT : tp_T F) : nd_Q F 5 := by
  refine ⟨(List.range 5).map (pv_lw F), by simp, ?_, ?_⟩
  · intro s hs
    obtain ⟨x, _, rfl⟩ := List.mem_map.mp hs
    exact ⟨pv_lw_lt F x, tp_lwT hT x⟩
  · intro x y hx hy a
    refine ⟨pv_lw F x, List.mem_map.mpr ⟨x, List.mem_range.mpr hx, rfl⟩, (tp_lw F x x).mpr ⟨hx, ?_⟩, tb_f (fun q => ((tp_lw F x y).mp q).2 a)⟩
    rintro ⟨U, _, _, p, q⟩
    rw [p] at q; exact absurd q (by decide)
/-! the search of the reference -/
def nd_gd (F : Int32) : Nat → Nat → Int32 → Prop
  | 0, m, G => m = 0 ∧ G = F
  | r + 1, m, G => (m = 0 ∧ G = F) ∨ (0 < m ∧ ((bt F (30 - r) = true ∧ nd_gd F r (m - 1) (nI (pv_with G (30 - r)))) ∨ nd_gd F r m G))
def nd_w : Nat → Nat → Nat
  | 0, _ => 1
  | _ + 1, 0 => 1
  | r + 1, m + 1 => 1 + nd_w r m + nd_w r (m + 1)
theorem nd_w1 (r m : Nat) : 1 ≤ nd_w r m := by
  cases r
  · exact Nat.le_refl _
  · cases m
    · exact Nat.le_refl _
    · show 1 ≤ 1 + _ + _; omega
theorem nd_w30 : nd_w 30 0 ≤ 2000000 ∧ nd_w 30 1 ≤ 2000000 ∧ nd_w 30 2 ≤ 2000000 ∧ nd_w 30 3 ≤ 2000000 ∧ nd_w 30 4 ≤ 2000000 ∧ nd_w 30 5 ≤ 2000000 := by decide +kernel
theorem nd_w5 {k : Nat} (h : k ≤ 5) : nd_w 30 k ≤ 2000000 := by
  rcases (by omega : k = 0 ∨ k = 1 ∨ k = 2 ∨ k = 3 ∨ k = 4 ∨ k = 5) with rfl | rfl | rfl | rfl | rfl | rfl
  · exact nd_w30.1
  · exact nd_w30.2.1
  · exact nd_w30.2.2.1
  · exact nd_w30.2.2.2.1
  · exact nd_w30.2.2.2.2.1
  · exact nd_w30.2.2.2.2.2
theorem nd_gd0 {F G : Int32} {r : Nat} : nd_gd F r 0 G ↔ G = F := by
  cases r
  · exact ⟨fun h => h.2, fun h => ⟨rfl, h⟩⟩
  · constructor
    · rintro (h | ⟨h, _⟩)
      · exact h.2
      · exact absurd h (by omega)
    · intro h; exact Or.inl ⟨rfl, h⟩
theorem nd_gdS {F G : Int32} {r m : Nat} : nd_gd F (r + 1) (m + 1) G ↔ (bt F (30 - r) = true ∧ nd_gd F r m (nI (pv_with G (30 - r)))) ∨ nd_gd F r (m + 1) G := by
  constructor
  · rintro (h | ⟨_, h⟩)
    · exact absurd h.1 (by omega)
    · exact h
  · intro h; exact Or.inr ⟨by omega, h⟩
theorem nd_gdZ {F G : Int32} {m : Nat} : ¬ nd_gd F 0 (m + 1) G := fun h => absurd h.1 (by omega)
theorem nd_gdL {F : Int32} : ∀ r m G, tp_T G → nd_gd F r m G → ∃ L : List Nat, L.length = m ∧ (∀ s, s ∈ L → s < 32 ∧ bt F s = true) ∧ ∀ x y, tp_S F x y → tp_S G x y ∨ ∃ s, s ∈ L ∧ s.testBit x = true ∧ s.testBit y = false := by
  intro r
  induction r with
  | zero =>
    intro m G hG h
    obtain ⟨rfl, rfl⟩ := h
    exact ⟨[], rfl, fun s hs => absurd hs (by simp), fun x y a => Or.inl a⟩
  | succ r ih =>
    intro m G hG h
    cases m with
    | zero =>
      obtain rfl := nd_gd0.mp h
      exact ⟨[], rfl, fun s hs => absurd hs (by simp), fun x y a => Or.inl a⟩
    | succ m =>
      rcases nd_gdS.mp h with ⟨a, b⟩ | b
      · obtain ⟨L, h1, h2, h3⟩ := ih m _ (tp_withT hG _) b
        refine ⟨(30 - r) :: L, by rw [List.length_cons, h1], ?_, ?_⟩
        · intro s hs
          rcases List.mem_cons.mp hs with rfl | hs
          · exact ⟨by omega, a⟩
          · exact h2 s hs
        · intro x y q
          rcases h3 x y q with z | ⟨s, hs, z⟩
          · rcases (tp_withS hG (by omega) x y).mp z with z | z
            · exact Or.inl z
            · exact Or.inr ⟨30 - r, List.mem_cons_self, z⟩
          · exact Or.inr ⟨s, List.mem_cons_of_mem _ hs, z⟩
      · exact ih (m + 1) G hG b
theorem nd_plainS {x y : Nat} (hy : y < 5) : ¬ tp_S (-2147483647) x y := by
  rintro ⟨V, hV, a, b, c⟩
  rw [tp_plainB V hV, decide_eq_true_iff] at a
  rcases a with rfl | rfl
  · rw [Nat.zero_testBit] at b; exact absurd b (by decide)
  · rw [tb_31, decide_eq_true hy] at c; exact absurd c (by decide)
theorem nd_gdQ {F : Int32} {k : Nat} (h : nd_gd F 30 k (-2147483647)) : nd_Q F k := by
  obtain ⟨L, h1, h2, h3⟩ := nd_gdL 30 k _ tp_plain h
  refine ⟨L, by omega, h2, fun x y hx hy a => ?_⟩
  rcases h3 x y a with z | z
  · exact absurd z (nd_plainS hy)
  · exact z
theorem nd_flt (L : List Nat) (s : Nat) (h : s ∈ L) : (L.filter (fun t => decide (¬ t = s))).length + 1 ≤ L.length := by
  induction L with
  | nil => exact absurd h (by simp)
  | cons a L ih =>
    have hl : (L.filter (fun t => decide (¬ t = s))).length ≤ L.length := List.length_filter_le _ _
    by_cases q : a = s
    · rw [List.filter_cons_of_neg (by simp [q]), List.length_cons]
      omega
    · rw [List.filter_cons_of_pos (by simp [q]), List.length_cons, List.length_cons]
      have := ih (by rcases List.mem_cons.mp h with rfl | h; exact absurd rfl q; exact h)
      omega
theorem nd_find {F : Int32} (hF : tp_T F) : ∀ r, r ≤ 30 → ∀ (G : Int32) (L : List Nat), tp_T G → (∀ x y, tp_S G x y → tp_S F x y) → (∀ s, s ∈ L → 30 - r < s ∧ s ≤ 30 ∧ bt F s = true) → (∀ x y, x < 5 → y < 5 → tp_S F x y → tp_S G x y ∨ ∃ s, s ∈ L ∧ s.testBit x = true ∧ s.testBit y = false) → ∃ j, j ≤ L.length ∧ nd_gd F r j G := by
  intro r
  induction r with
  | zero =>
    intro _ G L hG hs hL hc
    refine ⟨0, by omega, nd_gd0.mpr (tp_eq hG hF fun x y hx hy => ⟨hs x y, fun a => ?_⟩)⟩
    rcases hc x y hx hy a with z | ⟨s, h1, _⟩
    · exact z
    · have := hL s h1; omega
  | succ r ih =>
    intro hr G L hG hs hL hc
    by_cases q : (30 - r) ∈ L
    · have hq := hL _ q
      obtain ⟨j, hj, h⟩ := ih (by omega) (nI (pv_with G (30 - r))) (L.filter (fun t => decide (¬ t = 30 - r))) (tp_withT hG _) (by
        intro x y a
        rcases (tp_withS hG (by omega) x y).mp a with z | z
        · exact hs x y z
        · exact ⟨30 - r, by omega, hq.2.2, z⟩) (by
        intro s h1
        obtain ⟨h1, h2⟩ := List.mem_filter.mp h1
        have h3 := hL s h1
        have h4 : ¬ s = 30 - r := by simpa using h2
        exact ⟨by omega, h3.2⟩) (by
        intro x y hx hy a
        rw [tp_withS hG (by omega)]
        rcases hc x y hx hy a with z | ⟨s, h1, h2⟩
        · exact Or.inl (Or.inl z)
        · by_cases e : s = 30 - r
          · subst e; exact Or.inl (Or.inr h2)
          · exact Or.inr ⟨s, List.mem_filter.mpr ⟨h1, by simpa using e⟩, h2⟩)
      have := nd_flt L _ q
      exact ⟨j + 1, by omega, nd_gdS.mpr (Or.inl ⟨hq.2.2, h⟩)⟩
    · obtain ⟨j, hj, h⟩ := ih (by omega) G L hG hs (by
        intro s h1
        have h3 := hL s h1
        have h4 : ¬ s = 30 - r := fun e => q (by rw [← e]; exact h1)
        exact ⟨by omega, h3.2⟩) hc
      refine ⟨j, hj, ?_⟩
      cases j with
      | zero => exact nd_gd0.mpr (nd_gd0.mp h)
      | succ j => exact nd_gdS.mpr (Or.inr h)
theorem nd_Qgd {F : Int32} (hF : tp_T F) {k : Nat} (h : nd_Q F k) : ∃ j, j ≤ k ∧ nd_gd F 30 j (-2147483647) := by
  obtain ⟨L, h1, h2, h3⟩ := h
  obtain ⟨j, hj, g⟩ := nd_find hF 30 (by omega) (-2147483647) (L.filter (fun t => decide (0 < t ∧ t < 31))) tp_plain (by
    rintro x y ⟨V, hV, a, b, c⟩
    rw [tp_plainB V hV, decide_eq_true_iff] at a
    rcases a with rfl | rfl
    · exact ⟨0, hV, hF.1, b, c⟩
    · exact ⟨31, hV, hF.2.1, b, c⟩) (by
    intro s hs
    obtain ⟨a, b⟩ := List.mem_filter.mp hs
    have b2 : 0 < s ∧ s < 31 := by simpa using b
    exact ⟨by omega, by omega, (h2 s a).2⟩) (by
    intro x y hx hy a
    obtain ⟨s, hs, p, q⟩ := h3 x y hx hy a
    refine Or.inr ⟨s, List.mem_filter.mpr ⟨hs, ?_⟩, p, q⟩
    have k := (h2 s hs).1
    have n0 : s ≠ 0 := by rintro rfl; rw [Nat.zero_testBit] at p; exact absurd p (by decide)
    have n1 : s ≠ 31 := by rintro rfl; rw [tb_31, decide_eq_true hy] at q; exact absurd q (by decide)
    exact decide_eq_true ⟨by omega, by omega⟩)
  have := List.length_filter_le (fun t => decide (0 < t ∧ t < 31)) L
  exact ⟨j, by omega, g⟩
/-- the least number that the search finds -/
theorem nd_least {F : Int32} (hF : tp_T F) : ∃ k, k ≤ 5 ∧ nd_gd F 30 k (-2147483647) ∧ ∀ j, j < k → ¬ nd_gd F 30 j (-2147483647) := by
  obtain ⟨j, hj, g⟩ := nd_Qgd hF (nd_Q5 hF)
  obtain ⟨k, h1, h2⟩ := pk_least (fun k => nd_gd F 30 k (-2147483647)) ⟨j, g⟩
  refine ⟨k, ?_, h1, h2⟩
  rcases Nat.lt_or_ge 5 k with q | q
  · exact absurd g (h2 j (by omega))
  · exact q
theorem nd_same {F : Int32} (hF : tp_T F) {k v : Nat} (hk : k ≤ 5) (g : nd_gd F 30 k (-2147483647)) (l : ∀ j, j < k → ¬ nd_gd F 30 j (-2147483647)) (v5 : v ≤ 5) (vQ : v < 5 → nd_Q F v) (vl : ∀ j, j < 5 → nd_Q F j → v ≤ j) : v = k := by
  have h1 : v ≤ k := by
    rcases Nat.lt_or_ge k 5 with q | q
    · exact vl k q (nd_gdQ g)
    · omega
  rcases Nat.lt_or_ge v k with q | q
  · obtain ⟨j, hj, gj⟩ := nd_Qgd hF (vQ (by omega))
    exact absurd gj (l j (by omega))
  · omega
end
section
/-! needed: the component's walk -/
theorem xv_all {post : Int32 → Prop} {fa sp : Nat → Int32} {F : Int32} (hS : ∀ j, j < 32 → sp j = nI (pv_sp j)) (h : post (nI (nd_al F))) : wpX_allSplits post (fa, sp) F := by
  unfold wpX_allSplits
  exact ⟨_, lo_O (fun n i s => wX_allSplits_4 post F fa sp n (nI s) (nI i)) 0 (bt F) pv_sp 32 (fun n => br_t ps_32e h) (fun n i s hi t f => br_f (ps_32 hi) (hx_has hi (ps_br (fun b => ⟨vp_in_nI hi (by decide), nm_r (by rw [nI_clamp (by omega), hS i hi, ps_or]) (nm_r (nI_1 i) (t b))⟩) (fun b => nm_r (nI_1 i) (f b)))))⟩
theorem ps_n0 {a : Nat} (ha : a < 32) : nI a = 0 ↔ a = 0 := ps_ni (b := 0) ha (by decide)
theorem xv_chosen {post : Int32 → Prop} {a b : Nat} (ha : a < 32) (hb : b < 32) (h : post (nI (nd_ch a + nd_ch b))) : wpX_countChosen post (nI a) (nI b) := by
  unfold wpX_countChosen
  unfold nd_ch at h
  refine br_c (fun e => ?_) (fun e => ?_)
  · rw [ps_n0 ha] at e
    rw [if_pos e] at h
    unfold wX_countChosen_9
    refine br_c (fun e2 => ?_) (fun e2 => ?_)
    · rw [ps_n0 hb] at e2
      rw [if_pos e2] at h; exact h
    · rw [ps_n0 hb] at e2
      rw [if_neg e2] at h; exact h
  · rw [ps_n0 ha] at e
    rw [if_neg e] at h
    unfold wX_countChosen_9
    refine br_c (fun e2 => ?_) (fun e2 => ?_)
    · rw [ps_n0 hb] at e2
      rw [if_pos e2] at h; exact h
    · rw [ps_n0 hb] at e2
      rw [if_neg e2] at h; exact h
def nd_g2 (sp : Nat → Int32) (F M : Int32) (c d : Nat) : Prop := bt F c = true ∧ bt F d = true ∧ ps_wi M (sp (nI c).toNatClampNeg ||| sp (nI d).toNatClampNeg) = true
def nd_R2 (c d n : Nat) : Prop := n = nd_ch c + nd_ch d
theorem nd_ch1 (a : Nat) : nd_ch a ≤ 1 := by unfold nd_ch; split <;> omega
theorem xv_two {post : Int32 → Prop} {fa sp : Nat → Int32} {F M : Int32} (h : ∀ v, nd_E (nd_g2 sp F M) nd_R2 v → post (nI v)) : wpX_fewestOfTwo post (fa, sp) F M := by
  unfold wpX_fewestOfTwo
  refine pk_loop (fun n i v => wX_fewestOfTwo_5 post F M fa sp n (nI v) (nI i)) (fun i v => nd_I (nd_g2 sp F M) nd_R2 i i v) 32 0 5 (by omega) (nd_init _ _) (fun n v I => br_t ps_32e (h v (nd_end I))) ?_
  intro n i v hi I w
  refine br_f (ps_32 hi) (pk_loop (fun n' j v => wX_fewestOfTwo_16 post (wX_fewestOfTwo_5 post F M fa sp n) F M (nI i) fa sp n' (nI v) (nI j)) (fun j v => nd_I (nd_g2 sp F M) nd_R2 i j v) 32 i v (by omega) I (fun n' v I => br_t ps_32e (nm_r (nI_1 i) (w v (nd_next I)))) ?_)
  intro n' j v hj I w'
  have v5 := I.1
  refine br_f (ps_32 hj) (hx_has hi (ps_br (fun b1 => hx_has hj (ps_br (fun b2 => ⟨vp_in_nI hi (by decide), vp_in_nI hj (by decide), xv_within (ps_br (fun b3 => xv_chosen hi hj (br_c (fun e => ?_) (fun e => ?_))) (fun b3 => nm_r (nI_1 j) (w' v (nd_skip I ?_))))⟩) (fun b2 => nm_r (nI_1 j) (w' v (nd_skip I ?_))))) (fun b1 => nm_r (nI_1 j) (w' v (nd_skip I ?_)))))
  · have c1 := nd_ch1 i
    have c2 := nd_ch1 j
    rw [nI_leI (by omega) (by omega)] at e
    exact nm_r (nI_1 j) (w' v (nd_keep I rfl e))
  · have c1 := nd_ch1 i
    have c2 := nd_ch1 j
    rw [nI_leI (by omega) (by omega)] at e
    exact nm_r (nI_1 j) (w' _ (nd_take I hi hj ⟨b1, b2, b3⟩ rfl (by omega)))
  · rintro ⟨_, _, z⟩; rw [b3] at z; exact absurd z (by decide)
  · rintro ⟨_, z, _⟩; rw [b2] at z; exact absurd z (by decide)
  · rintro ⟨z, _, _⟩; rw [b1] at z; exact absurd z (by decide)
def nd_g1 (F : Int32) (a b : Nat) : Prop := bt F a = true ∧ bt F b = true
def nd_R1 (sp : Nat → Int32) (F A : Int32) (a b n : Nat) : Prop := ∃ m, nd_E (nd_g2 sp F (A &&& ((sp (nI a).toNatClampNeg ||| sp (nI b).toNatClampNeg) ^^^ (-1)))) nd_R2 m ∧ n = nd_ch a + nd_ch b + m
theorem xv_few {post : Int32 → Prop} {fa sp : Nat → Int32} {F : Int32} (hS : ∀ j, j < 32 → sp j = nI (pv_sp j)) (h : ∀ v, nd_E (nd_g1 F) (nd_R1 sp F (nI (nd_al F))) v → post (nI v)) : wpX_fewestSets post (fa, sp) F := by
  unfold wpX_fewestSets
  refine xv_all hS ?_
  refine pk_loop (fun n i v => wX_fewestSets_11 post F (nI (nd_al F)) fa sp n (nI v) (nI i)) (fun i v => nd_I (nd_g1 F) (nd_R1 sp F (nI (nd_al F))) i i v) 32 0 5 (by omega) (nd_init _ _) (fun n v I => br_t ps_32e (h v (nd_end I))) ?_
  intro n i v hi I w
  refine br_f (ps_32 hi) (pk_loop (fun n' j v => wX_fewestSets_22 post (wX_fewestSets_11 post F (nI (nd_al F)) fa sp n) F (nI (nd_al F)) (nI i) fa sp n' (nI v) (nI j)) (fun j v => nd_I (nd_g1 F) (nd_R1 sp F (nI (nd_al F))) i j v) 32 i v (by omega) I (fun n' v I => br_t ps_32e (nm_r (nI_1 i) (w v (nd_next I)))) ?_)
  intro n' j v hj I w'
  have v5 := I.1
  refine br_f (ps_32 hj) (hx_has hi (ps_br (fun b1 => hx_has hj (ps_br (fun b2 => ⟨vp_in_nI hi (by decide), vp_in_nI hj (by decide), nm_e (xv_two (fun m hm => xv_chosen hi hj (nm_r (nI_add _ _) (br_c (fun e => ?_) (fun e => ?_)))))⟩) (fun b2 => nm_r (nI_1 j) (w' v (nd_skip I ?_))))) (fun b1 => nm_r (nI_1 j) (w' v (nd_skip I ?_)))))
  · have c1 := nd_ch1 i
    have c2 := nd_ch1 j
    have c3 := hm.1
    rw [nI_leI (by omega) (by omega)] at e
    exact nm_r (nI_1 j) (w' v (nd_keep I ⟨m, hm, rfl⟩ e))
  · have c1 := nd_ch1 i
    have c2 := nd_ch1 j
    have c3 := hm.1
    rw [nI_leI (by omega) (by omega)] at e
    exact nm_r (nI_1 j) (w' _ (nd_take I hi hj ⟨b1, b2⟩ ⟨m, hm, rfl⟩ (by omega)))
  · rintro ⟨_, z⟩; rw [b2] at z; exact absurd z (by decide)
  · rintro ⟨z, _⟩; rw [b1] at z; exact absurd z (by decide)
/-! what the component's number means -/
theorem nd_sp2 {sp : Nat → Int32} (hS : ∀ j, j < 32 → sp j = nI (pv_sp j)) {c d : Nat} (hc : c < 32) (hd : d < 32) : sp (nI c).toNatClampNeg ||| sp (nI d).toNatClampNeg = nI (pv_sp c ||| pv_sp d) := by
  rw [nI_clamp (by omega), nI_clamp (by omega), hS c hc, hS d hd, ps_or]
theorem nd_pair {F : Int32} (h0 : bt F 0 = true) (L : List Nat) (hl : L.length ≤ 2) (hL : ∀ s, s ∈ L → s < 32 ∧ bt F s = true) : ∃ a b, a ≤ b ∧ b < 32 ∧ bt F a = true ∧ bt F b = true ∧ nd_ch a + nd_ch b ≤ L.length ∧ ∀ i, (∃ s, s ∈ L ∧ (pv_sp s).testBit i = true) → (pv_sp a ||| pv_sp b).testBit i = true := by
  match L, hl, hL with
  | [], _, _ => exact ⟨0, 0, by omega, by omega, h0, h0, by decide, fun i ⟨s, hs, _⟩ => absurd hs (by simp)⟩
  | [x], _, hL =>
    have hx := hL x (by simp)
    refine ⟨0, x, by omega, hx.1, h0, hx.2, by have := nd_ch1 x; show 0 + _ ≤ 1; omega, ?_⟩
    rintro i ⟨s, hs, z⟩
    obtain rfl : s = x := by simpa using hs
    rw [Nat.testBit_or, z, Bool.or_true]
  | [x, y], _, hL =>
    have hx := hL x (by simp)
    have hy := hL y (by simp)
    have cx := nd_ch1 x
    have cy := nd_ch1 y
    have key : ∀ i, (∃ s, s ∈ [x, y] ∧ (pv_sp s).testBit i = true) → (pv_sp x).testBit i = true ∨ (pv_sp y).testBit i = true := by
      rintro i ⟨s, hs, z⟩
      have hs2 : s = x ∨ s = y := by simpa using hs
      rcases hs2 with rfl | rfl
      · exact Or.inl z
      · exact Or.inr z
    rcases Nat.le_total x y with q | q
    · refine ⟨x, y, q, hy.1, hx.2, hy.2, by show _ ≤ 2; omega, fun i h => ?_⟩
      rw [Nat.testBit_or, Bool.or_eq_true]; exact key i h
    · refine ⟨y, x, q, hx.1, hy.2, hx.2, by show _ ≤ 2; omega, fun i h => ?_⟩
      rw [Nat.testBit_or, Bool.or_eq_true]; exact (key i h).symm
  | _ :: _ :: _ :: _, hl, _ => simp at hl
theorem nd_low {F : Int32} (hF : tp_T F) {sp : Nat → Int32} (hS : ∀ j, j < 32 → sp j = nI (pv_sp j)) {v : Nat} (h : nd_E (nd_g1 F) (nd_R1 sp F (nI (nd_al F))) v) : ∀ j, j < 5 → nd_Q F j → v ≤ j := by
  rintro j hj ⟨L, hl, hL, hc⟩
  rw [nd_covI (fun s hs => (hL s hs).1)] at hc
  obtain ⟨a, b, hab, hb, ka, kb, n1, c1⟩ := nd_pair hF.1 (L.take 2) (by simp; omega) (fun s hs => hL s (List.mem_of_mem_take hs))
  obtain ⟨c, d, hcd, hd, kc, kd, n2, c2⟩ := nd_pair hF.1 (L.drop 2) (by simp; omega) (fun s hs => hL s (List.mem_of_mem_drop hs))
  have hn : (L.take 2).length + (L.drop 2).length = L.length := by
    rw [← List.length_append, List.take_append_drop]
  obtain ⟨n, ⟨m, hm, rfl⟩, hv⟩ := h.2.1 a b hab hb ⟨ka, kb⟩
  obtain ⟨n', hn', hm'⟩ := hm.2.1 c d hcd hd ⟨kc, kd, by
    rw [nd_sp2 hS (by omega) hb, nd_sp2 hS (by omega) hd, ps_wi_iff]
    intro i hi z
    rw [b_and, b_xor, b_m1 i hi, ps_bt _ hi, ps_bt _ hi, Bool.and_eq_true] at z
    rw [ps_bt _ hi]
    obtain ⟨s, hs, e⟩ := hc i hi z.1
    rw [← List.take_append_drop 2 L] at hs
    rcases List.mem_append.mp hs with q | q
    · have := c1 i ⟨s, q, e⟩
      rw [this] at z; exact absurd z.2 (by decide)
    · exact c2 i ⟨s, q, e⟩⟩
  have e2 : n' = nd_ch c + nd_ch d := hn'
  omega
def nd_l (a : Nat) : List Nat := if a = 0 then [] else [a]
theorem nd_l_len (a : Nat) : (nd_l a).length = nd_ch a := by unfold nd_l nd_ch; split <;> rfl
theorem nd_l_mem {a s : Nat} (h : s ∈ nd_l a) : s = a := by
  unfold nd_l at h
  split at h
  · exact absurd h (by simp)
  · simpa using h
theorem nd_sp0 : pv_sp 0 = 0 := by decide +kernel
theorem nd_l_in {a i : Nat} (h : (pv_sp a).testBit i = true) : a ∈ nd_l a := by
  unfold nd_l
  split
  · rename_i e; rw [e, nd_sp0, Nat.zero_testBit] at h; exact absurd h (by decide)
  · simp
theorem nd_has {F : Int32} {sp : Nat → Int32} (hS : ∀ j, j < 32 → sp j = nI (pv_sp j)) {v : Nat} (h : nd_E (nd_g1 F) (nd_R1 sp F (nI (nd_al F))) v) (hv : v < 5) : nd_Q F v := by
  obtain ⟨a, b, ha, hb, ⟨ka, kb⟩, m, hm, e⟩ := h.2.2 hv
  obtain ⟨c, d, hc, hd, ⟨kc, kd, q⟩, e2⟩ := hm.2.2 (by omega)
  have e3 : m = nd_ch c + nd_ch d := e2
  have hL : ∀ s, s ∈ (nd_l a ++ nd_l b) ++ (nd_l c ++ nd_l d) → s < 32 ∧ bt F s = true := by
    intro s hs
    rcases List.mem_append.mp hs with hs | hs
    · rcases List.mem_append.mp hs with hs | hs
      · rw [nd_l_mem hs]; exact ⟨ha, ka⟩
      · rw [nd_l_mem hs]; exact ⟨hb, kb⟩
    · rcases List.mem_append.mp hs with hs | hs
      · rw [nd_l_mem hs]; exact ⟨hc, kc⟩
      · rw [nd_l_mem hs]; exact ⟨hd, kd⟩
  refine ⟨(nd_l a ++ nd_l b) ++ (nd_l c ++ nd_l d), ?_, hL, ?_⟩
  · rw [List.length_append, List.length_append, List.length_append, nd_l_len, nd_l_len, nd_l_len, nd_l_len]; omega
  · rw [nd_covI (fun s hs => (hL s hs).1)]
    intro i hi z
    rw [nd_sp2 hS ha hb, nd_sp2 hS hc hd, ps_wi_iff] at q
    have q1 := q i hi
    rw [b_and, b_xor, b_m1 i hi, ps_bt _ hi, ps_bt _ hi, ps_bt _ hi, z, Bool.true_and, Nat.testBit_or, Nat.testBit_or] at q1
    cases za : (pv_sp a).testBit i
    · cases zb : (pv_sp b).testBit i
      · rw [za, zb] at q1
        have q2 := q1 rfl
        rw [Bool.or_eq_true] at q2
        rcases q2 with q2 | q2
        · exact ⟨c, List.mem_append.mpr (Or.inr (List.mem_append.mpr (Or.inl (nd_l_in q2)))), q2⟩
        · exact ⟨d, List.mem_append.mpr (Or.inr (List.mem_append.mpr (Or.inr (nd_l_in q2)))), q2⟩
      · exact ⟨b, List.mem_append.mpr (Or.inl (List.mem_append.mpr (Or.inr (nd_l_in zb)))), zb⟩
    · exact ⟨a, List.mem_append.mpr (Or.inl (List.mem_append.mpr (Or.inl (nd_l_in za)))), za⟩
end
section
/-! needed: the reference's walk -/
theorem nd_run {post : Int32 → SY → Prop} {fa : Nat → Int32} {p : Int32} (hp : vp_in p 3) {k : Nat} (hk : k ≤ 5) : ∀ (r m d n t : Nat) (ma ta : Nat → Int32), r ≤ 30 → d + m = k → n + t = 2000001 → t + nd_w r m ≤ 2000000 → ta d = nI (30 - r) → (nd_gd (fa p.toNatClampNeg) r m (ma d) → ∀ ma' ta' : Nat → Int32, post 1 (fa, ma', ta')) → (¬ nd_gd (fa p.toNatClampNeg) r m (ma d) → ∀ (n' t' : Nat) (ma' ta' : Nat → Int32), n' + t' = 2000001 → t' ≤ t + nd_w r m → (∀ j, j < d → ma' j = ma j ∧ ta' j = ta j) → wY_makes_20 post p (nI k) n' (nI d + (-1)) (nI t') fa ma' ta') → wY_makes_20 post p (nI k) n (nI d) (nI t) fa ma ta := by
  intro r
  induction r with
  | zero =>
    intro m d n t ma ta _ hd hn hw hta H1 H2
    have w1 := nd_w1 0 m
    obtain ⟨n0, rfl⟩ : ∃ n0, n = n0 + 1 := ⟨n - 1, by omega⟩
    have hc : (nI d).toNatClampNeg = d := nI_clamp (by omega)
    have hv : vp_in (nI d) 33 := vp_in_nI (by omega) (by decide)
    refine br_f (nI_ge (b := 2000000) (by omega) (by decide)) (br_f (nI_pos (by omega)) ?_)
    cases m with
    | zero =>
      obtain rfl : d = k := by omega
      refine br_t rfl ⟨hv, hp, br_c (fun e => ?_) (fun e => nm_e (nm_r (nI_1 t) ?_))⟩
      · rw [hc] at e
        exact H1 (nd_gd0.mpr e) ma ta
      · rw [hc] at e
        exact H2 (fun q => e (nd_gd0.mp q)) n0 (t + 1) ma ta (by omega) (by omega) (fun j _ => ⟨rfl, rfl⟩)
    | succ m =>
      have hdk : ¬ nI d = nI k := by rw [nI_eq (by omega) (by omega)]; omega
      have h30 : ¬ ta (nI d).toNatClampNeg < 30 := by
        rw [hc, hta]; exact nI_nlt (a := 30) (b := 30) (by decide) (by decide)
      exact br_f hdk ⟨hv, br_f h30 (nm_e (nm_r (nI_1 t) (H2 nd_gdZ n0 (t + 1) ma ta (by omega) (by omega) (fun j _ => ⟨rfl, rfl⟩))))⟩
  | succ r ih =>
    intro m d n t ma ta hr hd hn hw hta H1 H2
    have w1 := nd_w1 (r + 1) m
    obtain ⟨n0, rfl⟩ : ∃ n0, n = n0 + 1 := ⟨n - 1, by omega⟩
    have hc : (nI d).toNatClampNeg = d := nI_clamp (by omega)
    have hv : vp_in (nI d) 33 := vp_in_nI (by omega) (by decide)
    refine br_f (nI_ge (b := 2000000) (by omega) (by decide)) (br_f (nI_pos (by omega)) ?_)
    cases m with
    | zero =>
      obtain rfl : d = k := by omega
      refine br_t rfl ⟨hv, hp, br_c (fun e => ?_) (fun e => nm_e (nm_r (nI_1 t) ?_))⟩
      · rw [hc] at e
        exact H1 (nd_gd0.mpr e) ma ta
      · rw [hc] at e
        exact H2 (fun q => e (nd_gd0.mp q)) n0 (t + 1) ma ta (by omega) (by omega) (fun j _ => ⟨rfl, rfl⟩)
    | succ m =>
      have ew : nd_w (r + 1) (m + 1) = 1 + nd_w r m + nd_w r (m + 1) := rfl
      have hdk : ¬ nI d = nI k := by rw [nI_eq (by omega) (by omega)]; omega
      have h30 : ta (nI d).toNatClampNeg < 30 := by
        rw [hc, hta]; exact nI_lt (b := 30) (by omega) (by decide)
      have e1 : upd ta (nI d).toNatClampNeg (ta (nI d).toNatClampNeg + 1) = upd ta d (nI (30 - r)) := by
        rw [hc, hta, nI_1, show 30 - (r + 1) + 1 = 30 - r by omega]
      have e2 : upd ta d (nI (30 - r)) (nI d).toNatClampNeg = nI (30 - r) := by rw [hc]; exact pk_us
      have hv2 : vp_in (nI d + 1) 33 := by rw [nI_1]; exact vp_in_nI (by omega) (by decide)
      have hc2 : (nI d + 1).toNatClampNeg = d + 1 := by rw [nI_1]; exact nI_clamp (by omega)
      have tl : ∀ j, j < d → upd ta d (nI (30 - r)) j = ta j := fun j hj => pk_un (by omega)
      refine br_f hdk ⟨hv, br_t h30 ⟨hv, hv, nm_r e1 ⟨hv, nm_r e2 ⟨hp, hy_in (by omega) (ps_br (fun b => ⟨hv, yv_with ⟨hv2, nm_r (e' := upd ma (d + 1) (nI (pv_with (ma d) (30 - r)))) (by rw [hc, hc2]) ⟨hv2, nm_r (e' := upd (upd ta d (nI (30 - r))) (d + 1) (nI (30 - r))) (by rw [hc2]) (nm_r (nI_1 d) (nm_r (nI_1 t) ?_))⟩⟩⟩) (fun b => nm_r (nI_1 t) ?_))⟩⟩⟩⟩
      · refine ih m (d + 1) n0 (t + 1) _ _ (by omega) (by omega) (by omega) (by omega) pk_us ?_ ?_
        · rw [pk_us]
          exact fun q => H1 (nd_gdS.mpr (Or.inl ⟨b, q⟩))
        · rw [pk_us]
          intro nq n' t' ma' ta' hn' ht' ag
          rw [pk_m1 d]
          have a1 := ag d (by omega)
          have em : ma' d = ma d := by rw [a1.1]; exact pk_un (by omega)
          have et : ta' d = nI (30 - r) := by rw [a1.2, pk_un (by omega)]; exact pk_us
          refine ih (m + 1) d n' t' ma' ta' (by omega) (by omega) (by omega) (by omega) et ?_ ?_
          · rw [em]
            exact fun q => H1 (nd_gdS.mpr (Or.inr q))
          · rw [em]
            intro nq2 n'' t'' ma'' ta'' hn'' ht'' ag2
            refine H2 ?_ n'' t'' ma'' ta'' (by omega) (by omega) (fun j hj => ⟨?_, ?_⟩)
            · intro q
              rcases nd_gdS.mp q with q | q
              · exact nq q.2
              · exact nq2 q
            · rw [(ag2 j hj).1, (ag j (by omega)).1]; exact pk_un (by omega)
            · rw [(ag2 j hj).2, (ag j (by omega)).2, pk_un (by omega)]; exact tl j hj
      · refine ih (m + 1) d n0 (t + 1) ma _ (by omega) (by omega) (by omega) (by omega) pk_us (fun q => H1 (nd_gdS.mpr (Or.inr q))) ?_
        intro nq n' t' ma' ta' hn' ht' ag
        refine H2 ?_ n' t' ma' ta' (by omega) (by omega) (fun j hj => ⟨(ag j hj).1, ?_⟩)
        · intro q
          rcases nd_gdS.mp q with q | q
          · rw [b] at q; exact absurd q.1 (by decide)
          · exact nq q
        · rw [(ag j hj).2]; exact tl j hj
theorem yv_makes {post : Int32 → SY → Prop} {fa ma ta : Nat → Int32} {p : Int32} (hp : vp_in p 3) {k : Nat} (hk : k ≤ 5) (H1 : nd_gd (fa p.toNatClampNeg) 30 k (-2147483647) → ∀ ma' ta' : Nat → Int32, post 1 (fa, ma', ta')) (H2 : ¬ nd_gd (fa p.toNatClampNeg) 30 k (-2147483647) → ∀ ma' ta' : Nat → Int32, post 0 (fa, ma', ta')) : wpY_makes post (fa, ma, ta) p (nI k) := by
  unfold wpY_makes
  have hw := nd_w5 hk
  refine nm_e (nm_e ⟨2000001, nd_run hp hk 30 k 0 2000001 0 (upd ma 0 (-2147483647)) (upd ta 0 0) (by omega) (by omega) (by omega) (by omega) pk_us ?_ ?_⟩)
  · rw [pk_us]; exact H1
  · rw [pk_us]
    intro nq n' t' ma' ta' hn' ht' _
    obtain ⟨n0, rfl⟩ : ∃ n0, n' = n0 + 1 := ⟨n' - 1, by omega⟩
    exact br_c (fun _ => H2 nq ma' ta') (fun _ => br_t (by decide) (H2 nq ma' ta'))
theorem yv_needed {post : Int32 → SY → Prop} {fa : Nat → Int32} {p : Int32} (hp : vp_in p 3) {k0 : Nat} (h5 : k0 ≤ 5) (g : nd_gd (fa p.toNatClampNeg) 30 k0 (-2147483647)) (l : ∀ j, j < k0 → ¬ nd_gd (fa p.toNatClampNeg) 30 j (-2147483647)) (h : ∀ ma ta : Nat → Int32, post (nI k0) (fa, ma, ta)) : ∀ d k, k + d = k0 → ∀ ma ta : Nat → Int32, wY_needed_12 post p (d + 1) (nI k) fa ma ta := by
  intro d
  induction d with
  | zero =>
    intro k hd ma ta
    obtain rfl : k = k0 := by omega
    exact br_f (nI_ge (b := 30) (by omega) (by decide)) (yv_makes hp h5 (fun _ ma' ta' => br_f (by decide) (h ma' ta')) (fun q => absurd g q))
  | succ d ih =>
    intro k hd ma ta
    exact br_f (nI_ge (b := 30) (by omega) (by decide)) (yv_makes hp (by omega) (fun q => absurd q (l k (by omega))) (fun _ ma' ta' => br_t rfl (nm_r (nI_1 k) (ih (k + 1) (by omega) ma' ta'))))
end
section
def i_Rel (k : Nat) (u : SX) (v : SY) : Prop := u.1 = v.1 ∧ (∀ s, s < 3 → tp_T (u.1 s)) ∧ ∀ j, j < 32 → u.2 j = nI (pv_sp j)
theorem i_up {k : Nat} {u : SX} {v : SY} (h : i_Rel k u v) : i_Rel (k + 4) u v := h
theorem rl_up {k : Nat} {fa sp ma ta : Nat → Int32} {p G : Int32} (hT : ∀ s, s < 3 → tp_T (fa s)) (hS : ∀ j, j < 32 → sp j = nI (pv_sp j)) (hG : tp_T G) : i_Rel k (upd fa p.toNatClampNeg G, sp) (upd fa p.toNatClampNeg G, ma, ta) := by
  refine ⟨rfl, fun s hs => ?_, hS⟩
  show tp_T (upd fa p.toNatClampNeg G s)
  by_cases q : s = p.toNatClampNeg
  · rw [q, pk_us]; exact hG
  · rw [pk_un q]; exact hT s hs
theorem i_vc0 : wpX_init (fun u => wpY_init (fun v => i_Rel 0 u v)) := by
  refine xv_init _ (fun sp h => yv_init _ ⟨rfl, ?_, h⟩)
  intro s hs
  show tp_T (upd (upd (upd (fun _ => 0) 0 (-2147483647)) 1 (-2147483647)) 2 (-2147483647) s)
  rcases (by omega : s = 0 ∨ s = 1 ∨ s = 2) with rfl | rfl | rfl
  · exact tp_plain
  · exact tp_plain
  · exact tp_plain
theorem i_vc_plain {k : Nat} {u : SX} {v : SY} (I : i_Rel k u v) (hk : k + 4 ≤ 2048) (v1 : Int32) : wpX_plain (fun r u' => wpY_plain (fun r' v' => r' = r ∧ i_Rel (k + 4) u' v') v v1) u v1 := by
  obtain ⟨fa, sp⟩ := u
  obtain ⟨fb, ma, ta⟩ := v
  obtain ⟨e, hT, hS⟩ := I
  have e2 : fa = fb := e
  subst e2
  unfold wpX_plain wpY_plain
  dsimp only
  cases b : ps_ok v1 3
  · exact xf_isSpace b (yf_isSpace b ⟨rfl, rfl, hT, hS⟩)
  · have hp := ps_okI b
    exact xt_isSpace b (xv_become hp (yt_isSpace b (yv_take hp ⟨rfl, rl_up hT hS tp_plain⟩)))
theorem i_vc_loose {k : Nat} {u : SX} {v : SY} (I : i_Rel k u v) (hk : k + 4 ≤ 2048) (v1 : Int32) : wpX_loose (fun r u' => wpY_loose (fun r' v' => r' = r ∧ i_Rel (k + 4) u' v') v v1) u v1 := by
  obtain ⟨fa, sp⟩ := u
  obtain ⟨fb, ma, ta⟩ := v
  obtain ⟨e, hT, hS⟩ := I
  have e2 : fa = fb := e
  subst e2
  unfold wpX_loose wpY_loose
  dsimp only
  cases b : ps_ok v1 3
  · exact xf_isSpace b (yf_isSpace b ⟨rfl, rfl, hT, hS⟩)
  · have hp := ps_okI b
    exact xt_isSpace b (xv_become hp (yt_isSpace b (yv_take hp ⟨rfl, rl_up hT hS tp_loose⟩)))
theorem i_vc_open {k : Nat} {u : SX} {v : SY} (I : i_Rel k u v) (hk : k + 4 ≤ 2048) (v1 : Int32) (v2 : Int32) : wpX_open (fun r u' => wpY_open (fun r' v' => r' = r ∧ i_Rel (k + 4) u' v') v v1 v2) u v1 v2 := by
  obtain ⟨fa, sp⟩ := u
  obtain ⟨fb, ma, ta⟩ := v
  obtain ⟨e, hT, hS⟩ := I
  have e2 : fa = fb := e
  subst e2
  unfold wpX_open wpY_open
  dsimp only
  cases b : ps_ok v1 3
  · exact xf_isSpace b (yf_isSpace b ⟨rfl, rfl, hT, hS⟩)
  · have hp := ps_okI b
    have tF := hT _ (ps_okL b)
    cases c : ps_ok v2 32
    · exact xt_isSpace b (xf_isSet c (yt_isSpace b (yf_isSet c ⟨rfl, rfl, hT, hS⟩)))
    · obtain ⟨S, hS2, rfl⟩ := ps_okE (by decide) c
      exact xt_isSpace b (xt_isSet c ⟨hp, xv_open tF hS2 (xv_become hp (yt_isSpace b (yt_isSet c ⟨hp, yv_with (yv_take hp ⟨rfl, rl_up hT hS (tp_withT tF S)⟩)⟩)))⟩)
theorem i_vc_tie {k : Nat} {u : SX} {v : SY} (I : i_Rel k u v) (hk : k + 4 ≤ 2048) (v1 : Int32) (v2 : Int32) (v3 : Int32) : wpX_tie (fun r u' => wpY_tie (fun r' v' => r' = r ∧ i_Rel (k + 4) u' v') v v1 v2 v3) u v1 v2 v3 := by
  obtain ⟨fa, sp⟩ := u
  obtain ⟨fb, ma, ta⟩ := v
  obtain ⟨e, hT, hS⟩ := I
  have e2 : fa = fb := e
  subst e2
  unfold wpX_tie wpY_tie
  dsimp only
  cases b : ps_ok v1 3
  · exact xf_isSpace b (yf_isSpace b ⟨rfl, rfl, hT, hS⟩)
  · have hp := ps_okI b
    have tF := hT _ (ps_okL b)
    cases c : ps_ok v2 5
    · exact xt_isSpace b (xf_isPoint c (yt_isSpace b (yf_isPoint c ⟨rfl, rfl, hT, hS⟩)))
    · cases d : ps_ok v3 5
      · exact xt_isSpace b (xt_isPoint c (xf_isPoint d (yt_isSpace b (yt_isPoint c (yf_isPoint d ⟨rfl, rfl, hT, hS⟩)))))
      · obtain ⟨x, hx, rfl⟩ := ps_okE (by decide) c
        obtain ⟨y, hy, rfl⟩ := ps_okE (by decide) d
        exact xt_isSpace b (xt_isPoint c (xt_isPoint d ⟨hp, xv_tied hx hy (xv_become hp (yt_isSpace b (yt_isPoint c (yt_isPoint d ⟨hp, yv_tied hx hy (yv_take hp ⟨rfl, rl_up hT hS (tp_tie tF hx hy)⟩)⟩))))⟩))
theorem i_vc_turn {k : Nat} {u : SX} {v : SY} (I : i_Rel k u v) (hk : k + 4 ≤ 2048) (v1 : Int32) : wpX_turn (fun r u' => wpY_turn (fun r' v' => r' = r ∧ i_Rel (k + 4) u' v') v v1) u v1 := by
  obtain ⟨fa, sp⟩ := u
  obtain ⟨fb, ma, ta⟩ := v
  obtain ⟨e, hT, hS⟩ := I
  have e2 : fa = fb := e
  subst e2
  unfold wpX_turn wpY_turn
  dsimp only
  cases b : ps_ok v1 3
  · exact xf_isSpace b (yf_isSpace b ⟨rfl, rfl, hT, hS⟩)
  · have hp := ps_okI b
    have tF := hT _ (ps_okL b)
    refine xt_isSpace b ⟨hp, xv_closed (xv_become hp (yt_isSpace b ⟨hp, yv_turned ?_⟩))⟩
    rw [← tp_cxy]
    exact yv_take hp ⟨rfl, rl_up hT hS (tp_turn tF)⟩
theorem i_vc_copy {k : Nat} {u : SX} {v : SY} (I : i_Rel k u v) (hk : k + 4 ≤ 2048) (v1 : Int32) (v2 : Int32) : wpX_copy (fun r u' => wpY_copy (fun r' v' => r' = r ∧ i_Rel (k + 4) u' v') v v1 v2) u v1 v2 := by
  obtain ⟨fa, sp⟩ := u
  obtain ⟨fb, ma, ta⟩ := v
  obtain ⟨e, hT, hS⟩ := I
  have e2 : fa = fb := e
  subst e2
  unfold wpX_copy wpY_copy
  dsimp only
  cases b : ps_ok v1 3
  · exact xf_isSpace b (yf_isSpace b ⟨rfl, rfl, hT, hS⟩)
  · have hp := ps_okI b
    have tF := hT _ (ps_okL b)
    cases c : ps_ok v2 3
    · exact xt_isSpace b (xf_isSpace c (yt_isSpace b (yf_isSpace c ⟨rfl, rfl, hT, hS⟩)))
    · have hq := ps_okI c
      have tG := hT _ (ps_okL c)
      exact xt_isSpace b (xt_isSpace c ⟨hq, xv_become hp (yt_isSpace b (yt_isSpace c ⟨hq, yv_take hp ⟨rfl, rl_up hT hS tG⟩⟩))⟩)
theorem i_vc_join {k : Nat} {u : SX} {v : SY} (I : i_Rel k u v) (hk : k + 4 ≤ 2048) (v1 : Int32) (v2 : Int32) : wpX_join (fun r u' => wpY_join (fun r' v' => r' = r ∧ i_Rel (k + 4) u' v') v v1 v2) u v1 v2 := by
  obtain ⟨fa, sp⟩ := u
  obtain ⟨fb, ma, ta⟩ := v
  obtain ⟨e, hT, hS⟩ := I
  have e2 : fa = fb := e
  subst e2
  unfold wpX_join wpY_join
  dsimp only
  cases b : ps_ok v1 3
  · exact xf_isSpace b (yf_isSpace b ⟨rfl, rfl, hT, hS⟩)
  · have hp := ps_okI b
    have tF := hT _ (ps_okL b)
    cases c : ps_ok v2 3
    · exact xt_isSpace b (xf_isSpace c (yt_isSpace b (yf_isSpace c ⟨rfl, rfl, hT, hS⟩)))
    · have hq := ps_okI c
      have tG := hT _ (ps_okL c)
      exact xt_isSpace b (xt_isSpace c ⟨hp, hq, xv_join tF (xv_become hp (yt_isSpace b (yt_isSpace c ⟨hp, hq, yv_joined (yv_take hp ⟨rfl, rl_up hT hS (tp_joinT tF _)⟩)⟩)))⟩)
theorem i_vc_meet {k : Nat} {u : SX} {v : SY} (I : i_Rel k u v) (hk : k + 4 ≤ 2048) (v1 : Int32) (v2 : Int32) : wpX_meet (fun r u' => wpY_meet (fun r' v' => r' = r ∧ i_Rel (k + 4) u' v') v v1 v2) u v1 v2 := by
  obtain ⟨fa, sp⟩ := u
  obtain ⟨fb, ma, ta⟩ := v
  obtain ⟨e, hT, hS⟩ := I
  have e2 : fa = fb := e
  subst e2
  unfold wpX_meet wpY_meet
  dsimp only
  cases b : ps_ok v1 3
  · exact xf_isSpace b (yf_isSpace b ⟨rfl, rfl, hT, hS⟩)
  · have hp := ps_okI b
    have tF := hT _ (ps_okL b)
    cases c : ps_ok v2 3
    · exact xt_isSpace b (xf_isSpace c (yt_isSpace b (yf_isSpace c ⟨rfl, rfl, hT, hS⟩)))
    · have hq := ps_okI c
      have tG := hT _ (ps_okL c)
      exact xt_isSpace b (xt_isSpace c ⟨hp, hq, xv_become hp (yt_isSpace b (yt_isSpace c ⟨hp, hq, yv_take hp ⟨rfl, rl_up hT hS (tp_meet tF tG)⟩⟩))⟩)
theorem i_vc_pull {k : Nat} {u : SX} {v : SY} (I : i_Rel k u v) (hk : k + 4 ≤ 2048) (v1 : Int32) (v2 : Int32) (v3 : Int32) : wpX_pull (fun r u' => wpY_pull (fun r' v' => r' = r ∧ i_Rel (k + 4) u' v') v v1 v2 v3) u v1 v2 v3 := by
  obtain ⟨fa, sp⟩ := u
  obtain ⟨fb, ma, ta⟩ := v
  obtain ⟨e, hT, hS⟩ := I
  have e2 : fa = fb := e
  subst e2
  unfold wpX_pull wpY_pull
  dsimp only
  cases b : ps_ok v1 3
  · exact xf_isSpace b (yb_1 b (br_f (by decide) ⟨rfl, rfl, hT, hS⟩))
  · have hp := ps_okI b
    have tF := hT _ (ps_okL b)
    cases c : ps_ok v2 3
    · exact xt_isSpace b (xf_isSpace c (yb_2 b c (br_f (by decide) ⟨rfl, rfl, hT, hS⟩)))
    · have hq := ps_okI c
      have tG := hT _ (ps_okL c)
      cases d : ps_ok v3 3125
      · exact xt_isSpace b (xt_isSpace c (xf_isMap d (yb_3 b c d (br_f (by decide) ⟨rfl, rfl, hT, hS⟩))))
      · obtain ⟨m, hm, rfl⟩ := ps_okE (by decide) d
        have hm2 : m < 2 ^ 31 := by omega
        exact xt_isSpace b (xt_isSpace c (xt_isMap d ⟨hq, xv_pulled hm2 (xv_become hp (yb_4 b c d (br_t (by decide) ⟨hq, yv_pulled hm2 (yv_take hp ⟨rfl, rl_up hT hS (tp_pull tG m)⟩)⟩)))⟩))
theorem i_vc_push {k : Nat} {u : SX} {v : SY} (I : i_Rel k u v) (hk : k + 4 ≤ 2048) (v1 : Int32) (v2 : Int32) (v3 : Int32) : wpX_push (fun r u' => wpY_push (fun r' v' => r' = r ∧ i_Rel (k + 4) u' v') v v1 v2 v3) u v1 v2 v3 := by
  obtain ⟨fa, sp⟩ := u
  obtain ⟨fb, ma, ta⟩ := v
  obtain ⟨e, hT, hS⟩ := I
  have e2 : fa = fb := e
  subst e2
  unfold wpX_push wpY_push
  dsimp only
  cases b : ps_ok v1 3
  · exact xf_isSpace b (yb_1 b (br_f (by decide) ⟨rfl, rfl, hT, hS⟩))
  · have hp := ps_okI b
    have tF := hT _ (ps_okL b)
    cases c : ps_ok v2 3
    · exact xt_isSpace b (xf_isSpace c (yb_2 b c (br_f (by decide) ⟨rfl, rfl, hT, hS⟩)))
    · have hq := ps_okI c
      have tG := hT _ (ps_okL c)
      cases d : ps_ok v3 3125
      · exact xt_isSpace b (xt_isSpace c (xf_isMap d (yb_3 b c d (br_f (by decide) ⟨rfl, rfl, hT, hS⟩))))
      · obtain ⟨m, hm, rfl⟩ := ps_okE (by decide) d
        have hm2 : m < 2 ^ 31 := by omega
        exact xt_isSpace b (xt_isSpace c (xt_isMap d ⟨hq, xv_pushed hm2 (xv_become hp (yb_4 b c d (br_t (by decide) ⟨hq, yv_pushed hm2 (yv_take hp ⟨rfl, rl_up hT hS (tp_push tG m)⟩)⟩)))⟩))
theorem i_vc_continuous {k : Nat} {u : SX} {v : SY} (I : i_Rel k u v) (hk : k + 4 ≤ 2048) (v1 : Int32) (v2 : Int32) (v3 : Int32) : wpX_continuous (fun r => wpY_continuous (fun r' => r' = r ∧ i_Rel (k + 4) u v) v v1 v2 v3) u v1 v2 v3 := by
  obtain ⟨fa, sp⟩ := u
  obtain ⟨fb, ma, ta⟩ := v
  obtain ⟨e, hT, hS⟩ := I
  have e2 : fa = fb := e
  subst e2
  unfold wpX_continuous wpY_continuous
  dsimp only
  cases b : ps_ok v1 3
  · exact xf_isSpace b (yb_1 b (br_f (by decide) ⟨rfl, rfl, hT, hS⟩))
  · have hp := ps_okI b
    have tF := hT _ (ps_okL b)
    cases c : ps_ok v2 3
    · exact xt_isSpace b (xf_isSpace c (yb_2 b c (br_f (by decide) ⟨rfl, rfl, hT, hS⟩)))
    · have hq := ps_okI c
      have tG := hT _ (ps_okL c)
      cases d : ps_ok v3 3125
      · exact xt_isSpace b (xt_isSpace c (xf_isMap d (yb_3 b c d (br_f (by decide) ⟨rfl, rfl, hT, hS⟩))))
      · obtain ⟨m, hm, rfl⟩ := ps_okE (by decide) d
        have hm2 : m < 2 ^ 31 := by omega
        refine xt_isSpace b (xt_isSpace c (xt_isMap d ⟨hp, hq, xv_cont hm2 ?_⟩))
        rw [tp_ct]
        refine ps_br (fun q => yb_4 b c d (br_t (by decide) (yv_cont hp hq hm2 ?_))) (fun q => yb_4 b c d (br_t (by decide) (yv_cont hp hq hm2 ?_)))
        · rw [q]; exact br_f (by decide) ⟨rfl, rfl, hT, hS⟩
        · rw [q]; exact br_t rfl ⟨rfl, rfl, hT, hS⟩
theorem i_vc_opens {k : Nat} {u : SX} {v : SY} (I : i_Rel k u v) (hk : k + 4 ≤ 2048) (v1 : Int32) : wpX_opens (fun r => wpY_opens (fun r' => r' = r ∧ i_Rel (k + 4) u v) v v1) u v1 := by
  obtain ⟨fa, sp⟩ := u
  obtain ⟨fb, ma, ta⟩ := v
  obtain ⟨e, hT, hS⟩ := I
  have e2 : fa = fb := e
  subst e2
  unfold wpX_opens wpY_opens
  dsimp only
  cases b : ps_ok v1 3
  · exact xf_isSpace b (yf_isSpace b ⟨rfl, rfl, hT, hS⟩)
  · have hp := ps_okI b
    have tF := hT _ (ps_okL b)
    exact xt_isSpace b ⟨hp, xv_count (yt_isSpace b ⟨hp, yv_count ⟨rfl, rfl, hT, hS⟩⟩)⟩
theorem i_vc_isOpen {k : Nat} {u : SX} {v : SY} (I : i_Rel k u v) (hk : k + 4 ≤ 2048) (v1 : Int32) (v2 : Int32) : wpX_isOpen (fun r => wpY_isOpen (fun r' => r' = r ∧ i_Rel (k + 4) u v) v v1 v2) u v1 v2 := by
  obtain ⟨fa, sp⟩ := u
  obtain ⟨fb, ma, ta⟩ := v
  obtain ⟨e, hT, hS⟩ := I
  have e2 : fa = fb := e
  subst e2
  unfold wpX_isOpen wpY_isOpen
  dsimp only
  cases b : ps_ok v1 3
  · exact xf_isSpace b (yf_isSpace b ⟨rfl, rfl, hT, hS⟩)
  · have hp := ps_okI b
    have tF := hT _ (ps_okL b)
    cases c : ps_ok v2 32
    · exact xt_isSpace b (xf_isSet c (yt_isSpace b (yf_isSet c ⟨rfl, rfl, hT, hS⟩)))
    · obtain ⟨S, hS2, rfl⟩ := ps_okE (by decide) c
      refine xt_isSpace b (xt_isSet c ⟨hp, hx_has hS2 (ps_br (fun q => yt_isSpace b (yt_isSet c ⟨hp, hy_in hS2 ?_⟩)) (fun q => yt_isSpace b (yt_isSet c ⟨hp, hy_in hS2 ?_⟩)))⟩)
      · rw [q]; exact br_f (by decide) ⟨rfl, rfl, hT, hS⟩
      · rw [q]; exact br_t rfl ⟨rfl, rfl, hT, hS⟩
theorem i_vc_openAt {k : Nat} {u : SX} {v : SY} (I : i_Rel k u v) (hk : k + 4 ≤ 2048) (v1 : Int32) (v2 : Int32) : wpX_openAt (fun r => wpY_openAt (fun r' => r' = r ∧ i_Rel (k + 4) u v) v v1 v2) u v1 v2 := by
  obtain ⟨fa, sp⟩ := u
  obtain ⟨fb, ma, ta⟩ := v
  obtain ⟨e, hT, hS⟩ := I
  have e2 : fa = fb := e
  subst e2
  unfold wpX_openAt wpY_openAt
  dsimp only
  cases b : ps_ok v1 3
  · exact xf_isSpace b (yf_isSpace b ⟨rfl, rfl, hT, hS⟩)
  · have hp := ps_okI b
    have tF := hT _ (ps_okL b)
    obtain ⟨r, hX, hY⟩ := v_openAt (fa := fa) (sp := sp) (ma := ma) (ta := ta) (k := v2) hp 32 0 0 rfl
    have e0 : v2 - nI 0 = v2 := by rw [nI_0]; exact Int32.sub_zero v2
    rw [e0] at hY
    exact xt_isSpace b ⟨_, hX _ (yt_isSpace b ⟨_, hY _ ⟨rfl, rfl, hT, hS⟩⟩)⟩
theorem i_vc_inner {k : Nat} {u : SX} {v : SY} (I : i_Rel k u v) (hk : k + 4 ≤ 2048) (v1 : Int32) (v2 : Int32) : wpX_inner (fun r => wpY_inner (fun r' => r' = r ∧ i_Rel (k + 4) u v) v v1 v2) u v1 v2 := by
  obtain ⟨fa, sp⟩ := u
  obtain ⟨fb, ma, ta⟩ := v
  obtain ⟨e, hT, hS⟩ := I
  have e2 : fa = fb := e
  subst e2
  unfold wpX_inner wpY_inner
  dsimp only
  cases b : ps_ok v1 3
  · exact xf_isSpace b (yf_isSpace b ⟨rfl, rfl, hT, hS⟩)
  · have hp := ps_okI b
    have tF := hT _ (ps_okL b)
    cases c : ps_ok v2 32
    · exact xt_isSpace b (xf_isSet c (yt_isSpace b (yf_isSet c ⟨rfl, rfl, hT, hS⟩)))
    · obtain ⟨S, hS2, rfl⟩ := ps_okE (by decide) c
      exact xt_isSpace b (xt_isSet c ⟨hp, xv_inner (yt_isSpace b (yt_isSet c ⟨hp, yv_inner ⟨rfl, rfl, hT, hS⟩⟩))⟩)
theorem i_vc_closure {k : Nat} {u : SX} {v : SY} (I : i_Rel k u v) (hk : k + 4 ≤ 2048) (v1 : Int32) (v2 : Int32) : wpX_closure (fun r => wpY_closure (fun r' => r' = r ∧ i_Rel (k + 4) u v) v v1 v2) u v1 v2 := by
  obtain ⟨fa, sp⟩ := u
  obtain ⟨fb, ma, ta⟩ := v
  obtain ⟨e, hT, hS⟩ := I
  have e2 : fa = fb := e
  subst e2
  unfold wpX_closure wpY_closure
  dsimp only
  cases b : ps_ok v1 3
  · exact xf_isSpace b (yf_isSpace b ⟨rfl, rfl, hT, hS⟩)
  · have hp := ps_okI b
    have tF := hT _ (ps_okL b)
    cases c : ps_ok v2 32
    · exact xt_isSpace b (xf_isSet c (yt_isSpace b (yf_isSet c ⟨rfl, rfl, hT, hS⟩)))
    · obtain ⟨S, hS2, rfl⟩ := ps_okE (by decide) c
      exact xt_isSpace b (xt_isSet c ⟨hp, xv_closure hS2 (yt_isSpace b (yt_isSet c ⟨hp, yv_closure hS2 ⟨rfl, rfl, hT, hS⟩⟩))⟩)
theorem i_vc_around {k : Nat} {u : SX} {v : SY} (I : i_Rel k u v) (hk : k + 4 ≤ 2048) (v1 : Int32) (v2 : Int32) : wpX_around (fun r => wpY_around (fun r' => r' = r ∧ i_Rel (k + 4) u v) v v1 v2) u v1 v2 := by
  obtain ⟨fa, sp⟩ := u
  obtain ⟨fb, ma, ta⟩ := v
  obtain ⟨e, hT, hS⟩ := I
  have e2 : fa = fb := e
  subst e2
  unfold wpX_around wpY_around
  dsimp only
  cases b : ps_ok v1 3
  · exact xf_isSpace b (yf_isSpace b ⟨rfl, rfl, hT, hS⟩)
  · have hp := ps_okI b
    have tF := hT _ (ps_okL b)
    cases c : ps_ok v2 5
    · exact xt_isSpace b (xf_isPoint c (yt_isSpace b (yf_isPoint c ⟨rfl, rfl, hT, hS⟩)))
    · obtain ⟨S, hS2, rfl⟩ := ps_okE (by decide) c
      exact xt_isSpace b (xt_isPoint c ⟨hp, xv_leastWith hS2 (yt_isSpace b (yt_isPoint c ⟨hp, yv_leastWith hS2 ⟨rfl, rfl, hT, hS⟩⟩))⟩)
theorem i_vc_dense {k : Nat} {u : SX} {v : SY} (I : i_Rel k u v) (hk : k + 4 ≤ 2048) (v1 : Int32) : wpX_dense (fun r => wpY_dense (fun r' => r' = r ∧ i_Rel (k + 4) u v) v v1) u v1 := by
  obtain ⟨fa, sp⟩ := u
  obtain ⟨fb, ma, ta⟩ := v
  obtain ⟨e, hT, hS⟩ := I
  have e2 : fa = fb := e
  subst e2
  unfold wpX_dense wpY_dense
  dsimp only
  cases b : ps_ok v1 3
  · exact xf_isSpace b (yf_isSpace b ⟨rfl, rfl, hT, hS⟩)
  · have hp := ps_okI b
    have tF := hT _ (ps_okL b)
    exact xt_isSpace b (xv_dense hp (yt_isSpace b (yv_dense hp ⟨rfl, rfl, hT, hS⟩)))
theorem i_vc_piece {k : Nat} {u : SX} {v : SY} (I : i_Rel k u v) (hk : k + 4 ≤ 2048) (v1 : Int32) (v2 : Int32) : wpX_piece (fun r => wpY_piece (fun r' => r' = r ∧ i_Rel (k + 4) u v) v v1 v2) u v1 v2 := by
  obtain ⟨fa, sp⟩ := u
  obtain ⟨fb, ma, ta⟩ := v
  obtain ⟨e, hT, hS⟩ := I
  have e2 : fa = fb := e
  subst e2
  unfold wpX_piece wpY_piece
  dsimp only
  cases b : ps_ok v1 3
  · exact xf_isSpace b (yf_isSpace b ⟨rfl, rfl, hT, hS⟩)
  · have hp := ps_okI b
    have tF := hT _ (ps_okL b)
    cases c : ps_ok v2 5
    · exact xt_isSpace b (xf_isPoint c (yt_isSpace b (yf_isPoint c ⟨rfl, rfl, hT, hS⟩)))
    · obtain ⟨S, hS2, rfl⟩ := ps_okE (by decide) c
      refine xt_isSpace b (xt_isPoint c ⟨hp, hp, xv_closed (nm_e (xv_leastWith hS2 (yt_isSpace b (yt_isPoint c (yv_both hp ?_)))))⟩)
      rw [← tp_cxy]
      exact yv_leastWith hS2 ⟨rfl, rfl, hT, hS⟩
theorem i_vc_kind {k : Nat} {u : SX} {v : SY} (I : i_Rel k u v) (hk : k + 4 ≤ 2048) (v1 : Int32) : wpX_kind (fun r => wpY_kind (fun r' => r' = r ∧ i_Rel (k + 4) u v) v v1) u v1 := by
  obtain ⟨fa, sp⟩ := u
  obtain ⟨fb, ma, ta⟩ := v
  obtain ⟨e, hT, hS⟩ := I
  have e2 : fa = fb := e
  subst e2
  unfold wpX_kind wpY_kind
  dsimp only
  cases b : ps_ok v1 3
  · exact xf_isSpace b (yf_isSpace b ⟨rfl, rfl, hT, hS⟩)
  · have hp := ps_okI b
    have tF := hT _ (ps_okL b)
    refine xt_isSpace b ⟨hp, nm_e (xv_kind (yt_isSpace b (yv_kind hp ⟨?_, rfl, hT, hS⟩)))⟩
    rw [tp_d, tp_e tF, tp_q, tp_cxy]
theorem i_vc_maps {k : Nat} {u : SX} {v : SY} (I : i_Rel k u v) (hk : k + 4 ≤ 2048) (v1 : Int32) (v2 : Int32) : wpX_maps (fun r => wpY_maps (fun r' => r' = r ∧ i_Rel (k + 4) u v) v v1 v2) u v1 v2 := by
  obtain ⟨fa, sp⟩ := u
  obtain ⟨fb, ma, ta⟩ := v
  obtain ⟨e, hT, hS⟩ := I
  have e2 : fa = fb := e
  subst e2
  unfold wpX_maps wpY_maps
  dsimp only
  cases b : ps_ok v1 3
  · exact xf_isSpace b (yf_isSpace b ⟨rfl, rfl, hT, hS⟩)
  · have hp := ps_okI b
    have tF := hT _ (ps_okL b)
    cases c : ps_ok v2 3
    · exact xt_isSpace b (xf_isSpace c (yt_isSpace b (yf_isSpace c ⟨rfl, rfl, hT, hS⟩)))
    · have hq := ps_okI c
      have tG := hT _ (ps_okL c)
      exact xt_isSpace b (xt_isSpace c (xv_maps hp hq (yt_isSpace b (yt_isSpace c (yv_maps hp hq ⟨rfl, rfl, hT, hS⟩)))))
theorem i_vc_same {k : Nat} {u : SX} {v : SY} (I : i_Rel k u v) (hk : k + 4 ≤ 2048) (v1 : Int32) (v2 : Int32) : wpX_same (fun r => wpY_same (fun r' => r' = r ∧ i_Rel (k + 4) u v) v v1 v2) u v1 v2 := by
  obtain ⟨fa, sp⟩ := u
  obtain ⟨fb, ma, ta⟩ := v
  obtain ⟨e, hT, hS⟩ := I
  have e2 : fa = fb := e
  subst e2
  unfold wpX_same wpY_same
  dsimp only
  cases b : ps_ok v1 3
  · exact xf_isSpace b (yf_isSpace b ⟨rfl, rfl, hT, hS⟩)
  · have hp := ps_okI b
    have tF := hT _ (ps_okL b)
    cases c : ps_ok v2 3
    · exact xt_isSpace b (xf_isSpace c (yt_isSpace b (yf_isSpace c ⟨rfl, rfl, hT, hS⟩)))
    · have hq := ps_okI c
      have tG := hT _ (ps_okL c)
      exact xt_isSpace b (xt_isSpace c (xv_same hp hq (yt_isSpace b (yt_isSpace c (yv_same hp hq ⟨rfl, rfl, hT, hS⟩)))))
theorem i_vc_chains {k : Nat} {u : SX} {v : SY} (I : i_Rel k u v) (hk : k + 4 ≤ 2048) (v1 : Int32) (v2 : Int32) : wpX_chains (fun r => wpY_chains (fun r' => r' = r ∧ i_Rel (k + 4) u v) v v1 v2) u v1 v2 := by
  obtain ⟨fa, sp⟩ := u
  obtain ⟨fb, ma, ta⟩ := v
  obtain ⟨e, hT, hS⟩ := I
  have e2 : fa = fb := e
  subst e2
  unfold wpX_chains wpY_chains
  dsimp only
  cases b : ps_ok v1 3
  · exact xf_isSpace b (yf_isSpace b ⟨rfl, rfl, hT, hS⟩)
  · have hp := ps_okI b
    have tF := hT _ (ps_okL b)
    exact xt_isSpace b (xv_chains hp (yt_isSpace b (yv_chains hp ⟨rfl, rfl, hT, hS⟩)))
theorem i_vc_needed {k : Nat} {u : SX} {v : SY} (I : i_Rel k u v) (hk : k + 4 ≤ 2048) (v1 : Int32) : wpX_needed (fun r => wpY_needed (fun r' v' => r' = r ∧ i_Rel (k + 4) u v') v v1) u v1 := by
  obtain ⟨fa, sp⟩ := u
  obtain ⟨fb, ma, ta⟩ := v
  obtain ⟨e, hT, hS⟩ := I
  have e2 : fa = fb := e
  subst e2
  unfold wpX_needed wpY_needed
  dsimp only
  cases b : ps_ok v1 3
  · exact xf_isSpace b (yf_isSpace b ⟨rfl, rfl, hT, hS⟩)
  · have hp := ps_okI b
    have tF := hT _ (ps_okL b)
    obtain ⟨k0, h5, g, l⟩ := nd_least tF
    exact xt_isSpace b ⟨hp, xv_few hS (fun v hv => yt_isSpace b ⟨_, yv_needed hp h5 g l (fun ma' ta' => ⟨congrArg nI (nd_same tF h5 g l hv.1 (nd_has hS hv) (nd_low tF hS hv)).symm, rfl, hT, hS⟩) k0 0 (by omega) ma ta⟩)⟩
end
