theorem pk_us {f : Nat → Int32} {k : Nat} {x : Int32} : upd f k x k = x := if_pos rfl
theorem pk_un {f : Nat → Int32} {k j : Nat} {x : Int32} (h : j ≠ k) : upd f k x j = f j := if_neg h
theorem pk_sub {a b : Nat} (h : b ≤ a) : nI a - nI b = nI (a - b) := by
  obtain ⟨c, rfl⟩ : ∃ c, a = c + b := ⟨a - b, by omega⟩
  rw [← nI_add, Int32.add_sub_cancel, Nat.add_sub_cancel]
theorem pk_m1 (n : Nat) : nI (n + 1) + (-1) = nI n := by
  rw [← nI_1, Int32.add_assoc, show (1 : Int32) + (-1) = 0 from rfl, Int32.add_zero]
theorem pk_mul (a b : Nat) : nI a * nI b = nI (a * b) := (Int32.ofNat_mul a b).symm
theorem pk_div {a d : Nat} (ha : a < 2 ^ 31) (h0 : 0 < d) (hd : d < 2 ^ 31) : nI a / nI d = nI (a / d) := by
  apply Int32.toInt_inj.mp
  rw [lg_idiv_nonneg (by rw [nI_toInt ha]; omega) (by rw [nI_toInt hd]; omega), nI_toInt ha, nI_toInt hd, nI_toInt (Nat.lt_of_le_of_lt (Nat.div_le_self a d) ha)]
  first | rfl | exact (Int.natCast_ediv _ _).symm
theorem pk_rem {a d : Nat} (ha : a < 2 ^ 31) (h0 : 0 < d) (hd : d < 2 ^ 31) : nI a - nI a / nI d * nI d = nI (a % d) := by
  rw [pk_div ha h0 hd, pk_mul, pk_sub (Nat.div_mul_le_self a d)]
  exact congrArg nI (by have := Nat.div_add_mod' a d; omega)
theorem pk_ix (x : Int32) {n : Nat} (hn : n < 2 ^ 31) : x < 0 ∨ nI n ≤ x ∨ ∃ j : Nat, j < n ∧ x = nI j := by
  by_cases h : x < 0
  · exact Or.inl h
  · obtain ⟨j, hj, rfl⟩ := nI_of h
    by_cases h2 : j < n
    · exact Or.inr (Or.inr ⟨j, h2, rfl⟩)
    · exact Or.inr (Or.inl (nI_le (by omega) hj))
theorem pk_tn {n : Nat} (h : n < 2 ^ 32) : (nI n).toBitVec.toNat = n := Nat.mod_eq_of_lt h
theorem pk_least (P : Nat → Prop) (h : ∃ k, P k) : ∃ k, P k ∧ ∀ j, j < k → ¬ P j := by
  obtain ⟨k, hk⟩ := h
  induction k using Nat.strongRecOn with
  | ind k ih =>
    by_cases e : ∃ j, j < k ∧ P j
    · obtain ⟨j, hj, pj⟩ := e
      exact ih j hj pj
    · exact ⟨k, hk, fun j hj pj => e ⟨j, hj, pj⟩⟩
def bt (x : Int32) (i : Nat) : Bool := x.toBitVec.getLsbD i
theorem b_ext {x y : Int32} (h : ∀ i, i < 32 → bt x i = bt y i) : x = y := Int32.toBitVec_inj.mp (BitVec.eq_of_getLsbD_eq (fun i hi => h i hi))
theorem b_or (x y : Int32) (i : Nat) : bt (x ||| y) i = (bt x i || bt y i) := by unfold bt; rw [Int32.toBitVec_or, BitVec.getLsbD_or]
theorem b_and (x y : Int32) (i : Nat) : bt (x &&& y) i = (bt x i && bt y i) := by unfold bt; rw [Int32.toBitVec_and, BitVec.getLsbD_and]
theorem b_xor (x y : Int32) (i : Nat) : bt (x ^^^ y) i = (bt x i ^^ bt y i) := by unfold bt; rw [Int32.toBitVec_xor, BitVec.getLsbD_xor]
theorem b_big {x : Int32} {i : Nat} (h : 32 ≤ i) : bt x i = false := BitVec.getLsbD_of_ge _ _ h
theorem b_m1 : ∀ i, i < 32 → bt (-1) i = true := by decide +kernel
theorem b_0 (i : Nat) : bt 0 i = false := BitVec.getLsbD_zero
theorem s_l : ∀ n, n < 32 → ((nI n &&& 31).toBitVec.smod 32).toNat = n := by decide +kernel
theorem s_u : ∀ n, n < 32 → (((nI n).toUInt32 &&& Int32.toUInt32 31).toBitVec % 32).toNat = n := by decide +kernel
theorem b_shl (n : Nat) (hn : n < 32) (x : Int32) {i : Nat} (hi : i < 32) : bt (x <<< (nI n &&& 31)) i = (decide (n ≤ i) && bt x (i - n)) := by
  unfold bt
  rw [Int32.toBitVec_shiftLeft]
  show (x.toBitVec <<< ((nI n &&& 31).toBitVec.smod 32).toNat).getLsbD i = _
  rw [s_l n hn, BitVec.getLsbD_shiftLeft]
  rcases Nat.lt_or_ge i n with h | h
  · simp [h, Nat.not_le.mpr h]
  · simp [hi, h, Nat.not_lt.mpr h]
theorem b_ushr (n : Nat) (hn : n < 32) (x : Int32) (i : Nat) : bt ((x.toUInt32 >>> ((nI n).toUInt32 &&& Int32.toUInt32 31)).toInt32) i = bt x (n + i) := by
  show (x.toUInt32 >>> ((nI n).toUInt32 &&& Int32.toUInt32 31)).toBitVec.getLsbD i = x.toUInt32.toBitVec.getLsbD (n + i)
  rw [UInt32.toBitVec_shiftRight]
  show (x.toUInt32.toBitVec >>> (((nI n).toUInt32 &&& Int32.toUInt32 31).toBitVec % 32).toNat).getLsbD i = _
  rw [s_u n hn, BitVec.getLsbD_ushiftRight]
theorem b_sshr (n : Nat) (hn : n < 32) (x : Int32) {i : Nat} (hi : i < 32) : bt (x >>> (nI n &&& 31)) i = if n + i < 32 then bt x (n + i) else bt x 31 := by
  unfold bt
  rw [Int32.toBitVec_shiftRight]
  show (x.toBitVec.sshiftRight ((nI n &&& 31).toBitVec.smod 32).toNat).getLsbD i = _
  rw [s_l n hn, BitVec.getLsbD_sshiftRight, BitVec.msb_eq_getLsbD_last]
  simp [hi]
theorem nx_and (a b : Nat) : nI a &&& nI b = nI (a &&& b) := by
  apply Int32.toBitVec_inj.1
  show BitVec.ofNat 32 a &&& BitVec.ofNat 32 b = BitVec.ofNat 32 (a &&& b)
  apply BitVec.eq_of_getLsbD_eq
  intro i hi
  simp [hi]
/-! bits of numbers -/
theorem ps_or (a b : Nat) : nI a ||| nI b = nI (a ||| b) := by
  apply Int32.toBitVec_inj.1
  show BitVec.ofNat 32 a ||| BitVec.ofNat 32 b = BitVec.ofNat 32 (a ||| b)
  apply BitVec.eq_of_getLsbD_eq
  intro i hi
  simp [hi]
theorem ps_bt (k : Nat) {i : Nat} (hi : i < 32) : bt (nI k) i = k.testBit i := by
  show (BitVec.ofNat 32 k).getLsbD i = _
  rw [BitVec.getLsbD_ofNat, decide_eq_true hi, Bool.true_and]
theorem ps_one : ∀ l, l < 32 → (1 : Int32) <<< (nI l &&& 31) = nI (2 ^ l) := by decide +kernel
theorem ps_sb (s : Nat) {l : Nat} (h : l < 32) : nI s ||| ((1 : Int32) <<< (nI l &&& 31)) = nI (s ||| 2 ^ l) := by
  rw [ps_one l h, ps_or]
theorem ps_sub31 : ∀ l, l < 32 → (31 : Int32) - nI l = nI (31 - l) := by decide +kernel
theorem ps_bt1 : ∀ i, i < 32 → bt 1 i = decide (i = 0) := by decide +kernel
theorem ps_a1 (A : Int32) : A &&& 1 = 1 ↔ bt A 0 = true := by
  constructor
  · intro h
    have e := congrArg (fun z => bt z 0) h
    rw [b_and, ps_bt1 0 (by omega)] at e
    simpa using e
  · intro h
    apply b_ext
    intro i hi
    rw [b_and, ps_bt1 i hi]
    by_cases z : i = 0
    · subst z; rw [h]; rfl
    · rw [decide_eq_false z, Bool.and_false]
theorem ps_nz (A : Int32) (h : ∀ i, i < 32 → bt A i = false) : A = 0 := b_ext fun i hi => by rw [h i hi, b_0]
def ps_b (b : Bool) : Int32 := if b then 1 else 0
theorem ps_br {v : Bool} {A B : Prop} (b : v = true → B) (a : v = false → A) : (ps_b v = 0 → A) ∧ (¬ ps_b v = 0 → B) := by
  cases v
  · exact br_t rfl (a rfl)
  · exact br_f (by decide) (b rfl)
theorem ps_nb (v : Bool) : narrow .boolean (.int (ps_b v)) = .int (ps_b v) := by
  cases v
  · rfl
  · rfl
/-- A within B -/
def ps_wi (A B : Int32) : Bool := decide (A &&& (B ^^^ (-1)) = 0)
theorem ps_wi_iff (A B : Int32) : ps_wi A B = true ↔ ∀ i, i < 32 → bt A i = true → bt B i = true := by
  unfold ps_wi
  rw [decide_eq_true_iff]
  constructor
  · intro h i hi ha
    have e := congrArg (fun z => bt z i) h
    rw [b_and, b_xor, b_m1 i hi, b_0, ha] at e
    simpa using e
  · intro h
    apply ps_nz
    intro i hi
    rw [b_and, b_xor, b_m1 i hi]
    cases ha : bt A i
    · rfl
    · rw [h i hi ha]; rfl
/-! folds -/
def ps_fo {σ : Type} (g : Nat → σ → σ) (s : σ) : Nat → σ
  | 0 => s
  | n + 1 => g n (ps_fo g s n)
theorem lo_fo {σ : Type} (W : Nat → Nat → σ → Prop) (g : Nat → σ → σ) (s0 : σ) (e i0 : Nat) (hx : ∀ n, W (n + 1) e (ps_fo g s0 e)) (hs : ∀ n i s, i0 ≤ i → i < e → W n (i + 1) (g i s) → W (n + 1) i s) : ∀ d i, i0 ≤ i → i + d = e → W (d + 1) i (ps_fo g s0 i) := by
  intro d
  induction d with
  | zero => intro i _ h; obtain rfl : i = e := by omega
            exact hx 0
  | succ d ih => intro i h0 h; exact hs _ _ _ h0 (by omega) (ih (i + 1) (by omega) (by omega))
def ps_O (b : Nat) (c : Nat → Bool) (f : Nat → Nat) (n : Nat) : Nat := ps_fo (fun i s => if c i then s ||| f i else s) b n
def ps_A (b : Nat) (c : Nat → Bool) (f : Nat → Nat) (n : Nat) : Nat := ps_fo (fun i s => if c i then s &&& f i else s) b n
def ps_C (c : Nat → Bool) (n : Nat) : Nat := ps_fo (fun i s => if c i then s + 1 else s) 0 n
def ps_all (c : Nat → Bool) (n : Nat) : Bool := ps_fo (fun i s => s && c i) true n
theorem lo_O (W : Nat → Nat → Nat → Prop) (b : Nat) (c : Nat → Bool) (f : Nat → Nat) (e : Nat) (hx : ∀ n, W (n + 1) e (ps_O b c f e)) (hs : ∀ n i s, i < e → (c i = true → W n (i + 1) (s ||| f i)) → (c i = false → W n (i + 1) s) → W (n + 1) i s) : W (e + 1) 0 b := by
  refine lo_fo W (fun i s => if c i then s ||| f i else s) b e 0 hx ?_ e 0 (by omega) (by omega)
  intro n i s _ hi w
  exact hs n i s hi (fun z => by rw [z] at w; exact w) (fun z => by rw [z] at w; exact w)
theorem lo_A (W : Nat → Nat → Nat → Prop) (b : Nat) (c : Nat → Bool) (f : Nat → Nat) (e : Nat) (hx : ∀ n, W (n + 1) e (ps_A b c f e)) (hs : ∀ n i s, i < e → (c i = true → W n (i + 1) (s &&& f i)) → (c i = false → W n (i + 1) s) → W (n + 1) i s) : W (e + 1) 0 b := by
  refine lo_fo W (fun i s => if c i then s &&& f i else s) b e 0 hx ?_ e 0 (by omega) (by omega)
  intro n i s _ hi w
  exact hs n i s hi (fun z => by rw [z] at w; exact w) (fun z => by rw [z] at w; exact w)
theorem lo_C (W : Nat → Nat → Nat → Prop) (c : Nat → Bool) (e : Nat) (hx : ∀ n, W (n + 1) e (ps_C c e)) (hs : ∀ n i s, i < e → (c i = true → W n (i + 1) (s + 1)) → (c i = false → W n (i + 1) s) → W (n + 1) i s) : W (e + 1) 0 0 := by
  refine lo_fo W (fun i s => if c i then s + 1 else s) 0 e 0 hx ?_ e 0 (by omega) (by omega)
  intro n i s _ hi w
  exact hs n i s hi (fun z => by rw [z] at w; exact w) (fun z => by rw [z] at w; exact w)
/-- a count that begins at 1: c 0 is false -/
theorem lo_C1 (W : Nat → Nat → Nat → Prop) (c : Nat → Bool) (e : Nat) (h0 : c 0 = false) (hx : ∀ n, W (n + 1) (e + 1) (ps_C c (e + 1))) (hs : ∀ n i s, 0 < i → i < e + 1 → (c i = true → W n (i + 1) (s + 1)) → (c i = false → W n (i + 1) s) → W (n + 1) i s) : W (e + 1) 1 0 := by
  have h := lo_fo W (fun i s => if c i then s + 1 else s) 0 (e + 1) 1 hx (fun n i s h1 hi w => hs n i s h1 hi (fun z => by rw [z] at w; exact w) (fun z => by rw [z] at w; exact w)) e 1 (by omega) (by omega)
  have e1 : ps_fo (fun i s => if c i then s + 1 else s) 0 1 = 0 := by
    show (if c 0 then 0 + 1 else 0) = 0
    rw [h0]; rfl
  rw [e1] at h
  exact h
theorem ps_all_iff (c : Nat → Bool) (n : Nat) : ps_all c n = true ↔ ∀ i, i < n → c i = true := by
  induction n with
  | zero => exact ⟨fun _ i h => by omega, fun _ => rfl⟩
  | succ n ih =>
    show (ps_all c n && c n) = true ↔ _
    rw [Bool.and_eq_true, ih]
    constructor
    · rintro ⟨a, b⟩ i hi
      rcases Nat.lt_or_ge i n with h | h
      · exact a i h
      · obtain rfl : i = n := by omega
        exact b
    · intro h; exact ⟨fun i hi => h i (by omega), h n (by omega)⟩
/-- a loop that leaves at the first i without c -/
theorem lo_exS (W : Nat → Nat → Prop) (c : Nat → Bool) (e i0 : Nat) (P : Bool → Prop) (h0 : ps_all c i0 = true) (hi0 : i0 ≤ e) (h : P (ps_all c e)) (hx : ∀ n, P true → W (n + 1) e) (hs : ∀ n i, i0 ≤ i → i < e → (c i = true → W n (i + 1)) → (c i = false → P false) → W (n + 1) i) : W (e - i0 + 1) i0 := by
  have H : ∀ d i, i0 ≤ i → i + d = e → ps_all c i = true → W (d + 1) i := by
    intro d
    induction d with
    | zero =>
      intro i _ hi a
      obtain rfl : i = e := by omega
      rw [a] at h
      exact hx 0 h
    | succ d ih =>
      intro i hj hi a
      refine hs _ _ hj (by omega) (fun z => ih (i + 1) (by omega) (by omega) ?_) (fun z => ?_)
      · show (ps_all c i && c i) = true
        rw [a, z]; rfl
      · have e1 : ps_all c e = false := by
          cases q : ps_all c e
          · rfl
          · have := (ps_all_iff c e).mp q i (by omega)
            rw [z] at this; exact absurd this (by decide)
        rw [e1] at h; exact h
  exact H (e - i0) i0 (by omega) (by omega) h0
theorem lo_ex (W : Nat → Nat → Prop) (c : Nat → Bool) (e : Nat) (P : Bool → Prop) (h : P (ps_all c e)) (hx : ∀ n, P true → W (n + 1) e) (hs : ∀ n i, i < e → (c i = true → W n (i + 1)) → (c i = false → P false) → W (n + 1) i) : W (e + 1) 0 :=
  lo_exS W c e 0 P rfl (by omega) h hx (fun n i _ => hs n i)
/-- a loop that keeps a truth value -/
theorem lo_bo (W : Nat → Nat → Bool → Prop) (c : Nat → Bool) (e : Nat) (hx : ∀ n, W (n + 1) e (ps_all c e)) (hs : ∀ n i s, i < e → W n (i + 1) (s && c i) → W (n + 1) i s) : W (e + 1) 0 true := by
  refine lo_fo W (fun i s => s && c i) true e 0 hx ?_ e 0 (by omega) (by omega)
  intro n i s _ hi w
  exact hs n i s hi w
theorem ps_Ot (b : Nat) (c : Nat → Bool) (f : Nat → Nat) (n x : Nat) : (ps_O b c f n).testBit x = true ↔ b.testBit x = true ∨ ∃ i, i < n ∧ c i = true ∧ (f i).testBit x = true := by
  induction n with
  | zero =>
    show b.testBit x = true ↔ _
    exact ⟨Or.inl, fun h => h.elim id (fun ⟨i, hi, _⟩ => absurd hi (by omega))⟩
  | succ n ih =>
    have e : ps_O b c f (n + 1) = if c n then ps_O b c f n ||| f n else ps_O b c f n := rfl
    rw [e]
    cases z : c n
    · rw [if_neg (by decide), ih]
      constructor
      · rintro (h | ⟨i, hi, h⟩)
        · exact Or.inl h
        · exact Or.inr ⟨i, by omega, h⟩
      · rintro (h | ⟨i, hi, h1, h2⟩)
        · exact Or.inl h
        · refine Or.inr ⟨i, ?_, h1, h2⟩
          by_cases q : i = n
          · subst q; rw [z] at h1; exact absurd h1 (by decide)
          · omega
    · rw [if_pos rfl, Nat.testBit_or, Bool.or_eq_true, ih]
      constructor
      · rintro ((h | ⟨i, hi, h⟩) | h)
        · exact Or.inl h
        · exact Or.inr ⟨i, by omega, h⟩
        · exact Or.inr ⟨n, by omega, z, h⟩
      · rintro (h | ⟨i, hi, h1, h2⟩)
        · exact Or.inl (Or.inl h)
        · by_cases q : i = n
          · subst q; exact Or.inr h2
          · exact Or.inl (Or.inr ⟨i, by omega, h1, h2⟩)
theorem ps_At (b : Nat) (c : Nat → Bool) (f : Nat → Nat) (n x : Nat) : (ps_A b c f n).testBit x = true ↔ b.testBit x = true ∧ ∀ i, i < n → c i = true → (f i).testBit x = true := by
  induction n with
  | zero =>
    show b.testBit x = true ↔ _
    exact ⟨fun h => ⟨h, fun i hi => absurd hi (by omega)⟩, fun h => h.1⟩
  | succ n ih =>
    have e : ps_A b c f (n + 1) = if c n then ps_A b c f n &&& f n else ps_A b c f n := rfl
    rw [e]
    cases z : c n
    · rw [if_neg (by decide), ih]
      constructor
      · rintro ⟨h, g⟩
        refine ⟨h, fun i hi h1 => ?_⟩
        by_cases q : i = n
        · subst q; rw [z] at h1; exact absurd h1 (by decide)
        · exact g i (by omega) h1
      · rintro ⟨h, g⟩
        exact ⟨h, fun i hi => g i (by omega)⟩
    · rw [if_pos rfl, Nat.testBit_and, Bool.and_eq_true, ih]
      constructor
      · rintro ⟨⟨h, g⟩, k⟩
        refine ⟨h, fun i hi h1 => ?_⟩
        by_cases q : i = n
        · subst q; exact k
        · exact g i (by omega) h1
      · rintro ⟨h, g⟩
        exact ⟨⟨h, fun i hi => g i (by omega)⟩, g n (by omega) z⟩
theorem ps_Olt {k : Nat} {b : Nat} {c : Nat → Bool} {f : Nat → Nat} {n : Nat} (hb : b < 2 ^ k) (hf : ∀ i, i < n → c i = true → f i < 2 ^ k) : ps_O b c f n < 2 ^ k := by
  induction n with
  | zero => exact hb
  | succ n ih =>
    have e : ps_O b c f (n + 1) = if c n then ps_O b c f n ||| f n else ps_O b c f n := rfl
    rw [e]
    cases z : c n
    · rw [if_neg (by decide)]; exact ih (fun i hi => hf i (by omega))
    · rw [if_pos rfl]; exact Nat.or_lt_two_pow (ih (fun i hi => hf i (by omega))) (hf n (by omega) z)
theorem ps_Ale (b : Nat) (c : Nat → Bool) (f : Nat → Nat) (n : Nat) : ps_A b c f n ≤ b := by
  induction n with
  | zero => exact Nat.le_refl _
  | succ n ih =>
    have e : ps_A b c f (n + 1) = if c n then ps_A b c f n &&& f n else ps_A b c f n := rfl
    rw [e]
    cases z : c n
    · rw [if_neg (by decide)]; exact ih
    · rw [if_pos rfl]; exact Nat.le_trans Nat.and_le_left ih
theorem ps_Oc {b : Nat} {c c' : Nat → Bool} {f f' : Nat → Nat} {n : Nat} (hc : ∀ i, i < n → c i = c' i) (hf : ∀ i, i < n → f i = f' i) : ps_O b c f n = ps_O b c' f' n := by
  induction n with
  | zero => rfl
  | succ n ih =>
    show (if c n then ps_O b c f n ||| f n else ps_O b c f n) = (if c' n then ps_O b c' f' n ||| f' n else ps_O b c' f' n)
    rw [ih (fun i hi => hc i (by omega)) (fun i hi => hf i (by omega)), hc n (by omega), hf n (by omega)]
theorem ps_Cc {c c' : Nat → Bool} {n : Nat} (hc : ∀ i, i < n → c i = c' i) : ps_C c n = ps_C c' n := by
  induction n with
  | zero => rfl
  | succ n ih =>
    show (if c n then ps_C c n + 1 else ps_C c n) = (if c' n then ps_C c' n + 1 else ps_C c' n)
    rw [ih (fun i hi => hc i (by omega)), hc n (by omega)]
theorem ps_allc {c c' : Nat → Bool} {n : Nat} (hc : ∀ i, i < n → c i = c' i) : ps_all c n = ps_all c' n := by
  induction n with
  | zero => rfl
  | succ n ih =>
    show (ps_all c n && c n) = (ps_all c' n && c' n)
    rw [ih (fun i hi => hc i (by omega)), hc n (by omega)]
theorem ps_Cle (c : Nat → Bool) (n : Nat) : ps_C c n ≤ n := by
  induction n with
  | zero => exact Nat.le_refl _
  | succ n ih =>
    show (if c n then ps_C c n + 1 else ps_C c n) ≤ n + 1
    split <;> omega
theorem ps_beq {a b : Bool} (h : a = true ↔ b = true) : a = b := by
  cases a
  · cases b
    · rfl
    · exact absurd (h.mpr rfl) (by decide)
  · exact (h.mp rfl).symm
