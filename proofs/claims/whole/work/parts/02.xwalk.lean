/-! the pure pictures -/
def pv_lw (F : Int32) (x : Nat) : Nat := ps_A 31 (fun V => bt F V && V.testBit x) (fun V => V) 32
def pv_hl (F : Int32) (V : Nat) : Bool := ps_all (fun x => !V.testBit x || ps_wi (nI (pv_lw F x)) (nI V)) 5
def pv_ls (F : Int32) : Nat := ps_O 0 (pv_hl F) (fun V => 2 ^ V) 32
def pv_tie (F : Int32) (a b : Nat) : Nat := ps_O 0 (fun V => bt F V && (!V.testBit a || V.testBit b)) (fun V => 2 ^ V) 32
def pv_cx (F : Int32) : Nat := ps_O 0 (fun V => bt F (31 - V)) (fun V => 2 ^ V) 32
def pv_cy (F : Int32) : Nat := ps_O 0 (bt F) (fun V => 2 ^ (31 - V)) 32
def pv_im (m x : Nat) : Nat := m / 5 ^ x % 5
def pv_co (m V : Nat) : Nat := ps_O 0 (fun x => V.testBit (pv_im m x)) (fun x => 2 ^ x) 5
def pv_pull (F : Int32) (m : Nat) : Nat := ps_O 0 (bt F) (fun V => 2 ^ pv_co m V) 32
def pv_push (F : Int32) (m : Nat) : Nat := ps_O 0 (fun V => bt F (pv_co m V)) (fun V => 2 ^ V) 32
def pv_in (F : Int32) (S : Nat) : Nat := ps_O 0 (fun V => bt F V && ps_wi (nI V) (nI S)) (fun V => V) 32
def pv_cl (F : Int32) (S : Nat) : Nat := 31 - pv_in F (31 - S)
def pv_ta (m V : Nat) : Nat := ps_O 0 (fun x => V.testBit x) (fun x => 2 ^ pv_im m x) 5
def pv_bk (F T : Int32) (m : Nat) : Bool := ps_all (fun V => !bt F V || bt T (pv_ta m V)) 32
theorem pv_im_lt (m x : Nat) : pv_im m x < 5 := Nat.mod_lt _ (by decide)
theorem pv_p2 : ∀ x, x < 5 → 2 ^ x < 2 ^ 5 := by decide
theorem pv_co_lt (m V : Nat) : pv_co m V < 32 := ps_Olt (k := 5) (by decide) (fun x hx _ => pv_p2 x hx)
theorem pv_ta_lt (m V : Nat) : pv_ta m V < 32 := ps_Olt (k := 5) (by decide) (fun x hx _ => pv_p2 _ (pv_im_lt m x))
theorem pv_in_lt (F : Int32) (S : Nat) : pv_in F S < 32 := ps_Olt (k := 5) (by decide) (fun x hx _ => hx)
theorem pv_lw_lt (F : Int32) (x : Nat) : pv_lw F x < 32 := Nat.lt_of_le_of_lt (ps_Ale _ _ _ _) (by decide)
theorem pv_cl_lt (F : Int32) (S : Nat) : pv_cl F S < 32 := by unfold pv_cl; omega
theorem ps_32 {i : Nat} (h : i < 32) : ¬ (32 : Int32) ≤ nI i := nI_ge (b := 32) h (by decide)
theorem ps_32e : (32 : Int32) ≤ nI 32 := nI_le (a := 32) (b := 32) (by decide) (by decide)
theorem ps_5 {i : Nat} (h : i < 5) : ¬ (5 : Int32) ≤ nI i := nI_ge (b := 5) h (by decide)
theorem ps_5e : (5 : Int32) ≤ nI 5 := nI_le (a := 5) (b := 5) (by decide) (by decide)
theorem ps_m {i : Nat} (h : i < 3125) : ¬ (3125 : Int32) ≤ nI i := nI_ge (b := 3125) h (by decide)
theorem ps_me : (3125 : Int32) ≤ nI 3125 := nI_le (a := 3125) (b := 3125) (by decide) (by decide)
theorem ps_dle (m i : Nat) : m / 5 ^ i ≤ m := Nat.div_le_self _ _
theorem ps_dv {m : Nat} (h : m < 2 ^ 31) (i : Nat) : nI (m / 5 ^ i) / 5 = nI (m / 5 ^ (i + 1)) := by
  have := ps_dle m i
  have e := pk_div (a := m / 5 ^ i) (d := 5) (by omega) (by decide) (by decide)
  rw [Nat.div_div_eq_div_mul, ← Nat.pow_succ] at e
  exact e
theorem ps_md {m : Nat} (h : m < 2 ^ 31) (i : Nat) : nI (m / 5 ^ i) - nI (m / 5 ^ i) / 5 * 5 = nI (pv_im m i) := by
  have := ps_dle m i
  exact pk_rem (a := m / 5 ^ i) (d := 5) (by omega) (by decide) (by decide)
theorem ps_n50 : ¬ (5 : Int32) = 0 := by decide
/-! the component's walks -/
theorem hx_has {post : Int32 → Prop} {F : Int32} {i : Nat} (hi : i < 32) (h : post (ps_b (bt F i))) : wpX_has post F (nI i) := by
  have e : (((F.toUInt32 >>> ((nI i).toUInt32 &&& Int32.toUInt32 31)).toInt32) &&& 1) = 1 ↔ bt F i = true := by
    rw [ps_a1, b_ushr i hi, Nat.add_zero]
  unfold wpX_has
  cases z : bt F i
  · rw [z] at h e; exact br_f (fun q => absurd (e.mp q) (by decide)) h
  · rw [z] at h e; exact br_t (e.mpr rfl) h
theorem hx_hasE {post : Int32 → Prop} {F y : Int32} {i : Nat} (hy : y = nI i) (hi : i < 32) (h : post (ps_b (bt F i))) : wpX_has post F y := by
  rw [hy]; exact hx_has hi h
theorem hx_hasN {post : Int32 → Prop} {V i : Nat} (hi : i < 32) (h : post (ps_b (V.testBit i))) : wpX_has post (nI V) (nI i) :=
  hx_has hi (by rw [ps_bt V hi]; exact h)
theorem hx_hasNE {post : Int32 → Prop} {V i : Nat} {y : Int32} (hy : y = nI i) (hi : i < 32) (h : post (ps_b (V.testBit i))) : wpX_has post (nI V) y := by
  rw [hy]; exact hx_hasN hi h
theorem xv_within {post : Int32 → Prop} {A B : Int32} (h : post (ps_b (ps_wi A B))) : wpX_isWithin post A B := by
  unfold wpX_isWithin
  by_cases z : A &&& (B ^^^ (-1)) = 0
  · have e : ps_wi A B = true := decide_eq_true z
    rw [e] at h; exact br_t z h
  · have e : ps_wi A B = false := decide_eq_false z
    rw [e] at h; exact br_f z h
theorem xv_count {post : Int32 → Prop} {F : Int32} (h : post (nI (ps_C (bt F) 32))) : wpX_countOnes post F := by
  unfold wpX_countOnes
  exact ⟨_, lo_C (fun n i s => wX_countOnes_4 post F n (nI s) (nI i)) (bt F) 32 (fun n => br_t ps_32e h) (fun n i s hi t f => br_f (ps_32 hi) (hx_has hi (ps_br (fun b => nm_r (nI_1 s) (nm_r (nI_1 i) (t b))) (fun b => nm_r (nI_1 i) (f b)))))⟩
theorem xv_leastWith {post : Int32 → Prop} {F : Int32} {x : Nat} (hx : x < 5) (h : post (nI (pv_lw F x))) : wpX_leastWith post F (nI x) := by
  unfold wpX_leastWith
  exact ⟨_, lo_A (fun n i s => wX_leastWith_5 post F (nI x) n (nI s) (nI i)) 31 (fun V => bt F V && V.testBit x) (fun V => V) 32 (fun n => br_t ps_32e h) (fun n i s hi t f => br_f (ps_32 hi) (hx_has hi (ps_br (fun b1 => hx_hasN (by omega) (ps_br (fun b2 => nm_r (nx_and s i) (nm_r (nI_1 i) (t (by rw [b1, b2]; rfl)))) (fun b2 => nm_r (nI_1 i) (f (by rw [b1, b2]; rfl))))) (fun b1 => nm_r (nI_1 i) (f (by rw [b1]; rfl))))))⟩
theorem xv_holds {post : Int32 → Prop} {F : Int32} {V : Nat} (h : post (ps_b (pv_hl F V))) : wpX_holdsLeastOfEachPoint post F (nI V) := by
  unfold wpX_holdsLeastOfEachPoint
  exact ⟨_, lo_ex (fun n i => wX_holdsLeastOfEachPoint_2 post F (nI V) n (nI i)) (fun x => !V.testBit x || ps_wi (nI (pv_lw F x)) (nI V)) 5 (fun b => post (ps_b b)) h (fun n p => br_t ps_5e p) (fun n i hi t f => br_f (ps_5 hi) (hx_hasN (by omega) (ps_br (fun b1 => xv_leastWith hi (xv_within (ps_br (fun b2 => nm_r (nI_1 i) (t (by rw [b1, b2]; rfl))) (fun b2 => f (by rw [b1, b2]; rfl))))) (fun b1 => nm_r (nI_1 i) (t (by rw [b1]; rfl))))))⟩
theorem xv_leastSpace {post : Int32 → Prop} {F : Int32} (h : post (nI (pv_ls F))) : wpX_leastSpace post F := by
  unfold wpX_leastSpace
  exact ⟨_, lo_O (fun n i s => wX_leastSpace_4 post F n (nI s) (nI i)) 0 (pv_hl F) (fun V => 2 ^ V) 32 (fun n => br_t ps_32e h) (fun n i s hi t f => br_f (ps_32 hi) (xv_holds (ps_br (fun b => nm_r (ps_sb s hi) (nm_r (nI_1 i) (t b))) (fun b => nm_r (nI_1 i) (f b)))))⟩
theorem xv_tied {post : Int32 → Prop} {F : Int32} {a b : Nat} (ha : a < 5) (hb : b < 5) (h : post (nI (pv_tie F a b))) : wpX_tiedFamily post F (nI a) (nI b) := by
  unfold wpX_tiedFamily
  exact ⟨_, lo_O (fun n i s => wX_tiedFamily_5 post F (nI a) (nI b) n (nI s) (nI i)) 0 (fun V => bt F V && (!V.testBit a || V.testBit b)) (fun V => 2 ^ V) 32 (fun n => br_t ps_32e h) (fun n i s hi t f => br_f (ps_32 hi) (hx_has hi (ps_br (fun b1 => hx_hasN (by omega) (ps_br (fun b2 => hx_hasN (by omega) (ps_br (fun b3 => nm_r (ps_sb s hi) (nm_r (nI_1 i) (t (by rw [b1, b2, b3]; rfl)))) (fun b3 => nm_r (nI_1 i) (f (by rw [b1, b2, b3]; rfl))))) (fun b2 => nm_r (ps_sb s hi) (nm_r (nI_1 i) (t (by rw [b1, b2]; rfl)))))) (fun b1 => nm_r (nI_1 i) (f (by rw [b1]; rfl))))))⟩
theorem xv_closed {post : Int32 → Prop} {F : Int32} (h : post (nI (pv_cx F))) : wpX_closedSets post F := by
  unfold wpX_closedSets
  exact ⟨_, lo_O (fun n i s => wX_closedSets_4 post F n (nI s) (nI i)) 0 (fun V => bt F (31 - V)) (fun V => 2 ^ V) 32 (fun n => br_t ps_32e h) (fun n i s hi t f => br_f (ps_32 hi) (hx_hasE (ps_sub31 i hi) (by omega) (ps_br (fun b => nm_r (ps_sb s hi) (nm_r (nI_1 i) (t b))) (fun b => nm_r (nI_1 i) (f b)))))⟩
theorem xv_coming {post : Int32 → Prop} {m V : Nat} (hm : m < 2 ^ 31) (h : post (nI (pv_co m V))) : wpX_comingTo post (nI m) (nI V) := by
  unfold wpX_comingTo
  have e0 : nI m = nI (m / 5 ^ 0) := by rw [Nat.pow_zero, Nat.div_one]
  rw [e0]
  exact ⟨_, lo_O (fun n i s => wX_comingTo_7 post (nI V) n (nI s) (nI (m / 5 ^ i)) (nI i)) 0 (fun x => V.testBit (pv_im m x)) (fun x => 2 ^ x) 5 (fun n => br_t ps_5e h) (fun n i s hi t f => br_f (ps_5 hi) ⟨ps_n50, hx_hasNE (ps_md hm i) (by have := pv_im_lt m i; omega) (ps_br (fun b => nm_r (ps_sb s (by omega)) ⟨ps_n50, nm_r (ps_dv hm i) (nm_r (nI_1 i) (t b))⟩) (fun b => ⟨ps_n50, nm_r (ps_dv hm i) (nm_r (nI_1 i) (f b))⟩))⟩)⟩
theorem xv_pulled {post : Int32 → Prop} {F : Int32} {m : Nat} (hm : m < 2 ^ 31) (h : post (nI (pv_pull F m))) : wpX_pulledFamily post F (nI m) := by
  unfold wpX_pulledFamily
  exact ⟨_, lo_O (fun n i s => wX_pulledFamily_4 post F (nI m) n (nI s) (nI i)) 0 (bt F) (fun V => 2 ^ pv_co m V) 32 (fun n => br_t ps_32e h) (fun n i s hi t f => br_f (ps_32 hi) (hx_has hi (ps_br (fun b => xv_coming hm (nm_r (ps_sb s (pv_co_lt m i)) (nm_r (nI_1 i) (t b)))) (fun b => nm_r (nI_1 i) (f b)))))⟩
theorem xv_pushed {post : Int32 → Prop} {F : Int32} {m : Nat} (hm : m < 2 ^ 31) (h : post (nI (pv_push F m))) : wpX_pushedFamily post F (nI m) := by
  unfold wpX_pushedFamily
  exact ⟨_, lo_O (fun n i s => wX_pushedFamily_4 post F (nI m) n (nI s) (nI i)) 0 (fun V => bt F (pv_co m V)) (fun V => 2 ^ V) 32 (fun n => br_t ps_32e h) (fun n i s hi t f => br_f (ps_32 hi) (xv_coming hm (hx_has (pv_co_lt m i) (ps_br (fun b => nm_r (ps_sb s hi) (nm_r (nI_1 i) (t b))) (fun b => nm_r (nI_1 i) (f b))))))⟩
theorem xv_inner {post : Int32 → Prop} {F : Int32} {S : Nat} (h : post (nI (pv_in F S))) : wpX_innerPart post F (nI S) := by
  unfold wpX_innerPart
  exact ⟨_, lo_O (fun n i s => wX_innerPart_4 post F (nI S) n (nI s) (nI i)) 0 (fun V => bt F V && ps_wi (nI V) (nI S)) (fun V => V) 32 (fun n => br_t ps_32e h) (fun n i s hi t f => br_f (ps_32 hi) (hx_has hi (ps_br (fun b1 => xv_within (ps_br (fun b2 => nm_r (ps_or s i) (nm_r (nI_1 i) (t (by rw [b1, b2]; rfl)))) (fun b2 => nm_r (nI_1 i) (f (by rw [b1, b2]; rfl))))) (fun b1 => nm_r (nI_1 i) (f (by rw [b1]; rfl))))))⟩
theorem xv_closure {post : Int32 → Prop} {F : Int32} {S : Nat} (hS : S < 32) (h : post (nI (pv_cl F S))) : wpX_closureOf post F (nI S) := by
  unfold wpX_closureOf
  rw [ps_sub31 S hS]
  refine xv_inner ?_
  rw [ps_sub31 _ (pv_in_lt F _)]
  exact h
theorem xv_closureP {post : Int32 → Prop} {F : Int32} {x : Nat} (hx : x < 5) (h : post (nI (pv_cl F (2 ^ x)))) : wpX_closureOf post F ((1 : Int32) <<< (nI x &&& 31)) := by
  rw [ps_one x (by omega)]
  exact xv_closure (pv_p2 x hx) h
theorem xv_taken {post : Int32 → Prop} {m V : Nat} (hm : m < 2 ^ 31) (h : post (nI (pv_ta m V))) : wpX_takenFrom post (nI m) (nI V) := by
  unfold wpX_takenFrom
  have e0 : nI m = nI (m / 5 ^ 0) := by rw [Nat.pow_zero, Nat.div_one]
  rw [e0]
  exact ⟨_, lo_O (fun n i s => wX_takenFrom_7 post (nI V) n (nI s) (nI (m / 5 ^ i)) (nI i)) 0 (fun x => V.testBit x) (fun x => 2 ^ pv_im m x) 5 (fun n => br_t ps_5e h) (fun n i s hi t f => br_f (ps_5 hi) (hx_hasN (by omega) (ps_br (fun b => ⟨ps_n50, nm_r (by rw [ps_md hm i]; exact ps_sb s (Nat.lt_trans (pv_im_lt m i) (by decide))) ⟨ps_n50, nm_r (ps_dv hm i) (nm_r (nI_1 i) (t b))⟩⟩) (fun b => ⟨ps_n50, nm_r (ps_dv hm i) (nm_r (nI_1 i) (f b))⟩))))⟩
theorem xv_cont {post : Int32 → Prop} {F T : Int32} {m : Nat} (hm : m < 2 ^ 31) (h : post (ps_b (ps_wi (nI (pv_pull T m)) F))) : wpX_isContinuous post F T (nI m) := by
  unfold wpX_isContinuous
  exact xv_pulled hm (xv_within ⟨ps_nb _, h⟩)
theorem xv_back {post : Int32 → Prop} {F T : Int32} {m : Nat} (hm : m < 2 ^ 31) (h : post (ps_b (pv_bk F T m))) : wpX_takesOpenToOpen post F T (nI m) := by
  unfold wpX_takesOpenToOpen
  exact ⟨_, lo_ex (fun n i => wX_takesOpenToOpen_2 post F T (nI m) n (nI i)) (fun V => !bt F V || bt T (pv_ta m V)) 32 (fun b => post (ps_b b)) h (fun n p => br_t ps_32e p) (fun n i hi t f => br_f (ps_32 hi) (hx_has hi (ps_br (fun b1 => xv_taken hm (hx_has (pv_ta_lt m i) (ps_br (fun b2 => nm_r (nI_1 i) (t (by rw [b1, b2]; rfl))) (fun b2 => f (by rw [b1, b2]; rfl))))) (fun b1 => nm_r (nI_1 i) (t (by rw [b1]; rfl))))))⟩
