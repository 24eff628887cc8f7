/-! the reference's walks -/
def ps_n (F : Int32) : Nat := F.toBitVec.toNat
theorem ps_n_lt (F : Int32) : ps_n F < 2 ^ 32 := F.toBitVec.isLt
theorem ps_n_of (F : Int32) : nI (ps_n F) = F := by
  apply Int32.toBitVec_inj.1
  show BitVec.ofNat 32 F.toBitVec.toNat = F.toBitVec
  simp
def pv_with (F : Int32) (S : Nat) : Nat := ps_O (ps_n F) (fun p => bt F (p / 32) && bt F (p % 32)) (fun p => 2 ^ (p / 32 ||| (p % 32 &&& S))) 1024
def pv_join (F G : Int32) : Int32 := ps_fo (fun V s => if bt G V then nI (pv_with s V) else s) F 32
def pv_ct (F T : Int32) (m : Nat) : Bool := ps_all (fun V => !bt T V || bt F (pv_co m V)) 32
def pv_pc (F : Int32) (x : Nat) : Nat := pv_cl F (2 ^ x)
theorem hy_e {F : Int32} {i : Nat} (hi : i < 32) : ((F >>> (nI i &&& 31)) &&& 1) = 1 ↔ bt F i = true := by
  rw [ps_a1, b_sshr i hi _ (by omega), if_pos (by omega), Nat.add_zero]
theorem hy_in {post : Int32 → Prop} {fa ma ta : Nat → Int32} {F : Int32} {i : Nat} (hi : i < 32) (h : post (ps_b (bt F i))) : wpY_in post (fa, ma, ta) F (nI i) := by
  have e := hy_e (F := F) hi
  unfold wpY_in
  cases z : bt F i
  · rw [z] at h e; exact br_f (fun q => absurd (e.mp q) (by decide)) h
  · rw [z] at h e; exact br_t (e.mpr rfl) h
theorem hy_has {post : Int32 → Prop} {fa ma ta : Nat → Int32} {F : Int32} {i : Nat} (hi : i < 32) (h : post (ps_b (bt F i))) : wpY_has post (fa, ma, ta) F (nI i) := by
  have e := hy_e (F := F) hi
  unfold wpY_has
  cases z : bt F i
  · rw [z] at h e; exact br_f (fun q => absurd (e.mp q) (by decide)) h
  · rw [z] at h e; exact br_t (e.mpr rfl) h
theorem hy_hasN {post : Int32 → Prop} {fa ma ta : Nat → Int32} {V i : Nat} (hi : i < 32) (h : post (ps_b (V.testBit i))) : wpY_has post (fa, ma, ta) (nI V) (nI i) :=
  hy_has hi (by rw [ps_bt V hi]; exact h)
theorem yv_count {post : Int32 → Prop} {fa ma ta : Nat → Int32} {F : Int32} (h : post (nI (ps_C (bt F) 32))) : wpY_count post (fa, ma, ta) F := by
  unfold wpY_count
  exact ⟨_, lo_C (fun n i s => wY_count_4 post F fa ma ta n (nI s) (nI i)) (bt F) 32 (fun n => br_t ps_32e h) (fun n i s hi t f => br_f (ps_32 hi) (hy_in hi (ps_br (fun b => nm_r (nI_1 s) (nm_r (nI_1 i) (t b))) (fun b => nm_r (nI_1 i) (f b)))))⟩
theorem ps_n320 : ¬ (32 : Int32) = 0 := by decide
theorem ps_orlt {a b S : Nat} (ha : a < 32) (hb : b < 32) : (a ||| (b &&& S)) < 32 := Nat.or_lt_two_pow (n := 5) ha (Nat.lt_of_le_of_lt Nat.and_le_left hb)
theorem yv_with {post : Int32 → Prop} {fa ma ta : Nat → Int32} {F : Int32} {S : Nat} (h : post (nI (pv_with F S))) : wpY_with post (fa, ma, ta) F (nI S) := by
  unfold wpY_with
  have L := lo_O (fun n i s => wY_with_5 post F (nI S) fa ma ta n (nI s) (nI i)) (ps_n F) (fun p => bt F (p / 32) && bt F (p % 32)) (fun p => 2 ^ (p / 32 ||| (p % 32 &&& S))) 1024 (fun n => br_t (nI_le (a := 1024) (b := 1024) (by decide) (by decide)) h) (fun n i s hi t f => br_f (nI_ge (b := 1024) hi (by decide)) ⟨ps_n320, nm_r (pk_div (a := i) (d := 32) (by omega) (by decide) (by decide)) ⟨ps_n320, nm_r (pk_rem (a := i) (d := 32) (by omega) (by decide) (by decide)) (hy_in (by omega) (ps_br (fun b1 => hy_in (by omega) (ps_br (fun b2 => nm_r (by rw [nx_and, ps_or]; exact ps_sb s (ps_orlt (by omega) (by omega))) (nm_r (nI_1 i) (t (by rw [b1, b2]; rfl)))) (fun b2 => nm_r (nI_1 i) (f (by rw [b1, b2]; rfl))))) (fun b1 => nm_r (nI_1 i) (f (by rw [b1]; rfl)))))⟩⟩)
  rw [ps_n_of] at L
  exact ⟨_, L⟩
theorem yv_joined {post : Int32 → Prop} {fa ma ta : Nat → Int32} {F G : Int32} (h : post (pv_join F G)) : wpY_joined post (fa, ma, ta) F G := by
  unfold wpY_joined
  refine ⟨_, lo_fo (fun n i s => wY_joined_5 post G fa ma ta n s (nI i)) (fun V s => if bt G V then nI (pv_with s V) else s) F 32 0 (fun n => br_t ps_32e h) ?_ 32 0 (by omega) (by omega)⟩
  intro n i s _ hi w
  refine br_f (ps_32 hi) (hy_in hi (ps_br (fun b => ?_) (fun b => ?_)))
  · rw [b] at w
    exact yv_with (nm_r (nI_1 i) w)
  · rw [b] at w
    exact nm_r (nI_1 i) w
theorem yv_tied {post : Int32 → Prop} {fa ma ta : Nat → Int32} {F : Int32} {a b : Nat} (ha : a < 5) (hb : b < 5) (h : post (nI (pv_tie F a b))) : wpY_tied post (fa, ma, ta) F (nI a) (nI b) := by
  unfold wpY_tied
  exact ⟨_, lo_O (fun n i s => wY_tied_6 post F (nI a) (nI b) fa ma ta n (nI s) (nI i)) 0 (fun V => bt F V && (!V.testBit a || V.testBit b)) (fun V => 2 ^ V) 32 (fun n => br_t ps_32e h) (fun n i s hi t f => br_f (ps_32 hi) (hy_in hi (ps_br (fun b1 => hy_hasN (by omega) (ps_br (fun b2 => hy_hasN (by omega) (ps_br (fun b3 => nm_r (ps_sb s hi) (nm_r (nI_1 i) (t (by rw [b1, b2, b3]; rfl)))) (fun b3 => nm_r (nI_1 i) (f (by rw [b1, b2, b3]; rfl))))) (fun b2 => nm_r (ps_sb s hi) (nm_r (nI_1 i) (t (by rw [b1, b2]; rfl)))))) (fun b1 => nm_r (nI_1 i) (f (by rw [b1]; rfl))))))⟩
theorem yv_turned {post : Int32 → Prop} {fa ma ta : Nat → Int32} {F : Int32} (h : post (nI (pv_cy F))) : wpY_turned post (fa, ma, ta) F := by
  unfold wpY_turned
  exact ⟨_, lo_O (fun n i s => wY_turned_4 post F fa ma ta n (nI s) (nI i)) 0 (bt F) (fun V => 2 ^ (31 - V)) 32 (fun n => br_t ps_32e h) (fun n i s hi t f => br_f (ps_32 hi) (hy_in hi (ps_br (fun b => nm_r (by rw [ps_sub31 i hi]; exact ps_sb s (by omega)) (nm_r (nI_1 i) (t b))) (fun b => nm_r (nI_1 i) (f b)))))⟩
theorem yv_image {post : Int32 → Prop} {fa ma ta : Nat → Int32} {m x : Nat} (hm : m < 2 ^ 31) (hx : x < 5) (h : post (nI (pv_im m x))) : wpY_image post (fa, ma, ta) (nI m) (nI x) := by
  unfold wpY_image
  have L := lo_fo (fun n i (_ : Unit) => wY_image_5 post (nI x) fa ma ta n (nI (m / 5 ^ i)) (nI i)) (fun _ s => s) () x 0 (fun n => br_t (nI_le (Nat.le_refl x) (by omega)) ⟨ps_n50, by rw [ps_md hm x]; exact h⟩) (fun n i s _ hi w => br_f (nI_ge hi (by omega)) ⟨ps_n50, nm_r (ps_dv hm i) (nm_r (nI_1 i) w)⟩) x 0 (by omega) (by omega)
  rw [Nat.pow_zero, Nat.div_one] at L
  exact ⟨_, L⟩
theorem yv_comes {post : Int32 → Prop} {fa ma ta : Nat → Int32} {m V : Nat} (hm : m < 2 ^ 31) (h : post (nI (pv_co m V))) : wpY_comesTo post (fa, ma, ta) (nI m) (nI V) := by
  unfold wpY_comesTo
  exact ⟨_, lo_O (fun n i s => wY_comesTo_5 post (nI m) (nI V) fa ma ta n (nI s) (nI i)) 0 (fun x => V.testBit (pv_im m x)) (fun x => 2 ^ x) 5 (fun n => br_t ps_5e h) (fun n i s hi t f => br_f (ps_5 hi) (yv_image hm hi (hy_hasN (Nat.lt_trans (pv_im_lt m i) (by decide)) (ps_br (fun b => nm_r (ps_sb s (by omega)) (nm_r (nI_1 i) (t b))) (fun b => nm_r (nI_1 i) (f b))))))⟩
theorem yv_pulled {post : Int32 → Prop} {fa ma ta : Nat → Int32} {F : Int32} {m : Nat} (hm : m < 2 ^ 31) (h : post (nI (pv_pull F m))) : wpY_pulled post (fa, ma, ta) F (nI m) := by
  unfold wpY_pulled
  exact ⟨_, lo_O (fun n i s => wY_pulled_5 post F (nI m) fa ma ta n (nI s) (nI i)) 0 (bt F) (fun V => 2 ^ pv_co m V) 32 (fun n => br_t ps_32e h) (fun n i s hi t f => br_f (ps_32 hi) (yv_comes hm (hy_in hi (ps_br (fun b => nm_r (ps_sb s (pv_co_lt m i)) (nm_r (nI_1 i) (t b))) (fun b => nm_r (nI_1 i) (f b))))))⟩
theorem yv_pushed {post : Int32 → Prop} {fa ma ta : Nat → Int32} {F : Int32} {m : Nat} (hm : m < 2 ^ 31) (h : post (nI (pv_push F m))) : wpY_pushed post (fa, ma, ta) F (nI m) := by
  unfold wpY_pushed
  exact ⟨_, lo_O (fun n i s => wY_pushed_5 post F (nI m) fa ma ta n (nI s) (nI i)) 0 (fun V => bt F (pv_co m V)) (fun V => 2 ^ V) 32 (fun n => br_t ps_32e h) (fun n i s hi t f => br_f (ps_32 hi) (yv_comes hm (hy_in (pv_co_lt m i) (ps_br (fun b => nm_r (ps_sb s hi) (nm_r (nI_1 i) (t b))) (fun b => nm_r (nI_1 i) (f b))))))⟩
theorem yv_inner {post : Int32 → Prop} {fa ma ta : Nat → Int32} {F : Int32} {S : Nat} (h : post (nI (pv_in F S))) : wpY_innerPart post (fa, ma, ta) F (nI S) := by
  unfold wpY_innerPart
  refine ⟨_, lo_O (fun n i s => wY_innerPart_5 post F (nI S) fa ma ta n (nI s) (nI i)) 0 (fun V => bt F V && ps_wi (nI V) (nI S)) (fun V => V) 32 (fun n => br_t ps_32e h) (fun n i s hi t f => br_f (ps_32 hi) (hy_in hi (ps_br (fun b1 => br_c (fun z => ?_) (fun z => ?_)) (fun b1 => nm_r (nI_1 i) (f (by rw [b1]; rfl))))))⟩
  · exact nm_r (ps_or s i) (nm_r (nI_1 i) (t (by rw [b1, show ps_wi (nI i) (nI S) = true from decide_eq_true z]; rfl)))
  · exact nm_r (nI_1 i) (f (by rw [b1, show ps_wi (nI i) (nI S) = false from decide_eq_false z]; rfl))
theorem yv_closure {post : Int32 → Prop} {fa ma ta : Nat → Int32} {F : Int32} {S : Nat} (hS : S < 32) (h : post (nI (pv_cl F S))) : wpY_closureOf post (fa, ma, ta) F (nI S) := by
  unfold wpY_closureOf
  dsimp only
  rw [ps_sub31 S hS]
  refine yv_inner ?_
  rw [ps_sub31 _ (pv_in_lt F _)]
  exact h
theorem yv_pc {post : Int32 → Prop} {fa ma ta : Nat → Int32} {p : Int32} (hp : vp_in p 3) {x : Nat} (hx : x < 5) (h : post (nI (pv_pc (fa p.toNatClampNeg) x))) : wpY_pointClosure post (fa, ma, ta) p (nI x) := by
  unfold wpY_pointClosure
  dsimp only
  rw [ps_one x (by omega)]
  exact ⟨hp, yv_closure (pv_p2 x hx) h⟩
theorem yv_leastWith {post : Int32 → Prop} {fa ma ta : Nat → Int32} {F : Int32} {x : Nat} (hx : x < 5) (h : post (nI (pv_lw F x))) : wpY_leastWith post (fa, ma, ta) F (nI x) := by
  unfold wpY_leastWith
  exact ⟨_, lo_A (fun n i s => wY_leastWith_6 post F (nI x) fa ma ta n (nI s) (nI i)) 31 (fun V => bt F V && V.testBit x) (fun V => V) 32 (fun n => br_t ps_32e h) (fun n i s hi t f => br_f (ps_32 hi) (hy_in hi (ps_br (fun b1 => hy_hasN (by omega) (ps_br (fun b2 => nm_r (nx_and s i) (nm_r (nI_1 i) (t (by rw [b1, b2]; rfl)))) (fun b2 => nm_r (nI_1 i) (f (by rw [b1, b2]; rfl))))) (fun b1 => nm_r (nI_1 i) (f (by rw [b1]; rfl))))))⟩
theorem yv_both {post : Int32 → Prop} {fa ma ta : Nat → Int32} {p : Int32} (hp : vp_in p 3) (h : post (fa p.toNatClampNeg &&& nI (pv_cy (fa p.toNatClampNeg)))) : wpY_both post (fa, ma, ta) p := by
  unfold wpY_both
  exact ⟨hp, hp, yv_turned h⟩
theorem yv_cont {post : Int32 → Prop} {fa ma ta : Nat → Int32} {p q : Int32} (hp : vp_in p 3) (hq : vp_in q 3) {m : Nat} (hm : m < 2 ^ 31) (h : post (ps_b (pv_ct (fa p.toNatClampNeg) (fa q.toNatClampNeg) m))) : wpY_isContinuous post (fa, ma, ta) p q (nI m) := by
  unfold wpY_isContinuous
  exact ⟨_, lo_ex (fun n i => wY_isContinuous_3 post p q (nI m) fa ma ta n (nI i)) (fun V => !bt (fa q.toNatClampNeg) V || bt (fa p.toNatClampNeg) (pv_co m V)) 32 (fun b => post (ps_b b)) h (fun n z => br_t ps_32e z) (fun n i hi t f => br_f (ps_32 hi) ⟨hq, hy_in hi (ps_br (fun b1 => ⟨hp, yv_comes hm (hy_in (pv_co_lt m i) (ps_br (fun b2 => nm_r (nI_1 i) (t (by rw [b1, b2]; rfl))) (fun b2 => f (by rw [b1, b2]; rfl))))⟩) (fun b1 => nm_r (nI_1 i) (t (by rw [b1]; rfl))))⟩)⟩
theorem yv_taken {post : Int32 → Prop} {fa ma ta : Nat → Int32} {m V : Nat} (hm : m < 2 ^ 31) (h : post (nI (pv_ta m V))) : wpY_taken post (fa, ma, ta) (nI m) (nI V) := by
  unfold wpY_taken
  exact ⟨_, lo_O (fun n i s => wY_taken_5 post (nI m) (nI V) fa ma ta n (nI s) (nI i)) 0 (fun x => V.testBit x) (fun x => 2 ^ pv_im m x) 5 (fun n => br_t ps_5e h) (fun n i s hi t f => br_f (ps_5 hi) (hy_hasN (by omega) (ps_br (fun b => yv_image hm hi (nm_r (ps_sb s (Nat.lt_trans (pv_im_lt m i) (by decide))) (nm_r (nI_1 i) (t b)))) (fun b => nm_r (nI_1 i) (f b)))))⟩
theorem yv_back {post : Int32 → Prop} {fa ma ta : Nat → Int32} {p q : Int32} (hp : vp_in p 3) (hq : vp_in q 3) {m : Nat} (hm : m < 2 ^ 31) (h : post (ps_b (pv_bk (fa p.toNatClampNeg) (fa q.toNatClampNeg) m))) : wpY_isBack post (fa, ma, ta) p q (nI m) := by
  unfold wpY_isBack
  refine ⟨_, lo_bo (fun n i s => wY_isBack_6 post p q (nI m) fa ma ta n (ps_b s) (nI i)) (fun V => !bt (fa p.toNatClampNeg) V || bt (fa q.toNatClampNeg) (pv_ta m V)) 32 (fun n => br_t ps_32e ⟨ps_nb _, h⟩) ?_⟩
  intro n i s hi w
  cases s
  · exact br_f (ps_32 hi) (br_t rfl (nm_r (nI_1 i) w))
  · refine br_f (ps_32 hi) (br_f (by decide) ⟨hp, hy_in hi (ps_br (fun b1 => ⟨hq, yv_taken hm (hy_in (pv_ta_lt m i) (ps_br (fun b2 => nm_r (nI_1 i) ?_) (fun b2 => nm_r (nI_1 i) ?_)))⟩) (fun b1 => nm_r (nI_1 i) ?_))⟩)
    · rw [b1, b2] at w; exact w
    · rw [b1, b2] at w; exact w
    · rw [b1] at w; exact w
