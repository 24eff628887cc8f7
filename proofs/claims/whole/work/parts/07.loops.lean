/-! the outer loops of questions, both sides -/
theorem xv_dense {post : Int32 → Prop} {fa sp : Nat → Int32} {p : Int32} (hp : vp_in p 3) (h : post (nI (ps_C (fun V => decide (pv_cl (fa p.toNatClampNeg) V = 31)) 32))) : ∃ n, wX_dense_13 post p fa sp n 0 0 := by
  refine ⟨_, lo_C (fun n i s => wX_dense_13 post p fa sp n (nI s) (nI i)) (fun V => decide (pv_cl (fa p.toNatClampNeg) V = 31)) 32 (fun n => br_t ps_32e h) (fun n i s hi t f => br_f (ps_32 hi) ⟨hp, xv_closure hi (br_c (fun e => ?_) (fun e => ?_))⟩)⟩
  · have e2 := (ps_ni (b := 31) (pv_cl_lt _ i) (by decide)).mp e
    exact nm_r (nI_1 s) (nm_r (nI_1 i) (t (decide_eq_true e2)))
  · have e2 : ¬ pv_cl (fa p.toNatClampNeg) i = 31 := fun q => e ((ps_ni (b := 31) (pv_cl_lt _ i) (by decide)).mpr q)
    exact nm_r (nI_1 i) (f (decide_eq_false e2))
theorem yv_dense {post : Int32 → Prop} {fa ma ta : Nat → Int32} {p : Int32} (hp : vp_in p 3) (h : post (nI (ps_C (fun V => decide (pv_cl (fa p.toNatClampNeg) V = 31)) 32))) : ∃ n, wY_dense_14 post p fa ma ta n 0 0 := by
  refine ⟨_, lo_C (fun n i s => wY_dense_14 post p fa ma ta n (nI s) (nI i)) (fun V => decide (pv_cl (fa p.toNatClampNeg) V = 31)) 32 (fun n => br_t ps_32e h) (fun n i s hi t f => br_f (ps_32 hi) ⟨hp, yv_closure hi (br_c (fun e => ?_) (fun e => ?_))⟩)⟩
  · have e2 := (ps_ni (b := 31) (pv_cl_lt _ i) (by decide)).mp e
    exact nm_r (nI_1 s) (nm_r (nI_1 i) (t (decide_eq_true e2)))
  · have e2 : ¬ pv_cl (fa p.toNatClampNeg) i = 31 := fun q => e ((ps_ni (b := 31) (pv_cl_lt _ i) (by decide)).mpr q)
    exact nm_r (nI_1 i) (f (decide_eq_false e2))
theorem xv_maps {post : Int32 → Prop} {fa sp : Nat → Int32} {p q : Int32} (hp : vp_in p 3) (hq : vp_in q 3) (h : post (nI (ps_C (fun m => pv_ct (fa p.toNatClampNeg) (fa q.toNatClampNeg) m) 3125))) : ∃ n, wX_maps_21 post p q fa sp n 0 0 := by
  refine ⟨_, lo_C (fun n i s => wX_maps_21 post p q fa sp n (nI s) (nI i)) (fun m => pv_ct (fa p.toNatClampNeg) (fa q.toNatClampNeg) m) 3125 (fun n => br_t ps_me h) (fun n i s hi t f => br_f (ps_m hi) ⟨hp, hq, xv_cont (by omega) (ps_br (fun b => ?_) (fun b => ?_))⟩)⟩
  · rw [tp_ct] at b
    exact nm_r (nI_1 s) (nm_r (nI_1 i) (t b))
  · rw [tp_ct] at b
    exact nm_r (nI_1 i) (f b)
theorem yv_maps {post : Int32 → Prop} {fa ma ta : Nat → Int32} {p q : Int32} (hp : vp_in p 3) (hq : vp_in q 3) (h : post (nI (ps_C (fun m => pv_ct (fa p.toNatClampNeg) (fa q.toNatClampNeg) m) 3125))) : ∃ n, wY_maps_23 post p q fa ma ta n 0 0 :=
  ⟨_, lo_C (fun n i s => wY_maps_23 post p q fa ma ta n (nI s) (nI i)) (fun m => pv_ct (fa p.toNatClampNeg) (fa q.toNatClampNeg) m) 3125 (fun n => br_t ps_me h) (fun n i s hi t f => br_f (ps_m hi) (yv_cont hp hq (by omega) (ps_br (fun b => nm_r (nI_1 s) (nm_r (nI_1 i) (t b))) (fun b => nm_r (nI_1 i) (f b)))))⟩
def pv_sm (F T : Int32) (m : Nat) : Bool := decide (pv_ta m 31 = 31) && (pv_ct F T m && pv_bk F T m)
theorem xv_sameness {post : Int32 → Prop} {F T : Int32} {m : Nat} (hm : m < 2 ^ 31) (h : post (ps_b (pv_sm F T m))) : wpX_isSameness post F T (nI m) := by
  unfold wpX_isSameness
  unfold pv_sm at h
  refine xv_taken (V := 31) hm (br_c (fun e => xv_cont hm (ps_br (fun b1 => xv_back hm (ps_br (fun b2 => ?_) (fun b2 => ?_))) (fun b1 => ?_))) (fun e => ?_))
  · have e2 := (ps_ni (b := 31) (pv_ta_lt m 31) (by decide)).mp e
    rw [tp_ct] at b1
    rw [decide_eq_true e2, b1, b2] at h
    exact h
  · have e2 := (ps_ni (b := 31) (pv_ta_lt m 31) (by decide)).mp e
    rw [tp_ct] at b1
    rw [decide_eq_true e2, b1, b2] at h
    exact h
  · have e2 := (ps_ni (b := 31) (pv_ta_lt m 31) (by decide)).mp e
    rw [tp_ct] at b1
    rw [decide_eq_true e2, b1] at h
    exact h
  · have e2 : ¬ pv_ta m 31 = 31 := fun q => e ((ps_ni (b := 31) (pv_ta_lt m 31) (by decide)).mpr q)
    rw [decide_eq_false e2] at h
    exact h
theorem xv_same {post : Int32 → Prop} {fa sp : Nat → Int32} {p q : Int32} (hp : vp_in p 3) (hq : vp_in q 3) (h : post (nI (ps_C (fun m => pv_sm (fa p.toNatClampNeg) (fa q.toNatClampNeg) m) 3125))) : ∃ n, wX_same_21 post p q fa sp n 0 0 :=
  ⟨_, lo_C (fun n i s => wX_same_21 post p q fa sp n (nI s) (nI i)) (fun m => pv_sm (fa p.toNatClampNeg) (fa q.toNatClampNeg) m) 3125 (fun n => br_t ps_me h) (fun n i s hi t f => br_f (ps_m hi) ⟨hp, hq, xv_sameness (by omega) (ps_br (fun b => nm_r (nI_1 s) (nm_r (nI_1 i) (t b))) (fun b => nm_r (nI_1 i) (f b)))⟩)⟩
theorem yv_same {post : Int32 → Prop} {fa ma ta : Nat → Int32} {p q : Int32} (hp : vp_in p 3) (hq : vp_in q 3) (h : post (nI (ps_C (fun m => pv_sm (fa p.toNatClampNeg) (fa q.toNatClampNeg) m) 3125))) : ∃ n, wY_same_23 post p q fa ma ta n 0 0 := by
  refine ⟨_, lo_C (fun n i s => wY_same_23 post p q fa ma ta n (nI s) (nI i)) (fun m => pv_sm (fa p.toNatClampNeg) (fa q.toNatClampNeg) m) 3125 (fun n => br_t ps_me h) (fun n i s hi t f => br_f (ps_m hi) (yv_taken (V := 31) (by omega) (br_c (fun e => yv_cont hp hq (by omega) (ps_br (fun b1 => yv_back hp hq (by omega) (ps_br (fun b2 => nm_r (nI_1 s) (nm_r (nI_1 i) (t ?_))) (fun b2 => nm_r (nI_1 i) (f ?_)))) (fun b1 => nm_r (nI_1 i) (f ?_)))) (fun e => nm_r (nI_1 i) (f ?_)))))⟩
  · have e2 := (ps_ni (b := 31) (pv_ta_lt i 31) (by decide)).mp e
    unfold pv_sm; rw [decide_eq_true e2, b1, b2]; rfl
  · have e2 := (ps_ni (b := 31) (pv_ta_lt i 31) (by decide)).mp e
    unfold pv_sm; rw [decide_eq_true e2, b1, b2]; rfl
  · have e2 := (ps_ni (b := 31) (pv_ta_lt i 31) (by decide)).mp e
    unfold pv_sm; rw [decide_eq_true e2, b1]; rfl
  · have e2 : ¬ pv_ta i 31 = 31 := fun q => e ((ps_ni (b := 31) (pv_ta_lt i 31) (by decide)).mpr q)
    unfold pv_sm; rw [decide_eq_false e2]; rfl
def pv_cc (F : Int32) (k : Int32) (V : Nat) : Bool := decide (0 < V) && (decide (nI (ps_C (fun x => V.testBit x) 5) = k) && pv_chx F V)
theorem xv_chains {post : Int32 → Prop} {fa sp : Nat → Int32} {p k : Int32} (hp : vp_in p 3) (h : post (nI (ps_C (pv_cc (fa p.toNatClampNeg) k) 32))) : ∃ n, wX_chains_14 post p k fa sp n 0 1 := by
  refine ⟨_, lo_C1 (fun n i s => wX_chains_14 post p k fa sp n (nI s) (nI i)) (pv_cc (fa p.toNatClampNeg) k) 31 rfl (fun n => br_t ps_32e h) (fun n i s h0 hi t f => br_f (ps_32 hi) (xv_count (br_c (fun e => ⟨hp, xv_chain (ps_br (fun b => nm_r (nI_1 s) (nm_r (nI_1 i) (t ?_))) (fun b => nm_r (nI_1 i) (f ?_)))⟩) (fun e => nm_r (nI_1 i) (f ?_)))))⟩
  · rw [ps_sizes i hi] at e
    unfold pv_cc; rw [decide_eq_true h0, decide_eq_true e, b]; rfl
  · rw [ps_sizes i hi] at e
    unfold pv_cc; rw [decide_eq_true h0, decide_eq_true e, b]; rfl
  · rw [ps_sizes i hi] at e
    unfold pv_cc; rw [decide_eq_true h0, decide_eq_false e]; rfl
theorem yv_chains {post : Int32 → Prop} {fa ma ta : Nat → Int32} {p k : Int32} (hp : vp_in p 3) (h : post (nI (ps_C (pv_cc (fa p.toNatClampNeg) k) 32))) : ∃ n, wY_chains_15 post p k fa ma ta n 0 1 := by
  refine ⟨_, lo_C1 (fun n i s => wY_chains_15 post p k fa ma ta n (nI s) (nI i)) (pv_cc (fa p.toNatClampNeg) k) 31 rfl (fun n => br_t ps_32e h) (fun n i s h0 hi t f => br_f (ps_32 hi) (yv_size hi (br_c (fun e => yv_chain hp (ps_br (fun b => nm_r (nI_1 s) (nm_r (nI_1 i) (t ?_))) (fun b => nm_r (nI_1 i) (f ?_)))) (fun e => nm_r (nI_1 i) (f ?_)))))⟩
  · rw [← tp_ch] at b
    unfold pv_cc; rw [decide_eq_true h0, decide_eq_true e, b]; rfl
  · rw [← tp_ch] at b
    unfold pv_cc; rw [decide_eq_true h0, decide_eq_true e, b]; rfl
  · unfold pv_cc; rw [decide_eq_true h0, decide_eq_false e]; rfl
theorem ps_sb0 (k : Int32) (l : Nat) : nI l = k ↔ k - nI l = 0 := by
  constructor
  · intro h; rw [h]; exact Int32.sub_self k
  · intro h; grind
theorem ps_sb1 (k : Int32) (l : Nat) : k - nI l + (-1) = k - nI (l + 1) := by
  rw [← nI_1]; grind
theorem v_openAt {fa sp ma ta : Nat → Int32} {p k : Int32} (hp : vp_in p 3) : ∀ d i l : Nat, i + d = 32 → ∃ r : Int32, (∀ post : Int32 → Prop, post r → wX_openAt_14 post p k fa sp (d + 1) (nI l) (nI i)) ∧ (∀ post : Int32 → Prop, post r → wY_openAt_15 post p fa ma ta (d + 1) (k - nI l) (nI i)) := by
  intro d
  induction d with
  | zero =>
    intro i l h
    obtain rfl : i = 32 := by omega
    exact ⟨-3, fun post q => br_t ps_32e q, fun post q => br_t ps_32e q⟩
  | succ d ih =>
    intro i l h
    have hi : i < 32 := by omega
    cases b : bt (fa p.toNatClampNeg) i
    · obtain ⟨r, hX, hY⟩ := ih (i + 1) l (by omega)
      refine ⟨r, fun post q => br_f (ps_32 hi) ⟨hp, hx_has hi ?_⟩, fun post q => br_f (ps_32 hi) ⟨hp, hy_in hi ?_⟩⟩
      · rw [b]; exact br_t rfl (nm_r (nI_1 i) (hX post q))
      · rw [b]; exact br_t rfl (nm_r (nI_1 i) (hY post q))
    · by_cases e : nI l = k
      · refine ⟨nI i, fun post q => br_f (ps_32 hi) ⟨hp, hx_has hi ?_⟩, fun post q => br_f (ps_32 hi) ⟨hp, hy_in hi ?_⟩⟩
        · rw [b]; exact br_f (by decide) (br_t e q)
        · rw [b]; exact br_f (by decide) (br_t ((ps_sb0 k l).mp e) q)
      · obtain ⟨r, hX, hY⟩ := ih (i + 1) (l + 1) (by omega)
        refine ⟨r, fun post q => br_f (ps_32 hi) ⟨hp, hx_has hi ?_⟩, fun post q => br_f (ps_32 hi) ⟨hp, hy_in hi ?_⟩⟩
        · rw [b]; exact br_f (by decide) (br_f e (nm_r (nI_1 l) (nm_r (nI_1 i) (hX post q))))
        · rw [b]; exact br_f (by decide) (br_f (fun z => e ((ps_sb0 k l).mpr z)) (nm_r (ps_sb1 k l) (nm_r (nI_1 i) (hY post q))))
