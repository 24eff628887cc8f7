/-! questions with loops of their own -/
def pv_st (F : Int32) (x y : Nat) : Bool := !decide (pv_pc F x = pv_pc F y) && (ps_wi (nI (pv_pc F x)) (nI (pv_pc F y)) || ps_wi (nI (pv_pc F y)) (nI (pv_pc F x)))
def pv_dx (F : Int32) : Bool := ps_all (fun x => ps_all (fun y => !decide (x < y) || !decide (pv_pc F x = pv_pc F y)) 5) 5
def pv_chx (F : Int32) (V : Nat) : Bool := ps_all (fun x => ps_all (fun y => !decide (x < y) || (!V.testBit x || (!V.testBit y || pv_st F x y))) 5) 5
def pv_ep (C : Int32) : Bool := ps_all (fun x => bt C (2 ^ x)) 5
def pv_k8 (q : Bool) (x : Int32) : Int32 := if q then x + 8 else x
def pv_k4 (q : Bool) (x : Int32) : Int32 := if q then x + 4 else x
def pv_k2 (q : Bool) (x : Int32) : Int32 := if q then x + 2 else x
def pv_k1 (q : Bool) : Int32 := if q then 1 else 0
theorem ps_ni {a b : Nat} (ha : a < 32) (hb : b < 32) : nI a = nI b ↔ a = b := nI_eq (by omega) (by omega)
theorem pv_pc_lt (F : Int32) (x : Nat) : pv_pc F x < 32 := pv_cl_lt F _
theorem xv_pc {post : Int32 → Prop} {F : Int32} {x : Nat} (hx : x < 5) (h : post (nI (pv_pc F x))) : wpX_closureOf post F ((1 : Int32) <<< (nI x &&& 31)) := xv_closureP hx h
theorem ps_nd {p : Prop} {d : Decidable p} (h : ¬ p) : (!decide p) = true := by rw [decide_eq_false h]; rfl
theorem ps_yd {p : Prop} {d : Decidable p} (h : p) : (!decide p) = false := by rw [decide_eq_true h]; rfl
theorem xv_differ {post : Int32 → Prop} {F : Int32} (h : post (ps_b (pv_dx F))) : wpX_closuresDiffer post F := by
  unfold wpX_closuresDiffer
  refine ⟨_, lo_ex (fun n x => wX_closuresDiffer_2 post F n (nI x)) (fun x => ps_all (fun y => !decide (x < y) || !decide (pv_pc F x = pv_pc F y)) 5) 5 (fun b => post (ps_b b)) h (fun n p => br_t ps_5e p) ?_⟩
  intro n x hx t f
  refine br_f (ps_5 hx) (nm_r (nI_1 x) ⟨_, lo_exS (fun n' y => wX_closuresDiffer_11 post (wX_closuresDiffer_2 post F n) F (nI x) n' (nI y)) (fun y => !decide (x < y) || !decide (pv_pc F x = pv_pc F y)) 5 (x + 1) (fun b => (b = true → wX_closuresDiffer_2 post F n (nI (x + 1))) ∧ (b = false → post 0)) ?_ (by omega) ⟨t, f⟩ (fun n' p => br_t ps_5e (nm_r (nI_1 x) (p.1 rfl))) ?_⟩)
  · rw [ps_all_iff]
    intro y hy
    rw [ps_nd (by omega : ¬ x < y)]; rfl
  · intro n' y hxy hy t' f'
    refine br_f (ps_5 hy) (xv_pc hx (xv_pc hy (br_c (fun e => ?_) (fun e => ?_))))
    · rw [ps_ni (pv_pc_lt F x) (pv_pc_lt F y)] at e
      exact (f' (by rw [ps_yd (by omega : x < y), ps_yd e]; rfl)).2 rfl
    · rw [ps_ni (pv_pc_lt F x) (pv_pc_lt F y)] at e
      exact nm_r (nI_1 y) (t' (by rw [ps_yd (by omega : x < y), ps_nd e]; rfl))
theorem xv_each {post : Int32 → Prop} {C : Int32} (h : post (ps_b (pv_ep C))) : wpX_hasEachPoint post C := by
  unfold wpX_hasEachPoint
  exact ⟨_, lo_ex (fun n x => wX_hasEachPoint_2 post C n (nI x)) (fun x => bt C (2 ^ x)) 5 (fun b => post (ps_b b)) h (fun n p => br_t ps_5e p) (fun n x hx t f => br_f (ps_5 hx) (hx_hasE (ps_one x (by omega)) (pv_p2 x hx) (ps_br (fun b => nm_r (nI_1 x) (t b)) (fun b => f b))))⟩
theorem xv_step {post : Int32 → Prop} {F : Int32} {x y : Nat} (hx : x < 5) (hy : y < 5) (h : post (ps_b (pv_st F x y))) : wpX_isStep post F (nI x) (nI y) := by
  unfold wpX_isStep
  unfold pv_st at h
  refine xv_pc hx (xv_pc hy (br_c (fun e => ?_) (fun e => xv_within (ps_br (fun b => ?_) (fun b => xv_within (ps_br (fun b' => ?_) (fun b' => ?_)))))))
  · rw [ps_ni (pv_pc_lt F x) (pv_pc_lt F y)] at e
    rw [ps_yd e] at h; exact h
  · rw [ps_ni (pv_pc_lt F x) (pv_pc_lt F y)] at e
    rw [ps_nd e, b] at h; exact h
  · rw [ps_ni (pv_pc_lt F x) (pv_pc_lt F y)] at e
    rw [ps_nd e, b, b'] at h; exact h
  · rw [ps_ni (pv_pc_lt F x) (pv_pc_lt F y)] at e
    rw [ps_nd e, b, b'] at h; exact h
theorem xv_chain {post : Int32 → Prop} {F : Int32} {V : Nat} (h : post (ps_b (pv_chx F V))) : wpX_isChain post F (nI V) := by
  unfold wpX_isChain
  refine ⟨_, lo_ex (fun n x => wX_isChain_2 post F (nI V) n (nI x)) (fun x => ps_all (fun y => !decide (x < y) || (!V.testBit x || (!V.testBit y || pv_st F x y))) 5) 5 (fun b => post (ps_b b)) h (fun n p => br_t ps_5e p) ?_⟩
  intro n x hx t f
  refine br_f (ps_5 hx) (nm_r (nI_1 x) ⟨_, lo_exS (fun n' y => wX_isChain_11 post (wX_isChain_2 post F (nI V) n) F (nI V) (nI x) n' (nI y)) (fun y => !decide (x < y) || (!V.testBit x || (!V.testBit y || pv_st F x y))) 5 (x + 1) (fun b => (b = true → wX_isChain_2 post F (nI V) n (nI (x + 1))) ∧ (b = false → post 0)) ?_ (by omega) ⟨t, f⟩ (fun n' p => br_t ps_5e (nm_r (nI_1 x) (p.1 rfl))) ?_⟩)
  · rw [ps_all_iff]
    intro y hy
    rw [ps_nd (by omega : ¬ x < y)]; rfl
  · intro n' y hxy hy t' f'
    refine br_f (ps_5 hy) (hx_hasN (by omega) (ps_br (fun b1 => hx_hasN (by omega) (ps_br (fun b2 => xv_step hx hy (ps_br (fun b3 => nm_r (nI_1 y) (t' ?_)) (fun b3 => (f' ?_).2 rfl))) (fun b2 => nm_r (nI_1 y) (t' ?_)))) (fun b1 => nm_r (nI_1 y) (t' ?_))))
    · rw [b3]; cases V.testBit x <;> cases V.testBit y <;> cases decide (x < y) <;> rfl
    · rw [b1, b2, b3, ps_yd (by omega : x < y)]; rfl
    · rw [b2]; cases V.testBit x <;> cases decide (x < y) <;> rfl
    · rw [b1]; cases decide (x < y) <;> rfl
theorem xk_55 {post : Int32 → Prop} {F C x : Int32} {fa sp : Nat → Int32} (h : post (pv_k8 (ps_wi F C) x)) : wX_kind_55 post F C x fa sp := by
  unfold wX_kind_55
  refine br_c (fun e => ?_) (fun e => ?_)
  · rw [show ps_wi F C = true from decide_eq_true e] at h; exact nm_e h
  · rw [show ps_wi F C = false from decide_eq_false e] at h; exact h
theorem xk_44 {post : Int32 → Prop} {F C x : Int32} {fa sp : Nat → Int32} (h : post (pv_k8 (ps_wi F C) (pv_k4 (decide (F &&& C = -2147483647)) x))) : wX_kind_44 post F C x fa sp := by
  unfold wX_kind_44
  refine br_c (fun e => ?_) (fun e => ?_)
  · rw [decide_eq_true e] at h; exact nm_e (xk_55 h)
  · rw [decide_eq_false e] at h; exact xk_55 h
theorem xk_34 {post : Int32 → Prop} {F C x : Int32} {fa sp : Nat → Int32} (h : post (pv_k8 (ps_wi F C) (pv_k4 (decide (F &&& C = -2147483647)) (pv_k2 (pv_ep C) x)))) : wX_kind_34 post F C x fa sp := by
  unfold wX_kind_34
  refine xv_each (ps_br (fun b => ?_) (fun b => ?_))
  · rw [b] at h; exact nm_e (xk_44 h)
  · rw [b] at h; exact xk_44 h
theorem xv_kind {post : Int32 → Prop} {F : Int32} {fa sp : Nat → Int32} (h : post (pv_k8 (ps_wi F (nI (pv_cx F))) (pv_k4 (decide (F &&& nI (pv_cx F) = -2147483647)) (pv_k2 (pv_ep (nI (pv_cx F))) (pv_k1 (pv_dx F)))))) : wpX_closedSets (fun r_5 => wpX_closuresDiffer (fun r_6 => ((r_6 = 0 → wX_kind_34 post F r_5 0 fa sp) ∧ (¬ r_6 = 0 → ∀ x4_15 : Int32, x4_15 = 0 + 1 → wX_kind_34 post F r_5 x4_15 fa sp))) F) F := by
  refine xv_closed (xv_differ (ps_br (fun b => ?_) (fun b => ?_)))
  · rw [b] at h; exact nm_r (e' := 1) (by decide) (xk_34 h)
  · rw [b] at h; exact xk_34 h
/-! the reference -/
theorem lo_b2 (W : Nat → Nat → Bool → Bool → Prop) (c d : Nat → Bool) (e : Nat) (hx : ∀ n, W (n + 1) e (ps_all c e) (ps_all d e)) (hs : ∀ n i s r, i < e → W n (i + 1) (s && c i) (r && d i) → W (n + 1) i s r) : W (e + 1) 0 true true := by
  have H : ∀ k i, i + k = e → W (k + 1) i (ps_all c i) (ps_all d i) := by
    intro k
    induction k with
    | zero => intro i h; obtain rfl : i = e := by omega
              exact hx 0
    | succ k ih => intro i h; exact hs _ _ _ _ (by omega) (ih (i + 1) (by omega))
  exact H e 0 (by omega)
def pv_dy (F : Int32) : Bool := ps_all (fun p => decide (p / 5 = p % 5) || !decide (pv_pc F (p / 5) = pv_pc F (p % 5))) 25
def pv_ey (F : Int32) : Bool := ps_all (fun p => decide (pv_pc F (p / 5) = 2 ^ (p / 5))) 25
def pv_chy (F : Int32) (V : Nat) : Bool := ps_all (fun p => !decide (p / 5 < p % 5) || (!V.testBit (p / 5) || (!V.testBit (p % 5) || pv_st F (p / 5) (p % 5)))) 25
theorem yk_145 {post : Int32 → Prop} {p z : Int32} {fa ma ta : Nat → Int32} (hp : vp_in p 3) (h : post (pv_k8 (decide (fa p.toNatClampNeg &&& nI (pv_cy (fa p.toNatClampNeg)) = fa p.toNatClampNeg)) z)) : wY_kind_145 post p z fa ma ta := by
  unfold wY_kind_145
  refine yv_both hp ⟨hp, br_c (fun e => ?_) (fun e => ?_)⟩
  · rw [decide_eq_true e] at h; exact h
  · rw [decide_eq_false e] at h; exact h
theorem yk_124 {post : Int32 → Prop} {p z : Int32} {fa ma ta : Nat → Int32} (hp : vp_in p 3) (h : post (pv_k8 (decide (fa p.toNatClampNeg &&& nI (pv_cy (fa p.toNatClampNeg)) = fa p.toNatClampNeg)) (pv_k4 (decide (fa p.toNatClampNeg &&& nI (pv_cy (fa p.toNatClampNeg)) = -2147483647)) z))) : wY_kind_124 post p z fa ma ta := by
  unfold wY_kind_124
  refine yv_both hp (br_c (fun e => ?_) (fun e => ?_))
  · rw [decide_eq_true e] at h; exact yk_145 hp h
  · rw [decide_eq_false e] at h; exact yk_145 hp h
theorem yk_109 {post : Int32 → Prop} {p z : Int32} {r : Bool} {fa ma ta : Nat → Int32} (hp : vp_in p 3) (h : post (pv_k8 (decide (fa p.toNatClampNeg &&& nI (pv_cy (fa p.toNatClampNeg)) = fa p.toNatClampNeg)) (pv_k4 (decide (fa p.toNatClampNeg &&& nI (pv_cy (fa p.toNatClampNeg)) = -2147483647)) (pv_k2 r z)))) : wY_kind_109 post p (ps_b r) z fa ma ta := by
  unfold wY_kind_109
  refine ps_br (fun b => ?_) (fun b => ?_)
  · rw [b] at h; exact yk_124 hp h
  · rw [b] at h; exact yk_124 hp h
theorem yk_69 {post : Int32 → Prop} {J : Int32 → Int32 → Int32 → Prop} {p z : Int32} {r : Bool} {i x : Nat} {fa ma ta : Nat → Int32} (hp : vp_in p 3) (hx : x < 5) (h : J z (ps_b (r && decide (pv_pc (fa p.toNatClampNeg) x = 2 ^ x))) (nI (i + 1))) : wY_kind_69 post J p (ps_b r) (nI i) (nI x) z fa ma ta := by
  unfold wY_kind_69
  refine ps_br (fun b => yv_pc hp hx (br_c (fun e => ?_) (fun e => ?_))) (fun b => ?_)
  · rw [ps_one x (by omega), ps_ni (pv_pc_lt _ x) (pv_p2 x hx)] at e
    rw [b, decide_eq_true e] at h
    exact nm_r (nI_1 i) h
  · rw [ps_one x (by omega), ps_ni (pv_pc_lt _ x) (pv_p2 x hx)] at e
    rw [b, decide_eq_false e] at h
    exact nm_r (nI_1 i) h
  · rw [b] at h
    exact nm_r (nI_1 i) h
theorem ps_d5 {i : Nat} (h : i < 25) : nI i / 5 = nI (i / 5) := pk_div (a := i) (d := 5) (by omega) (by decide) (by decide)
theorem ps_r5 {i : Nat} (h : i < 25) : nI i - nI i / 5 * 5 = nI (i % 5) := pk_rem (a := i) (d := 5) (by omega) (by decide) (by decide)
theorem yv_kind {post : Int32 → Prop} {p : Int32} {fa ma ta : Nat → Int32} (hp : vp_in p 3) (h : post (pv_k8 (decide (fa p.toNatClampNeg &&& nI (pv_cy (fa p.toNatClampNeg)) = fa p.toNatClampNeg)) (pv_k4 (decide (fa p.toNatClampNeg &&& nI (pv_cy (fa p.toNatClampNeg)) = -2147483647)) (pv_k2 (pv_ey (fa p.toNatClampNeg)) (pv_k1 (pv_dy (fa p.toNatClampNeg))))))) : ∃ n, wY_kind_17 post p fa ma ta n 1 1 0 := by
  refine ⟨_, lo_b2 (fun n i s r => wY_kind_17 post p fa ma ta n (ps_b s) (ps_b r) (nI i)) (fun q => decide (q / 5 = q % 5) || !decide (pv_pc (fa p.toNatClampNeg) (q / 5) = pv_pc (fa p.toNatClampNeg) (q % 5))) (fun q => decide (pv_pc (fa p.toNatClampNeg) (q / 5) = 2 ^ (q / 5))) 25 (fun n => br_t (nI_le (a := 25) (b := 25) (by decide) (by decide)) (ps_br (fun b => ?_) (fun b => ?_))) ?_⟩
  · unfold pv_dy at h
    rw [b] at h; exact yk_109 hp h
  · unfold pv_dy at h
    rw [b] at h; exact yk_109 hp h
  · intro n i s r hi w
    refine br_f (nI_ge (b := 25) hi (by decide)) ⟨ps_n50, nm_r (ps_d5 hi) ⟨ps_n50, nm_r (ps_r5 hi) (ps_br (fun b => br_c (fun e => ?_) (fun e => yv_pc hp (by omega) (yv_pc hp (by omega) (br_c (fun e2 => ?_) (fun e2 => ?_))))) (fun b => ?_))⟩⟩
    · rw [ps_ni (by omega) (by omega)] at e
      rw [b, decide_eq_true e] at w
      exact yk_69 hp (by omega) w
    · rw [ps_ni (by omega) (by omega)] at e
      rw [ps_ni (pv_pc_lt _ _) (pv_pc_lt _ _)] at e2
      rw [b, decide_eq_false e, decide_eq_true e2] at w
      exact yk_69 hp (by omega) w
    · rw [ps_ni (by omega) (by omega)] at e
      rw [ps_ni (pv_pc_lt _ _) (pv_pc_lt _ _)] at e2
      rw [b, decide_eq_false e, decide_eq_false e2] at w
      exact yk_69 hp (by omega) w
    · rw [b] at w
      exact yk_69 hp (by omega) w
theorem yv_chain {post : Int32 → Prop} {p : Int32} {V : Nat} {fa ma ta : Nat → Int32} (hp : vp_in p 3) (h : post (ps_b (pv_chy (fa p.toNatClampNeg) V))) : wpY_isChain post (fa, ma, ta) p (nI V) := by
  unfold wpY_isChain
  refine ⟨_, lo_ex (fun n i => wY_isChain_2 post p (nI V) fa ma ta n (nI i)) (fun q => !decide (q / 5 < q % 5) || (!V.testBit (q / 5) || (!V.testBit (q % 5) || pv_st (fa p.toNatClampNeg) (q / 5) (q % 5)))) 25 (fun b => post (ps_b b)) h (fun n z => br_t (nI_le (a := 25) (b := 25) (by decide) (by decide)) z) ?_⟩
  intro n i hi t f
  refine br_f (nI_ge (b := 25) hi (by decide)) ⟨ps_n50, nm_r (ps_d5 hi) ⟨ps_n50, nm_r (ps_r5 hi) (br_c (fun e => ?_) (fun e => hy_hasN (by omega) (ps_br (fun b1 => hy_hasN (by omega) (ps_br (fun b2 => yv_pc hp (by omega) (yv_pc hp (by omega) (br_c (fun e1 => ?_) (fun e1 => br_c (fun e2 => ?_) (fun e2 => br_c (fun e3 => ?_) (fun e3 => ?_)))))) (fun b2 => ?_))) (fun b1 => ?_))))⟩⟩
  · rw [nI_leI (by omega) (by omega)] at e
    exact nm_r (nI_1 i) (t (by rw [ps_nd (by omega : ¬ i / 5 < i % 5)]; rfl))
  · rw [nI_leI (by omega) (by omega)] at e
    rw [ps_ni (pv_pc_lt _ _) (pv_pc_lt _ _)] at e1
    exact f (by unfold pv_st; rw [ps_yd (by omega : i / 5 < i % 5), b1, b2, ps_yd e1]; rfl)
  · rw [ps_ni (pv_pc_lt _ _) (pv_pc_lt _ _)] at e1
    exact nm_r (nI_1 i) (t (by unfold pv_st; rw [ps_nd e1, show ps_wi (nI (pv_pc (fa p.toNatClampNeg) (i / 5))) (nI (pv_pc (fa p.toNatClampNeg) (i % 5))) = true from decide_eq_true e2]; cases decide (i / 5 < i % 5) <;> cases V.testBit (i / 5) <;> cases V.testBit (i % 5) <;> rfl))
  · rw [ps_ni (pv_pc_lt _ _) (pv_pc_lt _ _)] at e1
    exact nm_r (nI_1 i) (t (by unfold pv_st; rw [ps_nd e1, show ps_wi (nI (pv_pc (fa p.toNatClampNeg) (i % 5))) (nI (pv_pc (fa p.toNatClampNeg) (i / 5))) = true from decide_eq_true e3, Bool.or_true]; cases decide (i / 5 < i % 5) <;> cases V.testBit (i / 5) <;> cases V.testBit (i % 5) <;> rfl))
  · rw [nI_leI (by omega) (by omega)] at e
    rw [ps_ni (pv_pc_lt _ _) (pv_pc_lt _ _)] at e1
    exact f (by unfold pv_st; rw [ps_yd (by omega : i / 5 < i % 5), b1, b2, ps_nd e1, show ps_wi (nI (pv_pc (fa p.toNatClampNeg) (i / 5))) (nI (pv_pc (fa p.toNatClampNeg) (i % 5))) = false from decide_eq_false e2, show ps_wi (nI (pv_pc (fa p.toNatClampNeg) (i % 5))) (nI (pv_pc (fa p.toNatClampNeg) (i / 5))) = false from decide_eq_false e3]; rfl)
  · exact nm_r (nI_1 i) (t (by rw [b2]; cases decide (i / 5 < i % 5) <;> cases V.testBit (i / 5) <;> rfl))
  · exact nm_r (nI_1 i) (t (by rw [b1]; cases decide (i / 5 < i % 5) <;> rfl))
theorem ps_sz : ∀ V, V < 32 → ∀ i, i < 5 → (nI V >>> (nI i &&& 31)) &&& 1 = nI (if V.testBit i then 1 else 0) := by decide +kernel
theorem yv_size {post : Int32 → Prop} {V : Nat} {fa ma ta : Nat → Int32} (hV : V < 32) (h : post (nI (ps_C (fun x => V.testBit x) 5))) : wpY_size post (fa, ma, ta) (nI V) := by
  unfold wpY_size
  refine ⟨_, lo_C (fun n i s => wY_size_4 post (nI V) fa ma ta n (nI s) (nI i)) (fun x => V.testBit x) 5 (fun n => br_t ps_5e h) ?_⟩
  intro n i s hi t f
  refine br_f (ps_5 hi) ?_
  cases z : V.testBit i
  · exact nm_r (by rw [ps_sz V hV i hi, z, nI_add]; rfl) (nm_r (nI_1 i) (f z))
  · exact nm_r (by rw [ps_sz V hV i hi, z, nI_add]; rfl) (nm_r (nI_1 i) (t z))
/-! both sides the same -/
theorem ps_sizes : ∀ V, V < 32 → ps_C (bt (nI V)) 32 = ps_C (fun x => V.testBit x) 5 := by decide +kernel
theorem tp_d (F : Int32) : pv_dx F = pv_dy F := by
  apply ps_beq
  unfold pv_dx pv_dy
  rw [ps_all_iff, ps_all_iff]
  constructor
  · intro h p hp
    by_cases e : p / 5 = p % 5
    · rw [decide_eq_true e]; rfl
    · rw [decide_eq_false e, Bool.false_or]
      rcases Nat.lt_or_gt_of_ne e with q | q
      · have := (ps_all_iff _ _).mp (h (p / 5) (by omega)) (p % 5) (by omega)
        rw [ps_yd q, Bool.false_or] at this
        exact this
      · have := (ps_all_iff _ _).mp (h (p % 5) (by omega)) (p / 5) (by omega)
        rw [ps_yd q, Bool.false_or] at this
        by_cases e2 : pv_pc F (p / 5) = pv_pc F (p % 5)
        · rw [ps_yd e2.symm] at this; exact absurd this (by decide)
        · exact ps_nd e2
  · intro h x hx
    rw [ps_all_iff]
    intro y hy
    by_cases q : x < y
    · have := h (5 * x + y) (by omega)
      rw [show (5 * x + y) / 5 = x by omega, show (5 * x + y) % 5 = y by omega, decide_eq_false (by omega : ¬ x = y), Bool.false_or] at this
      rw [this, Bool.or_true]
    · rw [ps_nd q]; rfl
theorem tp_e {F : Int32} (hT : tp_T F) : pv_ep (nI (pv_cx F)) = pv_ey F := by
  apply ps_beq
  unfold pv_ep pv_ey
  rw [ps_all_iff, ps_all_iff]
  constructor
  · intro h p hp
    have := h (p / 5) (by omega)
    rw [tp_cx F (pv_p2 _ (by omega)), ← tp_pc hT (by omega)] at this
    exact decide_eq_true this
  · intro h x hx
    have := h (5 * x) (by omega)
    rw [decide_eq_true_iff, show 5 * x / 5 = x by omega, tp_pc hT hx] at this
    rw [tp_cx F (pv_p2 _ hx)]
    exact this
theorem tp_q (F C : Int32) : ps_wi F C = decide (F &&& C = F) := by
  apply ps_beq
  rw [ps_wi_iff, decide_eq_true_iff]
  constructor
  · intro h
    apply b_ext
    intro i hi
    rw [b_and]
    cases z : bt F i
    · rfl
    · rw [h i hi z]; rfl
  · intro h i hi a
    have e := congrArg (fun z => bt z i) h
    rw [b_and, a, Bool.true_and] at e
    exact e
theorem tp_ch (F : Int32) (V : Nat) : pv_chx F V = pv_chy F V := by
  apply ps_beq
  unfold pv_chx pv_chy
  rw [ps_all_iff, ps_all_iff]
  constructor
  · intro h p hp
    exact (ps_all_iff _ _).mp (h (p / 5) (by omega)) (p % 5) (by omega)
  · intro h x hx
    rw [ps_all_iff]
    intro y hy
    have := h (5 * x + y) (by omega)
    rw [show (5 * x + y) / 5 = x by omega, show (5 * x + y) % 5 = y by omega] at this
    exact this
