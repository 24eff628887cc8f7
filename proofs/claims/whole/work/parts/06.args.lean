/-! what the arguments may be -/
def ps_ok (p : Int32) (N : Nat) : Bool := !decide (p < 0) && !decide (nI N ≤ p)
theorem ps_okE {p : Int32} {N : Nat} (hN : N < 2 ^ 31) (b : ps_ok p N = true) : ∃ j, j < N ∧ p = nI j := by
  unfold ps_ok at b
  rw [Bool.and_eq_true] at b
  rcases pk_ix p hN with h | h | h
  · rw [ps_yd h] at b; exact absurd b.1 (by decide)
  · rw [ps_yd h] at b; exact absurd b.2 (by decide)
  · exact h
theorem ps_okx {p : Int32} {N : Nat} {post : Int32 → Prop} (h : post (ps_b (ps_ok p N))) : (p < 0 → post 0) ∧ (¬ p < 0 → ((nI N ≤ p → post 0) ∧ (¬ nI N ≤ p → post 1))) := by
  unfold ps_ok at h
  refine br_c (fun a => ?_) (fun a => br_c (fun c => ?_) (fun c => ?_))
  · rw [ps_yd a] at h; exact h
  · rw [ps_nd a, ps_yd c] at h; exact h
  · rw [ps_nd a, ps_nd c] at h; exact h
theorem ps_oky {p : Int32} {M : Nat} (hM : M + 1 < 2 ^ 31) {post : Int32 → Prop} (h : post (ps_b (ps_ok p (M + 1)))) : (p < 0 → post 0) ∧ (¬ p < 0 → ((nI M < p → post 0) ∧ (¬ nI M < p → post 1))) := by
  have k := ps_okx h
  refine br_c (fun a => k.1 a) (fun a => ?_)
  obtain ⟨j, hj, rfl⟩ := nI_of a
  refine br_c (fun c => (k.2 a).1 ?_) (fun c => (k.2 a).2 ?_)
  · rw [nI_ltI (by omega) hj] at c
    exact nI_le (by omega) hj
  · rw [nI_ltI (by omega) hj] at c
    exact nI_ge (by omega) (by omega)
theorem xo_isSpace {post : Int32 → Prop} {p : Int32} (h : post (ps_b (ps_ok p 3))) : wpX_isSpace post p := by
  unfold wpX_isSpace
  exact ps_okx (N := 3) h
theorem yo_isSpace {post : Int32 → Prop} {p : Int32} {fa ma ta : Nat → Int32} (h : post (ps_b (ps_ok p 3))) : wpY_isSpace post (fa, ma, ta) p := by
  unfold wpY_isSpace
  exact ps_oky (M := 2) (by decide) h
theorem xt_isSpace {A B : Prop} {p : Int32} (b : ps_ok p 3 = true) (h : B) : wpX_isSpace (fun r => (r = 0 → A) ∧ (¬ r = 0 → B)) p := xo_isSpace (ps_br (fun _ => h) (fun c => absurd (c.symm.trans b) (by decide)))
theorem xf_isSpace {A B : Prop} {p : Int32} (b : ps_ok p 3 = false) (h : A) : wpX_isSpace (fun r => (r = 0 → A) ∧ (¬ r = 0 → B)) p := xo_isSpace (ps_br (fun c => absurd (b.symm.trans c) (by decide)) (fun _ => h))
theorem yt_isSpace {A B : Prop} {p : Int32} {fa ma ta : Nat → Int32} (b : ps_ok p 3 = true) (h : B) : wpY_isSpace (fun r => (r = 0 → A) ∧ (¬ r = 0 → B)) (fa, ma, ta) p := yo_isSpace (ps_br (fun _ => h) (fun c => absurd (c.symm.trans b) (by decide)))
theorem yf_isSpace {A B : Prop} {p : Int32} {fa ma ta : Nat → Int32} (b : ps_ok p 3 = false) (h : A) : wpY_isSpace (fun r => (r = 0 → A) ∧ (¬ r = 0 → B)) (fa, ma, ta) p := yo_isSpace (ps_br (fun c => absurd (b.symm.trans c) (by decide)) (fun _ => h))
theorem xo_isSet {post : Int32 → Prop} {p : Int32} (h : post (ps_b (ps_ok p 32))) : wpX_isSet post p := by
  unfold wpX_isSet
  exact ps_okx (N := 32) h
theorem yo_isSet {post : Int32 → Prop} {p : Int32} {fa ma ta : Nat → Int32} (h : post (ps_b (ps_ok p 32))) : wpY_isSet post (fa, ma, ta) p := by
  unfold wpY_isSet
  exact ps_oky (M := 31) (by decide) h
theorem xt_isSet {A B : Prop} {p : Int32} (b : ps_ok p 32 = true) (h : B) : wpX_isSet (fun r => (r = 0 → A) ∧ (¬ r = 0 → B)) p := xo_isSet (ps_br (fun _ => h) (fun c => absurd (c.symm.trans b) (by decide)))
theorem xf_isSet {A B : Prop} {p : Int32} (b : ps_ok p 32 = false) (h : A) : wpX_isSet (fun r => (r = 0 → A) ∧ (¬ r = 0 → B)) p := xo_isSet (ps_br (fun c => absurd (b.symm.trans c) (by decide)) (fun _ => h))
theorem yt_isSet {A B : Prop} {p : Int32} {fa ma ta : Nat → Int32} (b : ps_ok p 32 = true) (h : B) : wpY_isSet (fun r => (r = 0 → A) ∧ (¬ r = 0 → B)) (fa, ma, ta) p := yo_isSet (ps_br (fun _ => h) (fun c => absurd (c.symm.trans b) (by decide)))
theorem yf_isSet {A B : Prop} {p : Int32} {fa ma ta : Nat → Int32} (b : ps_ok p 32 = false) (h : A) : wpY_isSet (fun r => (r = 0 → A) ∧ (¬ r = 0 → B)) (fa, ma, ta) p := yo_isSet (ps_br (fun c => absurd (b.symm.trans c) (by decide)) (fun _ => h))
theorem xo_isPoint {post : Int32 → Prop} {p : Int32} (h : post (ps_b (ps_ok p 5))) : wpX_isPoint post p := by
  unfold wpX_isPoint
  exact ps_okx (N := 5) h
theorem yo_isPoint {post : Int32 → Prop} {p : Int32} {fa ma ta : Nat → Int32} (h : post (ps_b (ps_ok p 5))) : wpY_isPoint post (fa, ma, ta) p := by
  unfold wpY_isPoint
  exact ps_oky (M := 4) (by decide) h
theorem xt_isPoint {A B : Prop} {p : Int32} (b : ps_ok p 5 = true) (h : B) : wpX_isPoint (fun r => (r = 0 → A) ∧ (¬ r = 0 → B)) p := xo_isPoint (ps_br (fun _ => h) (fun c => absurd (c.symm.trans b) (by decide)))
theorem xf_isPoint {A B : Prop} {p : Int32} (b : ps_ok p 5 = false) (h : A) : wpX_isPoint (fun r => (r = 0 → A) ∧ (¬ r = 0 → B)) p := xo_isPoint (ps_br (fun c => absurd (b.symm.trans c) (by decide)) (fun _ => h))
theorem yt_isPoint {A B : Prop} {p : Int32} {fa ma ta : Nat → Int32} (b : ps_ok p 5 = true) (h : B) : wpY_isPoint (fun r => (r = 0 → A) ∧ (¬ r = 0 → B)) (fa, ma, ta) p := yo_isPoint (ps_br (fun _ => h) (fun c => absurd (c.symm.trans b) (by decide)))
theorem yf_isPoint {A B : Prop} {p : Int32} {fa ma ta : Nat → Int32} (b : ps_ok p 5 = false) (h : A) : wpY_isPoint (fun r => (r = 0 → A) ∧ (¬ r = 0 → B)) (fa, ma, ta) p := yo_isPoint (ps_br (fun c => absurd (b.symm.trans c) (by decide)) (fun _ => h))
theorem xo_isMap {post : Int32 → Prop} {p : Int32} (h : post (ps_b (ps_ok p 3125))) : wpX_isMap post p := by
  unfold wpX_isMap
  exact ps_okx (N := 3125) h
theorem yo_isMap {post : Int32 → Prop} {p : Int32} {fa ma ta : Nat → Int32} (h : post (ps_b (ps_ok p 3125))) : wpY_isMap post (fa, ma, ta) p := by
  unfold wpY_isMap
  exact ps_oky (M := 3124) (by decide) h
theorem xt_isMap {A B : Prop} {p : Int32} (b : ps_ok p 3125 = true) (h : B) : wpX_isMap (fun r => (r = 0 → A) ∧ (¬ r = 0 → B)) p := xo_isMap (ps_br (fun _ => h) (fun c => absurd (c.symm.trans b) (by decide)))
theorem xf_isMap {A B : Prop} {p : Int32} (b : ps_ok p 3125 = false) (h : A) : wpX_isMap (fun r => (r = 0 → A) ∧ (¬ r = 0 → B)) p := xo_isMap (ps_br (fun c => absurd (b.symm.trans c) (by decide)) (fun _ => h))
theorem yt_isMap {A B : Prop} {p : Int32} {fa ma ta : Nat → Int32} (b : ps_ok p 3125 = true) (h : B) : wpY_isMap (fun r => (r = 0 → A) ∧ (¬ r = 0 → B)) (fa, ma, ta) p := yo_isMap (ps_br (fun _ => h) (fun c => absurd (c.symm.trans b) (by decide)))
theorem yf_isMap {A B : Prop} {p : Int32} {fa ma ta : Nat → Int32} (b : ps_ok p 3125 = false) (h : A) : wpY_isMap (fun r => (r = 0 → A) ∧ (¬ r = 0 → B)) (fa, ma, ta) p := yo_isMap (ps_br (fun c => absurd (b.symm.trans c) (by decide)) (fun _ => h))
theorem ps_okI {p : Int32} (b : ps_ok p 3 = true) : vp_in p 3 := by
  obtain ⟨j, hj, rfl⟩ := ps_okE (by decide) b
  exact vp_in_nI hj (by decide)
theorem ps_okL {p : Int32} (b : ps_ok p 3 = true) : p.toNatClampNeg < 3 := by
  obtain ⟨j, hj, rfl⟩ := ps_okE (by decide) b
  rw [nI_clamp (by omega)]
  exact hj
theorem yb_1 {post : Int32 → Prop} {p q m : Int32} {fa ma ta : Nat → Int32} (b : ps_ok p 3 = false) (h : post (-1)) : wpY_bad post (fa, ma, ta) p q m := by
  unfold wpY_bad
  exact yf_isSpace b h
theorem yb_2 {post : Int32 → Prop} {p q m : Int32} {fa ma ta : Nat → Int32} (b : ps_ok p 3 = true) (b2 : ps_ok q 3 = false) (h : post (-1)) : wpY_bad post (fa, ma, ta) p q m := by
  unfold wpY_bad
  exact yt_isSpace b (yf_isSpace b2 h)
theorem yb_3 {post : Int32 → Prop} {p q m : Int32} {fa ma ta : Nat → Int32} (b : ps_ok p 3 = true) (b2 : ps_ok q 3 = true) (b3 : ps_ok m 3125 = false) (h : post (-2)) : wpY_bad post (fa, ma, ta) p q m := by
  unfold wpY_bad
  exact yt_isSpace b (yt_isSpace b2 (yf_isMap b3 h))
theorem yb_4 {post : Int32 → Prop} {p q m : Int32} {fa ma ta : Nat → Int32} (b : ps_ok p 3 = true) (b2 : ps_ok q 3 = true) (b3 : ps_ok m 3125 = true) (h : post 0) : wpY_bad post (fa, ma, ta) p q m := by
  unfold wpY_bad
  exact yt_isSpace b (yt_isSpace b2 (yt_isMap b3 h))
theorem xv_become {post : Int32 → SX → Prop} {fa sp : Nat → Int32} {p G : Int32} (hp : vp_in p 3) (h : post (nI (ps_C (bt G) 32)) (upd fa p.toNatClampNeg G, sp)) : wpX_become post (fa, sp) p G := by
  unfold wpX_become
  exact ⟨hp, nm_e (xv_count h)⟩
theorem yv_take {post : Int32 → SY → Prop} {fa ma ta : Nat → Int32} {p G : Int32} (hp : vp_in p 3) (h : post (nI (ps_C (bt G) 32)) (upd fa p.toNatClampNeg G, ma, ta)) : wpY_take post (fa, ma, ta) p G := by
  unfold wpY_take
  exact ⟨hp, nm_e (yv_count h)⟩
theorem xv_open {post : Int32 → Prop} {F : Int32} {S : Nat} (hT : tp_T F) (hS : S < 32) (h : post (nI (pv_with F S))) : wpX_leastSpace post (F ||| ((1 : Int32) <<< (nI S &&& 31))) := by
  rw [ps_one S hS]
  exact xv_leastSpace (by rw [tp_open hT hS]; exact h)
theorem xv_join {post : Int32 → Prop} {F G : Int32} (hT : tp_T F) (h : post (pv_join F G)) : wpX_leastSpace post (F ||| G) :=
  xv_leastSpace (by rw [tp_join hT G]; exact h)
/-! the splits of a set -/
def pv_sp (V : Nat) : Nat := ps_fo (fun x s => ps_O s (fun y => V.testBit x && !V.testBit y) (fun y => 2 ^ (5 * x + y)) 5) 0 5
theorem ps_53 : ∀ x, x < 5 → ∀ y, y < 5 → (5 * nI x) + nI y = nI (5 * x + y) := by decide +kernel
theorem xv_split {post : Int32 → Prop} {V : Nat} (h : post (nI (pv_sp V))) : wpX_splitPairs post (nI V) := by
  unfold wpX_splitPairs
  refine ⟨_, lo_fo (fun n x s => wX_splitPairs_4 post (nI V) n (nI s) (nI x)) (fun x s => ps_O s (fun y => V.testBit x && !V.testBit y) (fun y => 2 ^ (5 * x + y)) 5) 0 5 0 (fun n => br_t ps_5e h) ?_ 5 0 (by omega) (by omega)⟩
  intro n x s _ hx w
  refine br_f (ps_5 hx) ⟨_, lo_O (fun n' y s' => wX_splitPairs_11 post (wX_splitPairs_4 post (nI V) n) (nI V) (nI x) n' (nI s') (nI y)) s (fun y => V.testBit x && !V.testBit y) (fun y => 2 ^ (5 * x + y)) 5 (fun n' => br_t ps_5e (nm_r (nI_1 x) w)) (fun n' y s' hy t f => br_f (ps_5 hy) (hx_hasN (by omega) (ps_br (fun b1 => hx_hasN (by omega) (ps_br (fun b2 => nm_r (nI_1 y) (f (by rw [b1, b2]; rfl))) (fun b2 => nm_r (by rw [ps_53 x hx y hy]; exact ps_sb s' (by omega)) (nm_r (nI_1 y) (t (by rw [b1, b2]; rfl)))))) (fun b1 => nm_r (nI_1 y) (f (by rw [b1]; rfl))))))⟩
theorem xv_init (post : SX → Prop) (h : ∀ sp : Nat → Int32, (∀ j, j < 32 → sp j = nI (pv_sp j)) → post (upd (upd (upd (fun _ => 0) 0 (-2147483647)) 1 (-2147483647)) 2 (-2147483647), sp)) : wpX_init post := by
  unfold wpX_init
  have H : ∀ fa : Nat → Int32, (∀ sp : Nat → Int32, (∀ j, j < 32 → sp j = nI (pv_sp j)) → post (fa, sp)) → ∃ n, wX_init_42 post n 0 fa (fun _ => 0) := by
    intro fa hf
    refine loop_0 (fun n i sp => wX_init_42 post n (nI i) fa sp) (fun i sp => ∀ j, j < i → sp j = nI (pv_sp j)) 32 (fun _ => 0) (fun j hj => absurd hj (by omega)) (fun n s hs => br_t ps_32e (hf s hs)) ?_
    intro n i s hi hs w
    refine br_f (ps_32 hi) (xv_split ⟨vp_in_nI hi (by decide), nm_e (nm_r (nI_1 i) (w _ ?_))⟩)
    intro j hj
    rw [nI_clamp (by omega)]
    by_cases q : j = i
    · subst q; exact pk_us
    · rw [pk_un q]; exact hs j (by omega)
  refine ⟨4, ?_⟩
  refine br_f (by decide) ⟨vp_in_nI (n := 0) (by decide) (by decide), nm_e (nm_r (nI_1 0) ?_)⟩
  refine br_f (by decide) ⟨vp_in_nI (n := 1) (by decide) (by decide), nm_e (nm_r (nI_1 1) ?_)⟩
  refine br_f (by decide) ⟨vp_in_nI (n := 2) (by decide) (by decide), nm_e (nm_r (nI_1 2) ?_)⟩
  exact br_t (by decide) (H _ h)
theorem yv_init (post : SY → Prop) (h : post (upd (upd (upd (fun _ => 0) 0 (-2147483647)) 1 (-2147483647)) 2 (-2147483647), (fun _ => 0), (fun _ => 0))) : wpY_init post := by
  unfold wpY_init
  refine ⟨4, ?_⟩
  refine br_f (by decide) ⟨vp_in_nI (n := 0) (by decide) (by decide), nm_e (nm_r (nI_1 0) ?_)⟩
  refine br_f (by decide) ⟨vp_in_nI (n := 1) (by decide) (by decide), nm_e (nm_r (nI_1 1) ?_)⟩
  refine br_f (by decide) ⟨vp_in_nI (n := 2) (by decide) (by decide), nm_e (nm_r (nI_1 2) ?_)⟩
  exact br_t (by decide) h
