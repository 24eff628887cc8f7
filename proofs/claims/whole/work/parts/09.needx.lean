/-! needed: the component's walk -/
theorem xv_all {post : Int32 → Prop} {fa sp : Nat → Int32} {F : Int32} (hS : ∀ j, j < 32 → sp j = nI (pv_sp j)) (h : post (nI (nd_al F))) : wpX_allSplits post (fa, sp) F := by
  unfold wpX_allSplits
  exact ⟨_, lo_O (fun n i s => wX_allSplits_4 post F fa sp n (nI s) (nI i)) 0 (bt F) pv_sp 32 (fun n => br_t ps_32e h) (fun n i s hi t f => br_f (ps_32 hi) (hx_has hi (ps_br (fun b => ⟨vp_in_nI hi (by decide), nm_r (by rw [nI_clamp (by omega), hS i hi, ps_or]) (nm_r (nI_1 i) (t b))⟩) (fun b => nm_r (nI_1 i) (f b)))))⟩
theorem ps_n0 {a : Nat} (ha : a < 32) : nI a = 0 ↔ a = 0 := ps_ni (b := 0) ha (by decide)
theorem xv_chosen {post : Int32 → Prop} {a b : Nat} (ha : a < 32) (hb : b < 32) (h : post (nI (nd_ch a + nd_ch b))) : wpX_countChosen post (nI a) (nI b) := by
  unfold wpX_countChosen
  unfold nd_ch at h
  refine br_c (fun e => ?_) (fun e => ?_)
  · rw [ps_n0 ha] at e
    rw [if_pos e] at h
    unfold wX_countChosen_9
    refine br_c (fun e2 => ?_) (fun e2 => ?_)
    · rw [ps_n0 hb] at e2
      rw [if_pos e2] at h; exact h
    · rw [ps_n0 hb] at e2
      rw [if_neg e2] at h; exact h
  · rw [ps_n0 ha] at e
    rw [if_neg e] at h
    unfold wX_countChosen_9
    refine br_c (fun e2 => ?_) (fun e2 => ?_)
    · rw [ps_n0 hb] at e2
      rw [if_pos e2] at h; exact h
    · rw [ps_n0 hb] at e2
      rw [if_neg e2] at h; exact h
def nd_g2 (sp : Nat → Int32) (F M : Int32) (c d : Nat) : Prop := bt F c = true ∧ bt F d = true ∧ ps_wi M (sp (nI c).toNatClampNeg ||| sp (nI d).toNatClampNeg) = true
def nd_R2 (c d n : Nat) : Prop := n = nd_ch c + nd_ch d
theorem nd_ch1 (a : Nat) : nd_ch a ≤ 1 := by unfold nd_ch; split <;> omega
theorem xv_two {post : Int32 → Prop} {fa sp : Nat → Int32} {F M : Int32} (h : ∀ v, nd_E (nd_g2 sp F M) nd_R2 v → post (nI v)) : wpX_fewestOfTwo post (fa, sp) F M := by
  unfold wpX_fewestOfTwo
  refine pk_loop (fun n i v => wX_fewestOfTwo_5 post F M fa sp n (nI v) (nI i)) (fun i v => nd_I (nd_g2 sp F M) nd_R2 i i v) 32 0 5 (by omega) (nd_init _ _) (fun n v I => br_t ps_32e (h v (nd_end I))) ?_
  intro n i v hi I w
  refine br_f (ps_32 hi) (pk_loop (fun n' j v => wX_fewestOfTwo_16 post (wX_fewestOfTwo_5 post F M fa sp n) F M (nI i) fa sp n' (nI v) (nI j)) (fun j v => nd_I (nd_g2 sp F M) nd_R2 i j v) 32 i v (by omega) I (fun n' v I => br_t ps_32e (nm_r (nI_1 i) (w v (nd_next I)))) ?_)
  intro n' j v hj I w'
  have v5 := I.1
  refine br_f (ps_32 hj) (hx_has hi (ps_br (fun b1 => hx_has hj (ps_br (fun b2 => ⟨vp_in_nI hi (by decide), vp_in_nI hj (by decide), xv_within (ps_br (fun b3 => xv_chosen hi hj (br_c (fun e => ?_) (fun e => ?_))) (fun b3 => nm_r (nI_1 j) (w' v (nd_skip I ?_))))⟩) (fun b2 => nm_r (nI_1 j) (w' v (nd_skip I ?_))))) (fun b1 => nm_r (nI_1 j) (w' v (nd_skip I ?_)))))
  · have c1 := nd_ch1 i
    have c2 := nd_ch1 j
    rw [nI_leI (by omega) (by omega)] at e
    exact nm_r (nI_1 j) (w' v (nd_keep I rfl e))
  · have c1 := nd_ch1 i
    have c2 := nd_ch1 j
    rw [nI_leI (by omega) (by omega)] at e
    exact nm_r (nI_1 j) (w' _ (nd_take I hi hj ⟨b1, b2, b3⟩ rfl (by omega)))
  · rintro ⟨_, _, z⟩; rw [b3] at z; exact absurd z (by decide)
  · rintro ⟨_, z, _⟩; rw [b2] at z; exact absurd z (by decide)
  · rintro ⟨z, _, _⟩; rw [b1] at z; exact absurd z (by decide)
def nd_g1 (F : Int32) (a b : Nat) : Prop := bt F a = true ∧ bt F b = true
def nd_R1 (sp : Nat → Int32) (F A : Int32) (a b n : Nat) : Prop := ∃ m, nd_E (nd_g2 sp F (A &&& ((sp (nI a).toNatClampNeg ||| sp (nI b).toNatClampNeg) ^^^ (-1)))) nd_R2 m ∧ n = nd_ch a + nd_ch b + m
theorem xv_few {post : Int32 → Prop} {fa sp : Nat → Int32} {F : Int32} (hS : ∀ j, j < 32 → sp j = nI (pv_sp j)) (h : ∀ v, nd_E (nd_g1 F) (nd_R1 sp F (nI (nd_al F))) v → post (nI v)) : wpX_fewestSets post (fa, sp) F := by
  unfold wpX_fewestSets
  refine xv_all hS ?_
  refine pk_loop (fun n i v => wX_fewestSets_11 post F (nI (nd_al F)) fa sp n (nI v) (nI i)) (fun i v => nd_I (nd_g1 F) (nd_R1 sp F (nI (nd_al F))) i i v) 32 0 5 (by omega) (nd_init _ _) (fun n v I => br_t ps_32e (h v (nd_end I))) ?_
  intro n i v hi I w
  refine br_f (ps_32 hi) (pk_loop (fun n' j v => wX_fewestSets_22 post (wX_fewestSets_11 post F (nI (nd_al F)) fa sp n) F (nI (nd_al F)) (nI i) fa sp n' (nI v) (nI j)) (fun j v => nd_I (nd_g1 F) (nd_R1 sp F (nI (nd_al F))) i j v) 32 i v (by omega) I (fun n' v I => br_t ps_32e (nm_r (nI_1 i) (w v (nd_next I)))) ?_)
  intro n' j v hj I w'
  have v5 := I.1
  refine br_f (ps_32 hj) (hx_has hi (ps_br (fun b1 => hx_has hj (ps_br (fun b2 => ⟨vp_in_nI hi (by decide), vp_in_nI hj (by decide), nm_e (xv_two (fun m hm => xv_chosen hi hj (nm_r (nI_add _ _) (br_c (fun e => ?_) (fun e => ?_)))))⟩) (fun b2 => nm_r (nI_1 j) (w' v (nd_skip I ?_))))) (fun b1 => nm_r (nI_1 j) (w' v (nd_skip I ?_)))))
  · have c1 := nd_ch1 i
    have c2 := nd_ch1 j
    have c3 := hm.1
    rw [nI_leI (by omega) (by omega)] at e
    exact nm_r (nI_1 j) (w' v (nd_keep I ⟨m, hm, rfl⟩ e))
  · have c1 := nd_ch1 i
    have c2 := nd_ch1 j
    have c3 := hm.1
    rw [nI_leI (by omega) (by omega)] at e
    exact nm_r (nI_1 j) (w' _ (nd_take I hi hj ⟨b1, b2⟩ ⟨m, hm, rfl⟩ (by omega)))
  · rintro ⟨_, z⟩; rw [b2] at z; exact absurd z (by decide)
  · rintro ⟨z, _⟩; rw [b1] at z; exact absurd z (by decide)
/-! what the component's number means -/
theorem nd_sp2 {sp : Nat → Int32} (hS : ∀ j, j < 32 → sp j = nI (pv_sp j)) {c d : Nat} (hc : c < 32) (hd : d < 32) : sp (nI c).toNatClampNeg ||| sp (nI d).toNatClampNeg = nI (pv_sp c ||| pv_sp d) := by
  rw [nI_clamp (by omega), nI_clamp (by omega), hS c hc, hS d hd, ps_or]
theorem nd_pair {F : Int32} (h0 : bt F 0 = true) (L : List Nat) (hl : L.length ≤ 2) (hL : ∀ s, s ∈ L → s < 32 ∧ bt F s = true) : ∃ a b, a ≤ b ∧ b < 32 ∧ bt F a = true ∧ bt F b = true ∧ nd_ch a + nd_ch b ≤ L.length ∧ ∀ i, (∃ s, s ∈ L ∧ (pv_sp s).testBit i = true) → (pv_sp a ||| pv_sp b).testBit i = true := by
  match L, hl, hL with
  | [], _, _ => exact ⟨0, 0, by omega, by omega, h0, h0, by decide, fun i ⟨s, hs, _⟩ => absurd hs (by simp)⟩
  | [x], _, hL =>
    have hx := hL x (by simp)
    refine ⟨0, x, by omega, hx.1, h0, hx.2, by have := nd_ch1 x; show 0 + _ ≤ 1; omega, ?_⟩
    rintro i ⟨s, hs, z⟩
    obtain rfl : s = x := by simpa using hs
    rw [Nat.testBit_or, z, Bool.or_true]
  | [x, y], _, hL =>
    have hx := hL x (by simp)
    have hy := hL y (by simp)
    have cx := nd_ch1 x
    have cy := nd_ch1 y
    have key : ∀ i, (∃ s, s ∈ [x, y] ∧ (pv_sp s).testBit i = true) → (pv_sp x).testBit i = true ∨ (pv_sp y).testBit i = true := by
      rintro i ⟨s, hs, z⟩
      have hs2 : s = x ∨ s = y := by simpa using hs
      rcases hs2 with rfl | rfl
      · exact Or.inl z
      · exact Or.inr z
    rcases Nat.le_total x y with q | q
    · refine ⟨x, y, q, hy.1, hx.2, hy.2, by show _ ≤ 2; omega, fun i h => ?_⟩
      rw [Nat.testBit_or, Bool.or_eq_true]; exact key i h
    · refine ⟨y, x, q, hx.1, hy.2, hx.2, by show _ ≤ 2; omega, fun i h => ?_⟩
      rw [Nat.testBit_or, Bool.or_eq_true]; exact (key i h).symm
  | _ :: _ :: _ :: _, hl, _ => simp at hl
theorem nd_low {F : Int32} (hF : tp_T F) {sp : Nat → Int32} (hS : ∀ j, j < 32 → sp j = nI (pv_sp j)) {v : Nat} (h : nd_E (nd_g1 F) (nd_R1 sp F (nI (nd_al F))) v) : ∀ j, j < 5 → nd_Q F j → v ≤ j := by
  rintro j hj ⟨L, hl, hL, hc⟩
  rw [nd_covI (fun s hs => (hL s hs).1)] at hc
  obtain ⟨a, b, hab, hb, ka, kb, n1, c1⟩ := nd_pair hF.1 (L.take 2) (by simp; omega) (fun s hs => hL s (List.mem_of_mem_take hs))
  obtain ⟨c, d, hcd, hd, kc, kd, n2, c2⟩ := nd_pair hF.1 (L.drop 2) (by simp; omega) (fun s hs => hL s (List.mem_of_mem_drop hs))
  have hn : (L.take 2).length + (L.drop 2).length = L.length := by
    rw [← List.length_append, List.take_append_drop]
  obtain ⟨n, ⟨m, hm, rfl⟩, hv⟩ := h.2.1 a b hab hb ⟨ka, kb⟩
  obtain ⟨n', hn', hm'⟩ := hm.2.1 c d hcd hd ⟨kc, kd, by
    rw [nd_sp2 hS (by omega) hb, nd_sp2 hS (by omega) hd, ps_wi_iff]
    intro i hi z
    rw [b_and, b_xor, b_m1 i hi, ps_bt _ hi, ps_bt _ hi, Bool.and_eq_true] at z
    rw [ps_bt _ hi]
    obtain ⟨s, hs, e⟩ := hc i hi z.1
    rw [← List.take_append_drop 2 L] at hs
    rcases List.mem_append.mp hs with q | q
    · have := c1 i ⟨s, q, e⟩
      rw [this] at z; exact absurd z.2 (by decide)
    · exact c2 i ⟨s, q, e⟩⟩
  have e2 : n' = nd_ch c + nd_ch d := hn'
  omega
def nd_l (a : Nat) : List Nat := if a = 0 then [] else [a]
theorem nd_l_len (a : Nat) : (nd_l a).length = nd_ch a := by unfold nd_l nd_ch; split <;> rfl
theorem nd_l_mem {a s : Nat} (h : s ∈ nd_l a) : s = a := by
  unfold nd_l at h
  split at h
  · exact absurd h (by simp)
  · simpa using h
theorem nd_sp0 : pv_sp 0 = 0 := by decide +kernel
theorem nd_l_in {a i : Nat} (h : (pv_sp a).testBit i = true) : a ∈ nd_l a := by
  unfold nd_l
  split
  · rename_i e; rw [e, nd_sp0, Nat.zero_testBit] at h; exact absurd h (by decide)
  · simp
theorem nd_has {F : Int32} {sp : Nat → Int32} (hS : ∀ j, j < 32 → sp j = nI (pv_sp j)) {v : Nat} (h : nd_E (nd_g1 F) (nd_R1 sp F (nI (nd_al F))) v) (hv : v < 5) : nd_Q F v := by
  obtain ⟨a, b, ha, hb, ⟨ka, kb⟩, m, hm, e⟩ := h.2.2 hv
  obtain ⟨c, d, hc, hd, ⟨kc, kd, q⟩, e2⟩ := hm.2.2 (by omega)
  have e3 : m = nd_ch c + nd_ch d := e2
  have hL : ∀ s, s ∈ (nd_l a ++ nd_l b) ++ (nd_l c ++ nd_l d) → s < 32 ∧ bt F s = true := by
    intro s hs
    rcases List.mem_append.mp hs with hs | hs
    · rcases List.mem_append.mp hs with hs | hs
      · rw [nd_l_mem hs]; exact ⟨ha, ka⟩
      · rw [nd_l_mem hs]; exact ⟨hb, kb⟩
    · rcases List.mem_append.mp hs with hs | hs
      · rw [nd_l_mem hs]; exact ⟨hc, kc⟩
      · rw [nd_l_mem hs]; exact ⟨hd, kd⟩
  refine ⟨(nd_l a ++ nd_l b) ++ (nd_l c ++ nd_l d), ?_, hL, ?_⟩
  · rw [List.length_append, List.length_append, List.length_append, nd_l_len, nd_l_len, nd_l_len, nd_l_len]; omega
  · rw [nd_covI (fun s hs => (hL s hs).1)]
    intro i hi z
    rw [nd_sp2 hS ha hb, nd_sp2 hS hc hd, ps_wi_iff] at q
    have q1 := q i hi
    rw [b_and, b_xor, b_m1 i hi, ps_bt _ hi, ps_bt _ hi, ps_bt _ hi, z, Bool.true_and, Nat.testBit_or, Nat.testBit_or] at q1
    cases za : (pv_sp a).testBit i
    · cases zb : (pv_sp b).testBit i
      · rw [za, zb] at q1
        have q2 := q1 rfl
        rw [Bool.or_eq_true] at q2
        rcases q2 with q2 | q2
        · exact ⟨c, List.mem_append.mpr (Or.inr (List.mem_append.mpr (Or.inl (nd_l_in q2)))), q2⟩
        · exact ⟨d, List.mem_append.mpr (Or.inr (List.mem_append.mpr (Or.inr (nd_l_in q2)))), q2⟩
      · exact ⟨b, List.mem_append.mpr (Or.inl (List.mem_append.mpr (Or.inr (nd_l_in zb)))), zb⟩
    · exact ⟨a, List.mem_append.mpr (Or.inl (List.mem_append.mpr (Or.inl (nd_l_in za)))), za⟩
