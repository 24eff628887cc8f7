def i_Rel (k : Nat) (u : SX) (v : SY) : Prop := u.1 = v.1 ∧ (∀ s, s < 3 → tp_T (u.1 s)) ∧ ∀ j, j < 32 → u.2 j = nI (pv_sp j)
theorem i_up {k : Nat} {u : SX} {v : SY} (h : i_Rel k u v) : i_Rel (k + 4) u v := h
theorem rl_up {k : Nat} {fa sp ma ta : Nat → Int32} {p G : Int32} (hT : ∀ s, s < 3 → tp_T (fa s)) (hS : ∀ j, j < 32 → sp j = nI (pv_sp j)) (hG : tp_T G) : i_Rel k (upd fa p.toNatClampNeg G, sp) (upd fa p.toNatClampNeg G, ma, ta) := by
  refine ⟨rfl, fun s hs => ?_, hS⟩
  show tp_T (upd fa p.toNatClampNeg G s)
  by_cases q : s = p.toNatClampNeg
  · rw [q, pk_us]; exact hG
  · rw [pk_un q]; exact hT s hs
theorem i_vc0 : wpX_init (fun u => wpY_init (fun v => i_Rel 0 u v)) := by
  refine xv_init _ (fun sp h => yv_init _ ⟨rfl, ?_, h⟩)
  intro s hs
  show tp_T (upd (upd (upd (fun _ => 0) 0 (-2147483647)) 1 (-2147483647)) 2 (-2147483647) s)
  rcases (by omega : s = 0 ∨ s = 1 ∨ s = 2) with rfl | rfl | rfl
  · exact tp_plain
  · exact tp_plain
  · exact tp_plain
theorem i_vc_plain {k : Nat} {u : SX} {v : SY} (I : i_Rel k u v) (hk : k + 4 ≤ 2048) (v1 : Int32) : wpX_plain (fun r u' => wpY_plain (fun r' v' => r' = r ∧ i_Rel (k + 4) u' v') v v1) u v1 := by
  obtain ⟨fa, sp⟩ := u
  obtain ⟨fb, ma, ta⟩ := v
  obtain ⟨e, hT, hS⟩ := I
  have e2 : fa = fb := e
  subst e2
  unfold wpX_plain wpY_plain
  dsimp only
  cases b : ps_ok v1 3
  · exact xf_isSpace b (yf_isSpace b ⟨rfl, rfl, hT, hS⟩)
  · have hp := ps_okI b
    exact xt_isSpace b (xv_become hp (yt_isSpace b (yv_take hp ⟨rfl, rl_up hT hS tp_plain⟩)))
theorem i_vc_loose {k : Nat} {u : SX} {v : SY} (I : i_Rel k u v) (hk : k + 4 ≤ 2048) (v1 : Int32) : wpX_loose (fun r u' => wpY_loose (fun r' v' => r' = r ∧ i_Rel (k + 4) u' v') v v1) u v1 := by
  obtain ⟨fa, sp⟩ := u
  obtain ⟨fb, ma, ta⟩ := v
  obtain ⟨e, hT, hS⟩ := I
  have e2 : fa = fb := e
  subst e2
  unfold wpX_loose wpY_loose
  dsimp only
  cases b : ps_ok v1 3
  · exact xf_isSpace b (yf_isSpace b ⟨rfl, rfl, hT, hS⟩)
  · have hp := ps_okI b
    exact xt_isSpace b (xv_become hp (yt_isSpace b (yv_take hp ⟨rfl, rl_up hT hS tp_loose⟩)))
theorem i_vc_open {k : Nat} {u : SX} {v : SY} (I : i_Rel k u v) (hk : k + 4 ≤ 2048) (v1 : Int32) (v2 : Int32) : wpX_open (fun r u' => wpY_open (fun r' v' => r' = r ∧ i_Rel (k + 4) u' v') v v1 v2) u v1 v2 := by
  obtain ⟨fa, sp⟩ := u
  obtain ⟨fb, ma, ta⟩ := v
  obtain ⟨e, hT, hS⟩ := I
  have e2 : fa = fb := e
  subst e2
  unfold wpX_open wpY_open
  dsimp only
  cases b : ps_ok v1 3
  · exact xf_isSpace b (yf_isSpace b ⟨rfl, rfl, hT, hS⟩)
  · have hp := ps_okI b
    have tF := hT _ (ps_okL b)
    cases c : ps_ok v2 32
    · exact xt_isSpace b (xf_isSet c (yt_isSpace b (yf_isSet c ⟨rfl, rfl, hT, hS⟩)))
    · obtain ⟨S, hS2, rfl⟩ := ps_okE (by decide) c
      exact xt_isSpace b (xt_isSet c ⟨hp, xv_open tF hS2 (xv_become hp (yt_isSpace b (yt_isSet c ⟨hp, yv_with (yv_take hp ⟨rfl, rl_up hT hS (tp_withT tF S)⟩)⟩)))⟩)
theorem i_vc_tie {k : Nat} {u : SX} {v : SY} (I : i_Rel k u v) (hk : k + 4 ≤ 2048) (v1 : Int32) (v2 : Int32) (v3 : Int32) : wpX_tie (fun r u' => wpY_tie (fun r' v' => r' = r ∧ i_Rel (k + 4) u' v') v v1 v2 v3) u v1 v2 v3 := by
  obtain ⟨fa, sp⟩ := u
  obtain ⟨fb, ma, ta⟩ := v
  obtain ⟨e, hT, hS⟩ := I
  have e2 : fa = fb := e
  subst e2
  unfold wpX_tie wpY_tie
  dsimp only
  cases b : ps_ok v1 3
  · exact xf_isSpace b (yf_isSpace b ⟨rfl, rfl, hT, hS⟩)
  · have hp := ps_okI b
    have tF := hT _ (ps_okL b)
    cases c : ps_ok v2 5
    · exact xt_isSpace b (xf_isPoint c (yt_isSpace b (yf_isPoint c ⟨rfl, rfl, hT, hS⟩)))
    · cases d : ps_ok v3 5
      · exact xt_isSpace b (xt_isPoint c (xf_isPoint d (yt_isSpace b (yt_isPoint c (yf_isPoint d ⟨rfl, rfl, hT, hS⟩)))))
      · obtain ⟨x, hx, rfl⟩ := ps_okE (by decide) c
        obtain ⟨y, hy, rfl⟩ := ps_okE (by decide) d
        exact xt_isSpace b (xt_isPoint c (xt_isPoint d ⟨hp, xv_tied hx hy (xv_become hp (yt_isSpace b (yt_isPoint c (yt_isPoint d ⟨hp, yv_tied hx hy (yv_take hp ⟨rfl, rl_up hT hS (tp_tie tF hx hy)⟩)⟩))))⟩))
theorem i_vc_turn {k : Nat} {u : SX} {v : SY} (I : i_Rel k u v) (hk : k + 4 ≤ 2048) (v1 : Int32) : wpX_turn (fun r u' => wpY_turn (fun r' v' => r' = r ∧ i_Rel (k + 4) u' v') v v1) u v1 := by
  obtain ⟨fa, sp⟩ := u
  obtain ⟨fb, ma, ta⟩ := v
  obtain ⟨e, hT, hS⟩ := I
  have e2 : fa = fb := e
  subst e2
  unfold wpX_turn wpY_turn
  dsimp only
  cases b : ps_ok v1 3
  · exact xf_isSpace b (yf_isSpace b ⟨rfl, rfl, hT, hS⟩)
  · have hp := ps_okI b
    have tF := hT _ (ps_okL b)
    refine xt_isSpace b ⟨hp, xv_closed (xv_become hp (yt_isSpace b ⟨hp, yv_turned ?_⟩))⟩
    rw [← tp_cxy]
    exact yv_take hp ⟨rfl, rl_up hT hS (tp_turn tF)⟩
theorem i_vc_copy {k : Nat} {u : SX} {v : SY} (I : i_Rel k u v) (hk : k + 4 ≤ 2048) (v1 : Int32) (v2 : Int32) : wpX_copy (fun r u' => wpY_copy (fun r' v' => r' = r ∧ i_Rel (k + 4) u' v') v v1 v2) u v1 v2 := by
  obtain ⟨fa, sp⟩ := u
  obtain ⟨fb, ma, ta⟩ := v
  obtain ⟨e, hT, hS⟩ := I
  have e2 : fa = fb := e
  subst e2
  unfold wpX_copy wpY_copy
  dsimp only
  cases b : ps_ok v1 3
  · exact xf_isSpace b (yf_isSpace b ⟨rfl, rfl, hT, hS⟩)
  · have hp := ps_okI b
    have tF := hT _ (ps_okL b)
    cases c : ps_ok v2 3
    · exact xt_isSpace b (xf_isSpace c (yt_isSpace b (yf_isSpace c ⟨rfl, rfl, hT, hS⟩)))
    · have hq := ps_okI c
      have tG := hT _ (ps_okL c)
      exact xt_isSpace b (xt_isSpace c ⟨hq, xv_become hp (yt_isSpace b (yt_isSpace c ⟨hq, yv_take hp ⟨rfl, rl_up hT hS tG⟩⟩))⟩)
theorem i_vc_join {k : Nat} {u : SX} {v : SY} (I : i_Rel k u v) (hk : k + 4 ≤ 2048) (v1 : Int32) (v2 : Int32) : wpX_join (fun r u' => wpY_join (fun r' v' => r' = r ∧ i_Rel (k + 4) u' v') v v1 v2) u v1 v2 := by
  obtain ⟨fa, sp⟩ := u
  obtain ⟨fb, ma, ta⟩ := v
  obtain ⟨e, hT, hS⟩ := I
  have e2 : fa = fb := e
  subst e2
  unfold wpX_join wpY_join
  dsimp only
  cases b : ps_ok v1 3
  · exact xf_isSpace b (yf_isSpace b ⟨rfl, rfl, hT, hS⟩)
  · have hp := ps_okI b
    have tF := hT _ (ps_okL b)
    cases c : ps_ok v2 3
    · exact xt_isSpace b (xf_isSpace c (yt_isSpace b (yf_isSpace c ⟨rfl, rfl, hT, hS⟩)))
    · have hq := ps_okI c
      have tG := hT _ (ps_okL c)
      exact xt_isSpace b (xt_isSpace c ⟨hp, hq, xv_join tF (xv_become hp (yt_isSpace b (yt_isSpace c ⟨hp, hq, yv_joined (yv_take hp ⟨rfl, rl_up hT hS (tp_joinT tF _)⟩)⟩)))⟩)
theorem i_vc_meet {k : Nat} {u : SX} {v : SY} (I : i_Rel k u v) (hk : k + 4 ≤ 2048) (v1 : Int32) (v2 : Int32) : wpX_meet (fun r u' => wpY_meet (fun r' v' => r' = r ∧ i_Rel (k + 4) u' v') v v1 v2) u v1 v2 := by
  obtain ⟨fa, sp⟩ := u
  obtain ⟨fb, ma, ta⟩ := v
  obtain ⟨e, hT, hS⟩ := I
  have e2 : fa = fb := e
  subst e2
  unfold wpX_meet wpY_meet
  dsimp only
  cases b : ps_ok v1 3
  · exact xf_isSpace b (yf_isSpace b ⟨rfl, rfl, hT, hS⟩)
  · have hp := ps_okI b
    have tF := hT _ (ps_okL b)
    cases c : ps_ok v2 3
    · exact xt_isSpace b (xf_isSpace c (yt_isSpace b (yf_isSpace c ⟨rfl, rfl, hT, hS⟩)))
    · have hq := ps_okI c
      have tG := hT _ (ps_okL c)
      exact xt_isSpace b (xt_isSpace c ⟨hp, hq, xv_become hp (yt_isSpace b (yt_isSpace c ⟨hp, hq, yv_take hp ⟨rfl, rl_up hT hS (tp_meet tF tG)⟩⟩))⟩)
theorem i_vc_pull {k : Nat} {u : SX} {v : SY} (I : i_Rel k u v) (hk : k + 4 ≤ 2048) (v1 : Int32) (v2 : Int32) (v3 : Int32) : wpX_pull (fun r u' => wpY_pull (fun r' v' => r' = r ∧ i_Rel (k + 4) u' v') v v1 v2 v3) u v1 v2 v3 := by
  obtain ⟨fa, sp⟩ := u
  obtain ⟨fb, ma, ta⟩ := v
  obtain ⟨e, hT, hS⟩ := I
  have e2 : fa = fb := e
  subst e2
  unfold wpX_pull wpY_pull
  dsimp only
  cases b : ps_ok v1 3
  · exact xf_isSpace b (yb_1 b (br_f (by decide) ⟨rfl, rfl, hT, hS⟩))
  · have hp := ps_okI b
    have tF := hT _ (ps_okL b)
    cases c : ps_ok v2 3
    · exact xt_isSpace b (xf_isSpace c (yb_2 b c (br_f (by decide) ⟨rfl, rfl, hT, hS⟩)))
    · have hq := ps_okI c
      have tG := hT _ (ps_okL c)
      cases d : ps_ok v3 3125
      · exact xt_isSpace b (xt_isSpace c (xf_isMap d (yb_3 b c d (br_f (by decide) ⟨rfl, rfl, hT, hS⟩))))
      · obtain ⟨m, hm, rfl⟩ := ps_okE (by decide) d
        have hm2 : m < 2 ^ 31 := by omega
        exact xt_isSpace b (xt_isSpace c (xt_isMap d ⟨hq, xv_pulled hm2 (xv_become hp (yb_4 b c d (br_t (by decide) ⟨hq, yv_pulled hm2 (yv_take hp ⟨rfl, rl_up hT hS (tp_pull tG m)⟩)⟩)))⟩))
theorem i_vc_push {k : Nat} {u : SX} {v : SY} (I : i_Rel k u v) (hk : k + 4 ≤ 2048) (v1 : Int32) (v2 : Int32) (v3 : Int32) : wpX_push (fun r u' => wpY_push (fun r' v' => r' = r ∧ i_Rel (k + 4) u' v') v v1 v2 v3) u v1 v2 v3 := by
  obtain ⟨fa, sp⟩ := u
  obtain ⟨fb, ma, ta⟩ := v
  obtain ⟨e, hT, hS⟩ := I
  have e2 : fa = fb := e
  subst e2
  unfold wpX_push wpY_push
  dsimp only
  cases b : ps_ok v1 3
  · exact xf_isSpace b (yb_1 b (br_f (by decide) ⟨rfl, rfl, hT, hS⟩))
  · have hp := ps_okI b
    have tF := hT _ (ps_okL b)
    cases c : ps_ok v2 3
    · exact xt_isSpace b (xf_isSpace c (yb_2 b c (br_f (by decide) ⟨rfl, rfl, hT, hS⟩)))
    · have hq := ps_okI c
      have tG := hT _ (ps_okL c)
      cases d : ps_ok v3 3125
      · exact xt_isSpace b (xt_isSpace c (xf_isMap d (yb_3 b c d (br_f (by decide) ⟨rfl, rfl, hT, hS⟩))))
      · obtain ⟨m, hm, rfl⟩ := ps_okE (by decide) d
        have hm2 : m < 2 ^ 31 := by omega
        exact xt_isSpace b (xt_isSpace c (xt_isMap d ⟨hq, xv_pushed hm2 (xv_become hp (yb_4 b c d (br_t (by decide) ⟨hq, yv_pushed hm2 (yv_take hp ⟨rfl, rl_up hT hS (tp_push tG m)⟩)⟩)))⟩))
theorem i_vc_continuous {k : Nat} {u : SX} {v : SY} (I : i_Rel k u v) (hk : k + 4 ≤ 2048) (v1 : Int32) (v2 : Int32) (v3 : Int32) : wpX_continuous (fun r => wpY_continuous (fun r' => r' = r ∧ i_Rel (k + 4) u v) v v1 v2 v3) u v1 v2 v3 := by
  obtain ⟨fa, sp⟩ := u
  obtain ⟨fb, ma, ta⟩ := v
  obtain ⟨e, hT, hS⟩ := I
  have e2 : fa = fb := e
  subst e2
  unfold wpX_continuous wpY_continuous
  dsimp only
  cases b : ps_ok v1 3
  · exact xf_isSpace b (yb_1 b (br_f (by decide) ⟨rfl, rfl, hT, hS⟩))
  · have hp := ps_okI b
    have tF := hT _ (ps_okL b)
    cases c : ps_ok v2 3
    · exact xt_isSpace b (xf_isSpace c (yb_2 b c (br_f (by decide) ⟨rfl, rfl, hT, hS⟩)))
    · have hq := ps_okI c
      have tG := hT _ (ps_okL c)
      cases d : ps_ok v3 3125
      · exact xt_isSpace b (xt_isSpace c (xf_isMap d (yb_3 b c d (br_f (by decide) ⟨rfl, rfl, hT, hS⟩))))
      · obtain ⟨m, hm, rfl⟩ := ps_okE (by decide) d
        have hm2 : m < 2 ^ 31 := by omega
        refine xt_isSpace b (xt_isSpace c (xt_isMap d ⟨hp, hq, xv_cont hm2 ?_⟩))
        rw [tp_ct]
        refine ps_br (fun q => yb_4 b c d (br_t (by decide) (yv_cont hp hq hm2 ?_))) (fun q => yb_4 b c d (br_t (by decide) (yv_cont hp hq hm2 ?_)))
        · rw [q]; exact br_f (by decide) ⟨rfl, rfl, hT, hS⟩
        · rw [q]; exact br_t rfl ⟨rfl, rfl, hT, hS⟩
theorem i_vc_opens {k : Nat} {u : SX} {v : SY} (I : i_Rel k u v) (hk : k + 4 ≤ 2048) (v1 : Int32) : wpX_opens (fun r => wpY_opens (fun r' => r' = r ∧ i_Rel (k + 4) u v) v v1) u v1 := by
  obtain ⟨fa, sp⟩ := u
  obtain ⟨fb, ma, ta⟩ := v
  obtain ⟨e, hT, hS⟩ := I
  have e2 : fa = fb := e
  subst e2
  unfold wpX_opens wpY_opens
  dsimp only
  cases b : ps_ok v1 3
  · exact xf_isSpace b (yf_isSpace b ⟨rfl, rfl, hT, hS⟩)
  · have hp := ps_okI b
    have tF := hT _ (ps_okL b)
    exact xt_isSpace b ⟨hp, xv_count (yt_isSpace b ⟨hp, yv_count ⟨rfl, rfl, hT, hS⟩⟩)⟩
theorem i_vc_isOpen {k : Nat} {u : SX} {v : SY} (I : i_Rel k u v) (hk : k + 4 ≤ 2048) (v1 : Int32) (v2 : Int32) : wpX_isOpen (fun r => wpY_isOpen (fun r' => r' = r ∧ i_Rel (k + 4) u v) v v1 v2) u v1 v2 := by
  obtain ⟨fa, sp⟩ := u
  obtain ⟨fb, ma, ta⟩ := v
  obtain ⟨e, hT, hS⟩ := I
  have e2 : fa = fb := e
  subst e2
  unfold wpX_isOpen wpY_isOpen
  dsimp only
  cases b : ps_ok v1 3
  · exact xf_isSpace b (yf_isSpace b ⟨rfl, rfl, hT, hS⟩)
  · have hp := ps_okI b
    have tF := hT _ (ps_okL b)
    cases c : ps_ok v2 32
    · exact xt_isSpace b (xf_isSet c (yt_isSpace b (yf_isSet c ⟨rfl, rfl, hT, hS⟩)))
    · obtain ⟨S, hS2, rfl⟩ := ps_okE (by decide) c
      refine xt_isSpace b (xt_isSet c ⟨hp, hx_has hS2 (ps_br (fun q => yt_isSpace b (yt_isSet c ⟨hp, hy_in hS2 ?_⟩)) (fun q => yt_isSpace b (yt_isSet c ⟨hp, hy_in hS2 ?_⟩)))⟩)
      · rw [q]; exact br_f (by decide) ⟨rfl, rfl, hT, hS⟩
      · rw [q]; exact br_t rfl ⟨rfl, rfl, hT, hS⟩
theorem i_vc_openAt {k : Nat} {u : SX} {v : SY} (I : i_Rel k u v) (hk : k + 4 ≤ 2048) (v1 : Int32) (v2 : Int32) : wpX_openAt (fun r => wpY_openAt (fun r' => r' = r ∧ i_Rel (k + 4) u v) v v1 v2) u v1 v2 := by
  obtain ⟨fa, sp⟩ := u
  obtain ⟨fb, ma, ta⟩ := v
  obtain ⟨e, hT, hS⟩ := I
  have e2 : fa = fb := e
  subst e2
  unfold wpX_openAt wpY_openAt
  dsimp only
  cases b : ps_ok v1 3
  · exact xf_isSpace b (yf_isSpace b ⟨rfl, rfl, hT, hS⟩)
  · have hp := ps_okI b
    have tF := hT _ (ps_okL b)
    obtain ⟨r, hX, hY⟩ := v_openAt (fa := fa) (sp := sp) (ma := ma) (ta := ta) (k := v2) hp 32 0 0 rfl
    have e0 : v2 - nI 0 = v2 := by rw [nI_0]; exact Int32.sub_zero v2
    rw [e0] at hY
    exact xt_isSpace b ⟨_, hX _ (yt_isSpace b ⟨_, hY _ ⟨rfl, rfl, hT, hS⟩⟩)⟩
theorem i_vc_inner {k : Nat} {u : SX} {v : SY} (I : i_Rel k u v) (hk : k + 4 ≤ 2048) (v1 : Int32) (v2 : Int32) : wpX_inner (fun r => wpY_inner (fun r' => r' = r ∧ i_Rel (k + 4) u v) v v1 v2) u v1 v2 := by
  obtain ⟨fa, sp⟩ := u
  obtain ⟨fb, ma, ta⟩ := v
  obtain ⟨e, hT, hS⟩ := I
  have e2 : fa = fb := e
  subst e2
  unfold wpX_inner wpY_inner
  dsimp only
  cases b : ps_ok v1 3
  · exact xf_isSpace b (yf_isSpace b ⟨rfl, rfl, hT, hS⟩)
  · have hp := ps_okI b
    have tF := hT _ (ps_okL b)
    cases c : ps_ok v2 32
    · exact xt_isSpace b (xf_isSet c (yt_isSpace b (yf_isSet c ⟨rfl, rfl, hT, hS⟩)))
    · obtain ⟨S, hS2, rfl⟩ := ps_okE (by decide) c
      exact xt_isSpace b (xt_isSet c ⟨hp, xv_inner (yt_isSpace b (yt_isSet c ⟨hp, yv_inner ⟨rfl, rfl, hT, hS⟩⟩))⟩)
theorem i_vc_closure {k : Nat} {u : SX} {v : SY} (I : i_Rel k u v) (hk : k + 4 ≤ 2048) (v1 : Int32) (v2 : Int32) : wpX_closure (fun r => wpY_closure (fun r' => r' = r ∧ i_Rel (k + 4) u v) v v1 v2) u v1 v2 := by
  obtain ⟨fa, sp⟩ := u
  obtain ⟨fb, ma, ta⟩ := v
  obtain ⟨e, hT, hS⟩ := I
  have e2 : fa = fb := e
  subst e2
  unfold wpX_closure wpY_closure
  dsimp only
  cases b : ps_ok v1 3
  · exact xf_isSpace b (yf_isSpace b ⟨rfl, rfl, hT, hS⟩)
  · have hp := ps_okI b
    have tF := hT _ (ps_okL b)
    cases c : ps_ok v2 32
    · exact xt_isSpace b (xf_isSet c (yt_isSpace b (yf_isSet c ⟨rfl, rfl, hT, hS⟩)))
    · obtain ⟨S, hS2, rfl⟩ := ps_okE (by decide) c
      exact xt_isSpace b (xt_isSet c ⟨hp, xv_closure hS2 (yt_isSpace b (yt_isSet c ⟨hp, yv_closure hS2 ⟨rfl, rfl, hT, hS⟩⟩))⟩)
theorem i_vc_around {k : Nat} {u : SX} {v : SY} (I : i_Rel k u v) (hk : k + 4 ≤ 2048) (v1 : Int32) (v2 : Int32) : wpX_around (fun r => wpY_around (fun r' => r' = r ∧ i_Rel (k + 4) u v) v v1 v2) u v1 v2 := by
  obtain ⟨fa, sp⟩ := u
  obtain ⟨fb, ma, ta⟩ := v
  obtain ⟨e, hT, hS⟩ := I
  have e2 : fa = fb := e
  subst e2
  unfold wpX_around wpY_around
  dsimp only
  cases b : ps_ok v1 3
  · exact xf_isSpace b (yf_isSpace b ⟨rfl, rfl, hT, hS⟩)
  · have hp := ps_okI b
    have tF := hT _ (ps_okL b)
    cases c : ps_ok v2 5
    · exact xt_isSpace b (xf_isPoint c (yt_isSpace b (yf_isPoint c ⟨rfl, rfl, hT, hS⟩)))
    · obtain ⟨S, hS2, rfl⟩ := ps_okE (by decide) c
      exact xt_isSpace b (xt_isPoint c ⟨hp, xv_leastWith hS2 (yt_isSpace b (yt_isPoint c ⟨hp, yv_leastWith hS2 ⟨rfl, rfl, hT, hS⟩⟩))⟩)
theorem i_vc_dense {k : Nat} {u : SX} {v : SY} (I : i_Rel k u v) (hk : k + 4 ≤ 2048) (v1 : Int32) : wpX_dense (fun r => wpY_dense (fun r' => r' = r ∧ i_Rel (k + 4) u v) v v1) u v1 := by
  obtain ⟨fa, sp⟩ := u
  obtain ⟨fb, ma, ta⟩ := v
  obtain ⟨e, hT, hS⟩ := I
  have e2 : fa = fb := e
  subst e2
  unfold wpX_dense wpY_dense
  dsimp only
  cases b : ps_ok v1 3
  · exact xf_isSpace b (yf_isSpace b ⟨rfl, rfl, hT, hS⟩)
  · have hp := ps_okI b
    have tF := hT _ (ps_okL b)
    exact xt_isSpace b (xv_dense hp (yt_isSpace b (yv_dense hp ⟨rfl, rfl, hT, hS⟩)))
theorem i_vc_piece {k : Nat} {u : SX} {v : SY} (I : i_Rel k u v) (hk : k + 4 ≤ 2048) (v1 : Int32) (v2 : Int32) : wpX_piece (fun r => wpY_piece (fun r' => r' = r ∧ i_Rel (k + 4) u v) v v1 v2) u v1 v2 := by
  obtain ⟨fa, sp⟩ := u
  obtain ⟨fb, ma, ta⟩ := v
  obtain ⟨e, hT, hS⟩ := I
  have e2 : fa = fb := e
  subst e2
  unfold wpX_piece wpY_piece
  dsimp only
  cases b : ps_ok v1 3
  · exact xf_isSpace b (yf_isSpace b ⟨rfl, rfl, hT, hS⟩)
  · have hp := ps_okI b
    have tF := hT _ (ps_okL b)
    cases c : ps_ok v2 5
    · exact xt_isSpace b (xf_isPoint c (yt_isSpace b (yf_isPoint c ⟨rfl, rfl, hT, hS⟩)))
    · obtain ⟨S, hS2, rfl⟩ := ps_okE (by decide) c
      refine xt_isSpace b (xt_isPoint c ⟨hp, hp, xv_closed (nm_e (xv_leastWith hS2 (yt_isSpace b (yt_isPoint c (yv_both hp ?_)))))⟩)
      rw [← tp_cxy]
      exact yv_leastWith hS2 ⟨rfl, rfl, hT, hS⟩
theorem i_vc_kind {k : Nat} {u : SX} {v : SY} (I : i_Rel k u v) (hk : k + 4 ≤ 2048) (v1 : Int32) : wpX_kind (fun r => wpY_kind (fun r' => r' = r ∧ i_Rel (k + 4) u v) v v1) u v1 := by
  obtain ⟨fa, sp⟩ := u
  obtain ⟨fb, ma, ta⟩ := v
  obtain ⟨e, hT, hS⟩ := I
  have e2 : fa = fb := e
  subst e2
  unfold wpX_kind wpY_kind
  dsimp only
  cases b : ps_ok v1 3
  · exact xf_isSpace b (yf_isSpace b ⟨rfl, rfl, hT, hS⟩)
  · have hp := ps_okI b
    have tF := hT _ (ps_okL b)
    refine xt_isSpace b ⟨hp, nm_e (xv_kind (yt_isSpace b (yv_kind hp ⟨?_, rfl, hT, hS⟩)))⟩
    rw [tp_d, tp_e tF, tp_q, tp_cxy]
theorem i_vc_maps {k : Nat} {u : SX} {v : SY} (I : i_Rel k u v) (hk : k + 4 ≤ 2048) (v1 : Int32) (v2 : Int32) : wpX_maps (fun r => wpY_maps (fun r' => r' = r ∧ i_Rel (k + 4) u v) v v1 v2) u v1 v2 := by
  obtain ⟨fa, sp⟩ := u
  obtain ⟨fb, ma, ta⟩ := v
  obtain ⟨e, hT, hS⟩ := I
  have e2 : fa = fb := e
  subst e2
  unfold wpX_maps wpY_maps
  dsimp only
  cases b : ps_ok v1 3
  · exact xf_isSpace b (yf_isSpace b ⟨rfl, rfl, hT, hS⟩)
  · have hp := ps_okI b
    have tF := hT _ (ps_okL b)
    cases c : ps_ok v2 3
    · exact xt_isSpace b (xf_isSpace c (yt_isSpace b (yf_isSpace c ⟨rfl, rfl, hT, hS⟩)))
    · have hq := ps_okI c
      have tG := hT _ (ps_okL c)
      exact xt_isSpace b (xt_isSpace c (xv_maps hp hq (yt_isSpace b (yt_isSpace c (yv_maps hp hq ⟨rfl, rfl, hT, hS⟩)))))
theorem i_vc_same {k : Nat} {u : SX} {v : SY} (I : i_Rel k u v) (hk : k + 4 ≤ 2048) (v1 : Int32) (v2 : Int32) : wpX_same (fun r => wpY_same (fun r' => r' = r ∧ i_Rel (k + 4) u v) v v1 v2) u v1 v2 := by
  obtain ⟨fa, sp⟩ := u
  obtain ⟨fb, ma, ta⟩ := v
  obtain ⟨e, hT, hS⟩ := I
  have e2 : fa = fb := e
  subst e2
  unfold wpX_same wpY_same
  dsimp only
  cases b : ps_ok v1 3
  · exact xf_isSpace b (yf_isSpace b ⟨rfl, rfl, hT, hS⟩)
  · have hp := ps_okI b
    have tF := hT _ (ps_okL b)
    cases c : ps_ok v2 3
    · exact xt_isSpace b (xf_isSpace c (yt_isSpace b (yf_isSpace c ⟨rfl, rfl, hT, hS⟩)))
    · have hq := ps_okI c
      have tG := hT _ (ps_okL c)
      exact xt_isSpace b (xt_isSpace c (xv_same hp hq (yt_isSpace b (yt_isSpace c (yv_same hp hq ⟨rfl, rfl, hT, hS⟩)))))
theorem i_vc_chains {k : Nat} {u : SX} {v : SY} (I : i_Rel k u v) (hk : k + 4 ≤ 2048) (v1 : Int32) (v2 : Int32) : wpX_chains (fun r => wpY_chains (fun r' => r' = r ∧ i_Rel (k + 4) u v) v v1 v2) u v1 v2 := by
  obtain ⟨fa, sp⟩ := u
  obtain ⟨fb, ma, ta⟩ := v
  obtain ⟨e, hT, hS⟩ := I
  have e2 : fa = fb := e
  subst e2
  unfold wpX_chains wpY_chains
  dsimp only
  cases b : ps_ok v1 3
  · exact xf_isSpace b (yf_isSpace b ⟨rfl, rfl, hT, hS⟩)
  · have hp := ps_okI b
    have tF := hT _ (ps_okL b)
    exact xt_isSpace b (xv_chains hp (yt_isSpace b (yv_chains hp ⟨rfl, rfl, hT, hS⟩)))
theorem i_vc_needed {k : Nat} {u : SX} {v : SY} (I : i_Rel k u v) (hk : k + 4 ≤ 2048) (v1 : Int32) : wpX_needed (fun r => wpY_needed (fun r' v' => r' = r ∧ i_Rel (k + 4) u v') v v1) u v1 := by
  obtain ⟨fa, sp⟩ := u
  obtain ⟨fb, ma, ta⟩ := v
  obtain ⟨e, hT, hS⟩ := I
  have e2 : fa = fb := e
  subst e2
  unfold wpX_needed wpY_needed
  dsimp only
  cases b : ps_ok v1 3
  · exact xf_isSpace b (yf_isSpace b ⟨rfl, rfl, hT, hS⟩)
  · have hp := ps_okI b
    have tF := hT _ (ps_okL b)
    obtain ⟨k0, h5, g, l⟩ := nd_least tF
    exact xt_isSpace b ⟨hp, xv_few hS (fun v hv => yt_isSpace b ⟨_, yv_needed hp h5 g l (fun ma' ta' => ⟨congrArg nI (nd_same tF h5 g l hv.1 (nd_has hS hv) (nd_low tF hS hv)).symm, rfl, hT, hS⟩) k0 0 (by omega) ma ta⟩)⟩
