/-! needed: the reference's walk -/
theorem nd_run {post : Int32 → SY → Prop} {fa : Nat → Int32} {p : Int32} (hp : vp_in p 3) {k : Nat} (hk : k ≤ 5) : ∀ (r m d n t : Nat) (ma ta : Nat → Int32), r ≤ 30 → d + m = k → n + t = 2000001 → t + nd_w r m ≤ 2000000 → ta d = nI (30 - r) → (nd_gd (fa p.toNatClampNeg) r m (ma d) → ∀ ma' ta' : Nat → Int32, post 1 (fa, ma', ta')) → (¬ nd_gd (fa p.toNatClampNeg) r m (ma d) → ∀ (n' t' : Nat) (ma' ta' : Nat → Int32), n' + t' = 2000001 → t' ≤ t + nd_w r m → (∀ j, j < d → ma' j = ma j ∧ ta' j = ta j) → wY_makes_20 post p (nI k) n' (nI d + (-1)) (nI t') fa ma' ta') → wY_makes_20 post p (nI k) n (nI d) (nI t) fa ma ta := by
  intro r
  induction r with
  | zero =>
    intro m d n t ma ta _ hd hn hw hta H1 H2
    have w1 := nd_w1 0 m
    obtain ⟨n0, rfl⟩ : ∃ n0, n = n0 + 1 := ⟨n - 1, by omega⟩
    have hc : (nI d).toNatClampNeg = d := nI_clamp (by omega)
    have hv : vp_in (nI d) 33 := vp_in_nI (by omega) (by decide)
    refine br_f (nI_ge (b := 2000000) (by omega) (by decide)) (br_f (nI_pos (by omega)) ?_)
    cases m with
    | zero =>
      obtain rfl : d = k := by omega
      refine br_t rfl ⟨hv, hp, br_c (fun e => ?_) (fun e => nm_e (nm_r (nI_1 t) ?_))⟩
      · rw [hc] at e
        exact H1 (nd_gd0.mpr e) ma ta
      · rw [hc] at e
        exact H2 (fun q => e (nd_gd0.mp q)) n0 (t + 1) ma ta (by omega) (by omega) (fun j _ => ⟨rfl, rfl⟩)
    | succ m =>
      have hdk : ¬ nI d = nI k := by rw [nI_eq (by omega) (by omega)]; omega
      have h30 : ¬ ta (nI d).toNatClampNeg < 30 := by
        rw [hc, hta]; exact nI_nlt (a := 30) (b := 30) (by decide) (by decide)
      exact br_f hdk ⟨hv, br_f h30 (nm_e (nm_r (nI_1 t) (H2 nd_gdZ n0 (t + 1) ma ta (by omega) (by omega) (fun j _ => ⟨rfl, rfl⟩))))⟩
  | succ r ih =>
    intro m d n t ma ta hr hd hn hw hta H1 H2
    have w1 := nd_w1 (r + 1) m
    obtain ⟨n0, rfl⟩ : ∃ n0, n = n0 + 1 := ⟨n - 1, by omega⟩
    have hc : (nI d).toNatClampNeg = d := nI_clamp (by omega)
    have hv : vp_in (nI d) 33 := vp_in_nI (by omega) (by decide)
    refine br_f (nI_ge (b := 2000000) (by omega) (by decide)) (br_f (nI_pos (by omega)) ?_)
    cases m with
    | zero =>
      obtain rfl : d = k := by omega
      refine br_t rfl ⟨hv, hp, br_c (fun e => ?_) (fun e => nm_e (nm_r (nI_1 t) ?_))⟩
      · rw [hc] at e
        exact H1 (nd_gd0.mpr e) ma ta
      · rw [hc] at e
        exact H2 (fun q => e (nd_gd0.mp q)) n0 (t + 1) ma ta (by omega) (by omega) (fun j _ => ⟨rfl, rfl⟩)
    | succ m =>
      have ew : nd_w (r + 1) (m + 1) = 1 + nd_w r m + nd_w r (m + 1) := rfl
      have hdk : ¬ nI d = nI k := by rw [nI_eq (by omega) (by omega)]; omega
      have h30 : ta (nI d).toNatClampNeg < 30 := by
        rw [hc, hta]; exact nI_lt (b := 30) (by omega) (by decide)
      have e1 : upd ta (nI d).toNatClampNeg (ta (nI d).toNatClampNeg + 1) = upd ta d (nI (30 - r)) := by
        rw [hc, hta, nI_1, show 30 - (r + 1) + 1 = 30 - r by omega]
      have e2 : upd ta d (nI (30 - r)) (nI d).toNatClampNeg = nI (30 - r) := by rw [hc]; exact pk_us
      have hv2 : vp_in (nI d + 1) 33 := by rw [nI_1]; exact vp_in_nI (by omega) (by decide)
      have hc2 : (nI d + 1).toNatClampNeg = d + 1 := by rw [nI_1]; exact nI_clamp (by omega)
      have tl : ∀ j, j < d → upd ta d (nI (30 - r)) j = ta j := fun j hj => pk_un (by omega)
      refine br_f hdk ⟨hv, br_t h30 ⟨hv, hv, nm_r e1 ⟨hv, nm_r e2 ⟨hp, hy_in (by omega) (ps_br (fun b => ⟨hv, yv_with ⟨hv2, nm_r (e' := upd ma (d + 1) (nI (pv_with (ma d) (30 - r)))) (by rw [hc, hc2]) ⟨hv2, nm_r (e' := upd (upd ta d (nI (30 - r))) (d + 1) (nI (30 - r))) (by rw [hc2]) (nm_r (nI_1 d) (nm_r (nI_1 t) ?_))⟩⟩⟩) (fun b => nm_r (nI_1 t) ?_))⟩⟩⟩⟩
      · refine ih m (d + 1) n0 (t + 1) _ _ (by omega) (by omega) (by omega) (by omega) pk_us ?_ ?_
        · rw [pk_us]
          exact fun q => H1 (nd_gdS.mpr (Or.inl ⟨b, q⟩))
        · rw [pk_us]
          intro nq n' t' ma' ta' hn' ht' ag
          rw [pk_m1 d]
          have a1 := ag d (by omega)
          have em : ma' d = ma d := by rw [a1.1]; exact pk_un (by omega)
          have et : ta' d = nI (30 - r) := by rw [a1.2, pk_un (by omega)]; exact pk_us
          refine ih (m + 1) d n' t' ma' ta' (by omega) (by omega) (by omega) (by omega) et ?_ ?_
          · rw [em]
            exact fun q => H1 (nd_gdS.mpr (Or.inr q))
          · rw [em]
            intro nq2 n'' t'' ma'' ta'' hn'' ht'' ag2
            refine H2 ?_ n'' t'' ma'' ta'' (by omega) (by omega) (fun j hj => ⟨?_, ?_⟩)
            · intro q
              rcases nd_gdS.mp q with q | q
              · exact nq q.2
              · exact nq2 q
            · rw [(ag2 j hj).1, (ag j (by omega)).1]; exact pk_un (by omega)
            · rw [(ag2 j hj).2, (ag j (by omega)).2, pk_un (by omega)]; exact tl j hj
      · refine ih (m + 1) d n0 (t + 1) ma _ (by omega) (by omega) (by omega) (by omega) pk_us (fun q => H1 (nd_gdS.mpr (Or.inr q))) ?_
        intro nq n' t' ma' ta' hn' ht' ag
        refine H2 ?_ n' t' ma' ta' (by omega) (by omega) (fun j hj => ⟨(ag j hj).1, ?_⟩)
        · intro q
          rcases nd_gdS.mp q with q | q
          · rw [b] at q; exact absurd q.1 (by decide)
          · exact nq q
        · rw [(ag j hj).2]; exact tl j hj
theorem yv_makes {post : Int32 → SY → Prop} {fa ma ta : Nat → Int32} {p : Int32} (hp : vp_in p 3) {k : Nat} (hk : k ≤ 5) (H1 : nd_gd (fa p.toNatClampNeg) 30 k (-2147483647) → ∀ ma' ta' : Nat → Int32, post 1 (fa, ma', ta')) (H2 : ¬ nd_gd (fa p.toNatClampNeg) 30 k (-2147483647) → ∀ ma' ta' : Nat → Int32, post 0 (fa, ma', ta')) : wpY_makes post (fa, ma, ta) p (nI k) := by
  unfold wpY_makes
  have hw := nd_w5 hk
  refine nm_e (nm_e ⟨2000001, nd_run hp hk 30 k 0 2000001 0 (upd ma 0 (-2147483647)) (upd ta 0 0) (by omega) (by omega) (by omega) (by omega) pk_us ?_ ?_⟩)
  · rw [pk_us]; exact H1
  · rw [pk_us]
    intro nq n' t' ma' ta' hn' ht' _
    obtain ⟨n0, rfl⟩ : ∃ n0, n' = n0 + 1 := ⟨n' - 1, by omega⟩
    exact br_c (fun _ => H2 nq ma' ta') (fun _ => br_t (by decide) (H2 nq ma' ta'))
theorem yv_needed {post : Int32 → SY → Prop} {fa : Nat → Int32} {p : Int32} (hp : vp_in p 3) {k0 : Nat} (h5 : k0 ≤ 5) (g : nd_gd (fa p.toNatClampNeg) 30 k0 (-2147483647)) (l : ∀ j, j < k0 → ¬ nd_gd (fa p.toNatClampNeg) 30 j (-2147483647)) (h : ∀ ma ta : Nat → Int32, post (nI k0) (fa, ma, ta)) : ∀ d k, k + d = k0 → ∀ ma ta : Nat → Int32, wY_needed_12 post p (d + 1) (nI k) fa ma ta := by
  intro d
  induction d with
  | zero =>
    intro k hd ma ta
    obtain rfl : k = k0 := by omega
    exact br_f (nI_ge (b := 30) (by omega) (by decide)) (yv_makes hp h5 (fun _ ma' ta' => br_f (by decide) (h ma' ta')) (fun q => absurd g q))
  | succ d ih =>
    intro k hd ma ta
    exact br_f (nI_ge (b := 30) (by omega) (by decide)) (yv_makes hp (by omega) (fun q => absurd q (l k (by omega))) (fun _ ma' ta' => br_t rfl (nm_r (nI_1 k) (ih (k + 1) (by omega) ma' ta'))))
