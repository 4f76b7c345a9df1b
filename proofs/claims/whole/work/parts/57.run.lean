set_option maxHeartbeats 2000000 in
theorem w_run_16 {σ0 : Mem} {n : Int} {Q : Int → Mem → Prop} (h : CW σ0) (hJ : JS σ0) (hn0 : 1 ≤ n) (hn1 : n ≤ 50) : ∀ (k : Nat) (i : Int) (s : St) (μ : Mem), i + k = n → 0 ≤ i → RC σ0 μ s → (∀ μ', RC σ0 μ' (itr σ0 k s) → Sr_run_140 Q μ') → Sr_run_16 Q (k + 1) n i μ := by
  intro k
  induction k with
  | zero =>
    intro i s μ g1 g2 hR hQ
    unfold Sr_run_16
    exact ⟨⟨by omega, by omega⟩, ⟨by omega, by omega⟩, fun _ => hQ μ hR, fun z => absurd z (by omega)⟩
  | succ k ih =>
    intro i s μ g1 g2 hR hQ
    obtain ⟨L, r, e, lo, u, m, b⟩ := s
    have hR' := hR
    obtain ⟨h1, h2, h3, h4, h5, h6, h7, h8, h9, h10, h11, h12, h13, h14⟩ := hR'
    dsimp only at h3 h4 h5 h6 h7 h8 h9 h10 h12 h13 h14
    unfold Sr_run_16
    rw [h6]
    refine ⟨⟨by omega, by omega⟩, ⟨by omega, by omega⟩, fun z => absurd z (by omega), fun _ => ⟨⟨by omega, by omega⟩, fun z => ?_, fun z => fun x4 e4 => ?_⟩⟩
    · exact hQ μ (by rw [itr_end (s := (L, r, e, lo, u, m, b)) z]; exact hR)
    have hC : CW μ := h.eo3 h1 h2
    have hJμ : JS μ := hJ.dq (Dq.of h1)
    have hit : itr σ0 (k + 1) (L, r, e, lo, u, m, b) = itr σ0 k (rnd σ0 (L, r, e, lo, u, m, b)) := if_pos z
    rw [hit] at hQ
    rw [h3.1] at e4
    have hl200 := h3.2.1
    -- behind the round, its count not yet raised
    have fin : ∀ (μ1 : Mem) (e' : Int), RC σ0 μ1 ((rnd σ0 (L, r, e, lo, u, m, b)).1, r, (rnd σ0 (L, r, e, lo, u, m, b)).2.2) → Sr_run_80 (fun z0 z1 z2 => Sr_run_16 Q (k + 1) z0 z1 z2) Q n i x4 μ1 := by
      intro μ1 _ hR1
      have er : (rnd σ0 (L, r, e, lo, u, m, b)).2.1 = r + 1 := by
        unfold rnd
        split <;> rfl
      generalize hs' : rnd σ0 (L, r, e, lo, u, m, b) = s' at *
      have hR2 := hR1.rounds (r + 1)
      have es : (s'.1, r + 1, s'.2.2) = s' := by rw [← er]
      dsimp only at hR2
      rw [es] at hR2
      have q0 : μ1 4 0 0 0 = r := hR1.2.2.2.2.1
      unfold Sr_run_80
      rw [q0]
      intro σ1 es1
      subst es1
      obtain ⟨k1, k2, k3, k4, k5, k6, k7, k8, k9, k10, k11, k12, k13, k14⟩ := id hR2
      rw [k6, k3.1, e4]
      have hl2 := k3.2.1
      have go : Sr_run_134 (fun z0 z1 z2 => Sr_run_16 Q (k + 1) z0 z1 z2) Q n i (up μ1 4 0 0 0 (r + 1)) := by
        unfold Sr_run_134
        intro x1 e1
        exact ih x1 s' _ (by omega) (by omega) hR2 hQ
      refine ⟨⟨by omega, by omega⟩, fun _ => go, fun ze => ⟨⟨by omega, by omega⟩, ⟨by omega, by omega⟩, fun _ => go, fun zl => fun σ5 e5 => ?_⟩⟩
      have hst := itr_stall2 (σ := σ0) (s := (L, r, e, lo, u, m, b)) (by rw [hs']; exact ze) (by rw [hs']; show s'.1.length = L.length; omega) k
      rw [hs'] at hst
      rw [k5] at e5
      have hR5 := hR2.rounds (s'.2.1 + (n - 1 - i))
      rw [← e5] at hR5
      refine hQ σ5 ?_
      rw [hst]
      have : (s'.2.1 + (n - 1 - i)) = s'.2.1 + (k : Int) := by omega
      rw [← this]
      exact hR5
    refine w_findLeast hC (Or.inr rfl) h11 (fun x bb σ5 hE5 hA5 z70 z9 hS z8 hx => ?_)
    have hS' := srch_cuts hC hJμ h4 (Dq.of h1) hS
    obtain ⟨eV, eB⟩ := mVal_eq hS'
    have hE05 : Eo Sr_ σ0 σ5 := h1.tr (hE5.mono (fun c q k z => Ss_Sr z))
    have p5 : ∀ c q k i, ¬ Ss c q k → σ5 c q k i = μ c q k i := fun c q k i z => hE5 c q k i z
    have hA5' : ∀ q, 0 ≤ q → q < 4 → AO σ5 q ∧ FO σ5 q := fun q q0 q1 => ⟨hA5 q q0 q1, (h2 q q0 q1).2.eo (fun i => p5 _ _ _ _ (by unfold Ss; omega))⟩
    have hL5 : RepC σ5 L := h3.eo (fun k i => p5 _ _ _ _ (by unfold Ss; omega))
    have hF5 : FlO σ5 L := h4.eo (fun p k hk i => p5 _ _ _ _ (by unfold Ss; omega))
    have q4 : ∀ k i, σ5 4 0 k i = μ 4 0 k i := fun k i => p5 _ _ _ _ (by unfold Ss; omega)
    unfold Pg_takeMaster
    rw [z9]
    intro σ6 e6
    refine ⟨⟨by omega, by omega⟩, fun hx4 => fun σ7 e7 => ?_, fun hx4 => fun σ7 e7 => ?_⟩
    rotate_left
    · -- no master
      have hrn : rnd σ0 (L, r, e, lo, u, m, b) = (L, r + 1, 2, -4, u, m, b) := if_pos (by rw [eV]; exact hx4)
      have p7 : ∀ c q k i, ¬ (c = 4 ∧ q = 0 ∧ (k = 1 ∨ k = 2) ∧ i = 0) → σ7 c q k i = σ5 c q k i := fun c q k i z => by rw [e7, up_ne (by omega), e6, up_ne (by omega)]
      have z71 : σ7 4 0 1 0 = 2 := by rw [e7, up_at]
      have z72 : σ7 4 0 2 0 = -4 := by rw [e7, up_ne (by omega), e6, up_at]; exact hx4
      unfold Pg_takeMaster_31
      show Pg_hasMaster σ7 _
      unfold Pg_hasMaster
      rw [z72]
      refine ⟨⟨by omega, by omega⟩, fun _ => ⟨Or.inl rfl, InR_0, fun _ => ?_, fun z => absurd rfl z⟩, fun z => absurd rfl z⟩
      refine fin σ7 0 ?_
      rw [hrn]
      refine ⟨hE05.tr (by rw [e7, e6]; exact (Eo.of_up (Or.inr (Or.inr (Or.inl ⟨rfl, rfl⟩)))).tr (Eo.of_up (Or.inr (Or.inr (Or.inl ⟨rfl, rfl⟩))))), fun q q0 q1 => ⟨(hA5' q q0 q1).1.eo (fun k hk i => p7 _ _ _ _ (by omega)), (hA5' q q0 q1).2.eo (fun i => p7 _ _ _ _ (by omega))⟩, hL5.eo (fun k i => p7 _ _ _ _ (by omega)), hF5.eo (fun p k hk i => p7 _ _ _ _ (by omega)), ?_, z71, z72, ?_, fun z => absurd rfl z, fun zz c c0 c1 => ?_, ?_, Or.inl rfl, h13, show (0 : Int) ≤ 2 ∧ (2 : Int) ≤ 2 from ⟨by decide, by decide⟩⟩
      · rw [p7 _ _ _ _ (by omega), q4]; exact h5
      · rw [p7 _ _ _ _ (by omega), q4]; exact h8
      · rw [p7 _ _ _ _ (by omega), q4]; exact h10 zz c c0 c1
      · rw [p7 _ _ _ _ (by omega)]; exact z70
    · -- a master
      have eB := eB hx4
      have hVF : VPl σ0 bb ∧ FGt σ0 (gL σ0 L) bb := by
        rcases hS' with ⟨y, -⟩ | ⟨-, y2, y3, -⟩
        · exact absurd y hx4
        · exact ⟨y2, y3⟩
      have p7 : ∀ c q k i, ¬ (c = 4 ∧ q = 0 ∧ (k = 2 ∨ k = 4)) → σ7 c q k i = σ5 c q k i := fun c q k i z => by
        rw [e7]
        unfold cp
        rw [if_neg (by omega), e6, up_ne (by omega)]
      have z72 : σ7 4 0 2 0 = x := by
        rw [e7]
        unfold cp
        rw [if_neg (by omega), e6, up_at]
      have z74 : ∀ c, 0 ≤ c → c < 6 → σ7 4 0 4 c = pD bb c := by
        intro c c0 c1
        rw [e7]
        unfold cp
        rw [if_pos ⟨rfl, rfl, rfl, c0, c1⟩, e6, up_ne (by omega)]
        exact z8 hx4 c c0 c1
      have hE07 : Eo Sr_ σ0 σ7 := hE05.tr (by rw [e7, e6]; exact (Eo.of_up (Or.inr (Or.inr (Or.inl ⟨rfl, rfl⟩)))).tr (Eo.of_cp (Or.inr (Or.inr (Or.inl ⟨rfl, rfl⟩)))))
      have hA7 : ∀ q, 0 ≤ q → q < 4 → AO σ7 q ∧ FO σ7 q := fun q q0 q1 => ⟨(hA5' q q0 q1).1.eo (fun k hk i => p7 _ _ _ _ (by omega)), (hA5' q q0 q1).2.eo (fun i => p7 _ _ _ _ (by omega))⟩
      have hL7 : RepC σ7 L := hL5.eo (fun k i => p7 _ _ _ _ (by omega))
      have hF7 : FlO σ7 L := hF5.eo (fun p k hk i => p7 _ _ _ _ (by omega))
      have hC7 : CW σ7 := h.eo3 hE07 hA7
      have hD7 : Dq σ0 σ7 := Dq.of hE07
      unfold Pg_takeMaster_31
      show Pg_hasMaster σ7 _
      unfold Pg_hasMaster
      rw [z72]
      refine ⟨⟨by omega, by omega⟩, fun z => absurd z hx4, fun _ => ⟨Or.inr rfl, ⟨by omega, by omega⟩, fun z => absurd z (by omega), fun _ => ?_⟩⟩
      have hdT : ∀ c, 0 ≤ c → c < 6 → 0 ≤ σ7 4 0 4 c ∧ σ7 4 0 4 c ≤ Tch σ7 c := by
        intro c c0 c1
        rw [z74 c c0 c1]
        have hV7 : VPl σ7 bb := by rw [Dq_V hD7]; exact hVF.1
        exact ⟨(pD_bd hVF.1.1.1 hVF.1.1.2 c).1, hV7.2 c c0 c1⟩
      have z70r : σ7 4 0 0 0 = r := by rw [p7 _ _ _ _ (by omega), q4]; exact h5
      refine w_hearParts hC7 (hJ.dq hD7) hdT z70r hL7 hF7 (fun v σ9 hE9 hA9 hL9 hF9 hv1 hv2 => ?_)
      have hE9' : Eo Sr_ σ0 σ9 := hE07.tr (hE9.mono (fun c q k z => Sh_Sr z))
      have eL : addP (coC σ7 L (σ7 4 0 4) r) (σ7 2 0 0 0).toNat (σ7 5 0 3 0).toNat L = addP (coC σ0 L (pD (mBest σ0 L)) r) (σ0 2 0 0 0).toNat (σ0 5 0 3 0).toNat L := by
        rw [hD7.2.1, hD7.2.2.1, eB]
        refine addP_congr (fun p f a b c d => ?_)
        have hP := h.2.2.1
        rw [Dq_coC hD7]
        exact coC_d (h.2.2.2 p a (by omega)).1 z74
      have ev : v = costA σ0 (pD (mBest σ0 L)) := by
        rw [eB]
        have e1 : possA σ7 (σ7 4 0 4) ↔ possA σ0 (pD bb) := by
          rw [possA_d hC7 z74]
          unfold possA
          rw [Dq_gA hD7]
          simp only [hD7.2.1, hD7.2.2.1]
        unfold costA
        by_cases c : possA σ0 (pD bb)
        · rw [if_pos c, hv1 (e1.mpr c), Dq_gA hD7, Dq_CG hD7]
          exact CG_d (by have := h.1.1; omega) z74 (fun p a b f => gA_d (h.2.2.2 p a (by have := h.2.2.1; omega)).1 z74)
        · rw [if_neg c]
          refine hv2 (Classical.byContradiction (fun y => c (e1.mp (fun p a b f c' d => ?_))))
          exact fun y' => y ⟨p, a, b, f, c', d, y'⟩
      have hvb : okN v := by
        rw [ev, eB]
        unfold costA
        by_cases c : possA σ0 (pD bb)
        · rw [if_pos c]
          exact Or.inr (CG_bd h (fun c c0 c1 => by have := pD_bd hVF.1.1.1 hVF.1.1.2 c; omega) ⟨hVF.2.1, c⟩ (fun p p0 p1 f f0 f1 => AnC_bd (h.2.2.2 p p0 p1).1))
        · rw [if_neg c]; exact Or.inl rfl
      have q9 : ∀ k i, σ9 4 0 k i = σ7 4 0 k i := fun k i => hE9 4 0 k i (by unfold Sh; omega)
      have z93 : σ9 4 0 3 0 = u := by rw [q9, p7 _ _ _ _ (by omega), q4]; exact h8
      have z92 : σ9 4 0 2 0 = x := by rw [q9]; exact z72
      have z91 : σ9 4 0 1 0 = e := by rw [q9, p7 _ _ _ _ (by omega), q4]; exact h6
      have z90 : σ9 4 0 0 0 = r := by rw [q9]; exact z70r
      have z957 : σ9 5 0 7 0 = 0 := by rw [hE9 5 0 7 0 (by unfold Sh; omega), p7 _ _ _ _ (by omega)]; exact z70
      have z94 : ∀ c, 0 ≤ c → c < 6 → σ9 4 0 4 c = pD bb c := fun c c0 c1 => by rw [q9]; exact z74 c c0 c1
      have z95 : u ≠ -4 → ∀ c, 0 ≤ c → c < 6 → σ9 4 0 5 c = b c := fun y c c0 c1 => by rw [q9, p7 _ _ _ _ (by omega), q4]; exact h10 y c c0 c1
      have hrn : rnd σ0 (L, r, e, lo, u, m, b) = (addP (coC σ0 L (pD (mBest σ0 L)) r) (σ0 2 0 0 0).toNat (σ0 5 0 3 0).toNat L, r + 1, (if upN v u ≠ -4 ∧ upN v u ≤ x then 1 else 0), x, upN v u, pD bb, bN v u (pD bb) b) := by
        unfold rnd
        rw [if_neg (by rw [eV]; exact hx4)]
        rw [← ev, eV, eB]
      rw [eL] at hL9 hF9
      -- the upper has been settled: is it proved
      have last : ∀ (σa : Mem) (ua : Int) (ba : Int → Int), (∀ c q k i, ¬ (c = 4 ∧ q = 0 ∧ (k = 3 ∨ k = 5)) → σa c q k i = σ9 c q k i) → σa 4 0 3 0 = ua → (ua ≠ -4 → ∀ c, 0 ≤ c → c < 6 → σa 4 0 5 c = ba c) → upN v u = ua → bN v u (pD bb) b = ba → okN ua → Pg_takeCost_43 (fun σ10 => Sr_run_80 (fun z0 z1 z2 => Sr_run_16 Q (k + 1) z0 z1 z2) Q n i x4 σ10) σa := by
        intro σa ua ba pa za zb ea eb hoa
        rw [ea, eb] at hrn
        have za2 : σa 4 0 2 0 = x := by rw [pa _ _ _ _ (by omega)]; exact z92
        have done : ∀ (σb : Mem) (eb' : Int), (∀ c q k i, ¬ (c = 4 ∧ q = 0 ∧ k = 1 ∧ i = 0) → σb c q k i = σa c q k i) → σb 4 0 1 0 = eb' → (if ua ≠ -4 ∧ ua ≤ x then (1 : Int) else 0) = eb' → (0 ≤ eb' ∧ eb' ≤ 2) → Sr_run_80 (fun z0 z1 z2 => Sr_run_16 Q (k + 1) z0 z1 z2) Q n i x4 σb := by
          intro σb eb' pb zb1 ee heb
          refine fin σb 0 ?_
          rw [hrn, ee]
          have pab : ∀ c q k i, ¬ (c = 4 ∧ q = 0) → σb c q k i = σ9 c q k i := fun c q k i y => by rw [pb _ _ _ _ (by omega), pa _ _ _ _ (by omega)]
          refine ⟨hE9'.tr (fun c q k i y => pab c q k i (fun y2 => y (Or.inr (Or.inr (Or.inl y2))))), fun q q0 q1 => ⟨(hA9 q q0 q1).1.eo (fun k hk i => pab _ _ _ _ (by omega)), (hA9 q q0 q1).2.eo (fun i => pab _ _ _ _ (by omega))⟩, hL9.eo (fun k i => pab _ _ _ _ (by omega)), hF9.eo (fun p k hk i => pab _ _ _ _ (by omega)), ?_, zb1, ?_, ?_, fun _ c c0 c1 => ?_, fun y c c0 c1 => ?_, ?_, hx, hoa, heb⟩
          · rw [pb _ _ _ _ (by omega), pa _ _ _ _ (by omega)]; exact z90
          · rw [pb _ _ _ _ (by omega)]; exact za2
          · rw [pb _ _ _ _ (by omega)]; exact za
          · rw [pb _ _ _ _ (by omega), pa _ _ _ _ (by omega)]; exact z94 c c0 c1
          · rw [pb _ _ _ _ (by omega)]; exact zb y c c0 c1
          · rw [pab _ _ _ _ (by omega)]; exact z957
        unfold Pg_takeCost_43
        rw [za, za2]
        unfold okN at hoa
        have hx' := hx
        refine ⟨⟨by omega, by omega⟩, fun y => ?_, fun y => ⟨⟨by omega, by omega⟩, ⟨by omega, by omega⟩, fun y2 => ?_, fun y2 => fun σ5' e5' => ?_⟩⟩
        · exact done σa 0 (fun _ _ _ _ _ => rfl) (by rw [pa _ _ _ _ (by omega), z91]; exact z) (if_neg (fun q => q.1 y)) (by omega)
        · exact done σa 0 (fun _ _ _ _ _ => rfl) (by rw [pa _ _ _ _ (by omega), z91]; exact z) (if_neg (fun q => by omega)) (by omega)
        · exact done σ5' 1 (fun c q k i yy => by rw [e5']; exact up_ne (by omega)) (by rw [e5', up_at]) (if_pos ⟨y, y2⟩) (by omega)
      have win : (v ≠ -4 ∧ (u = -4 ∨ v < u)) → Pg_takeCost_23 (fun σ10 => Sr_run_80 (fun z0 z1 z2 => Sr_run_16 Q (k + 1) z0 z1 z2) Q n i x4 σ10) v σ9 := by
        intro hw
        unfold Pg_takeCost_23
        intro σ1 e1 σ2 e2
        refine last σ2 v (pD bb) (fun c q k i y => ?_) ?_ (fun _ c c0 c1 => ?_) (if_pos hw) (if_pos hw) hvb
        · rw [e2]; unfold cp; rw [if_neg (by omega), e1, up_ne (by omega)]
        · rw [e2]; unfold cp; rw [if_neg (by omega), e1, up_at]
        · rw [e2]; unfold cp; rw [if_pos ⟨rfl, rfl, rfl, c0, c1⟩, e1, up_ne (by omega)]; exact z94 c c0 c1
      have keep : ¬ (v ≠ -4 ∧ (u = -4 ∨ v < u)) → Pg_takeCost_43 (fun σ10 => Sr_run_80 (fun z0 z1 z2 => Sr_run_16 Q (k + 1) z0 z1 z2) Q n i x4 σ10) σ9 := fun hw => last σ9 u b (fun _ _ _ _ _ => rfl) z93 z95 (if_neg hw) (if_neg hw) h13
      unfold Pg_takeCost
      rw [z93]
      unfold okN at hvb h13
      refine ⟨⟨by omega, by omega⟩, fun y => keep (by omega), fun y => ⟨⟨by omega, by omega⟩, fun y2 => win ⟨y, Or.inl y2⟩, fun y2 => ⟨⟨by omega, by omega⟩, ⟨by omega, by omega⟩, fun y3 => keep (by omega), fun y3 => win ⟨y, Or.inr y3⟩⟩⟩⟩
def ansRun (e : Int) : Int := if e = 1 then 1 else if e = 2 then 0 else 2
theorem w_Sr_run {σ : Mem} {n : Int} {s : St} {Q : Int → Mem → Prop} (h : CW σ) (hJ : JS σ) (hn : InR n) (hR : RC σ σ s) (hQo : ¬ (1 ≤ n ∧ n ≤ 50) → Q (-2) σ) (hQ : 1 ≤ n → n ≤ 50 → ∀ σ', RC σ σ' (itr σ n.toNat s) → Q (ansRun (itr σ n.toNat s).2.2.1) σ') : Sr_run n σ Q := by
  unfold Sr_run
  refine ⟨hn, fun z => hQo (by omega), fun z => ⟨hn, fun z2 => ⟨_, w_run_16 h hJ z z2 n.toNat 0 s σ (by omega) (by omega) hR (fun μ' hR' => ?_)⟩, fun z2 => hQo (by omega)⟩⟩
  have q := hQ z z2 μ' hR'
  have e1 : μ' 4 0 1 0 = (itr σ n.toNat s).2.2.1 := hR'.2.2.2.2.2.1
  have b := hR'.2.2.2.2.2.2.2.2.2.2.2.2.2
  unfold ansRun at q
  unfold Sr_run_140
  rw [e1]
  refine ⟨⟨by omega, by omega⟩, fun y => ⟨⟨by omega, by omega⟩, fun y2 => ?_, fun y2 => ?_⟩, fun y => ?_⟩
  · rw [if_neg y, if_neg y2] at q; exact q
  · rw [if_neg y, if_pos y2] at q; exact q
  · rw [if_pos y] at q; exact q
