/-! the digest -/
theorem wp_4 : ∀ p, p < 4 → wi (nI p) 0 3 = true := lt4 (by decide) (by decide) (by decide) (by decide)
theorem wx_n {N x : Nat} (hx : x < N) (hN : N ≤ 30) : wi (nI x) 0 (nI N - 1) = true := by
  unfold wi
  rw [nI_s1 (by omega)]
  simp only [decide_eq_true_eq]
  exact ⟨nI_pos' (by omega), nI_le (by omega) (by omega)⟩
theorem run_two {σ β γ : Type} {N : Nat} (L1 : Nat → Nat → σ → Option β) (L2 : Nat → Nat → σ → Option γ) (I : Nat → σ → Prop) (Q : Option β → Option γ → Prop)
    (h1 : ∀ n m i s, i < N → I i s → ∃ s', I (i + 1) s' ∧ L1 (n + 1) i s = L1 n (i + 1) s' ∧ L2 (m + 1) i s = L2 m (i + 1) s')
    (h0 : ∀ n m s, I N s → Q (L1 (n + 1) N s) (L2 (m + 1) N s)) : ∀ k n m i s, N = i + k → k < n → k < m → I i s → Q (L1 n i s) (L2 m i s) := by
  intro k
  induction k with
  | zero =>
    intro n m i s hk hn hm hI
    obtain ⟨n, rfl⟩ : ∃ a, n = a + 1 := ⟨n - 1, by omega⟩
    obtain ⟨m, rfl⟩ : ∃ a, m = a + 1 := ⟨m - 1, by omega⟩
    have e : i = N := by omega
    rw [e] at hI ⊢
    exact h0 n m s hI
  | succ k ih =>
    intro n m i s hk hn hm hI
    obtain ⟨n, rfl⟩ : ∃ a, n = a + 1 := ⟨n - 1, by omega⟩
    obtain ⟨m, rfl⟩ : ∃ a, m = a + 1 := ⟨m - 1, by omega⟩
    obtain ⟨s', e1, e2, e3⟩ := h1 n m i s (by omega) hI
    rw [e2, e3]
    exact ih n m (i + 1) s' (by omega) (by omega) (by omega) e1
/-- the shares of all, told into a number -/
def dgs (W : Mem) (k : Nat) (w : Nat → Nat) (v : Int64) : Nat → Int64
  | 0 => v
  | i + 1 => 31 * (31 * dgs W k w v i + lN (ra (sA W k w i) (sB W k w i))) + lN (rb (sA W k w i) (sB W k w i))
theorem ds_C {F : Nat} (hF : 2000 ≤ F) {W μ : Mem} (h : Rel μ W) {p : Nat} (hp : p < 4) (c : CB W p) {x : Nat} (hx : x < nm W) : ∃ μ2 μ3, f_X11_share F μ (nI p) (nI x) 0 = some (lN (ra (sA W (kp W p) (wq W p) x) (sB W (kp W p) (wq W p) x)), μ2) ∧ f_X11_share F μ2 (nI p) (nI x) 1 = some (lN (rb (sA W (kp W p) (wq W p) x) (sB W (kp W p) (wq W p) x)), μ3) ∧ SmC μ μ2 ∧ SmC μ μ3 := by
  have go : ∀ (μ : Mem) (a3 : Int32) (w3 : wi a3 0 1 = true), Rel μ W → ∃ μ2, f_X11_share F μ (nI p) (nI x) a3 = some (if a3 = 0 then lN (ra (sA W (kp W p) (wq W p) x) (sB W (kp W p) (wq W p) x)) else lN (rb (sA W (kp W p) (wq W p) x) (sB W (kp W p) (wq W p) x)), μ2) ∧ SmC μ μ2 := by
    intro μ a3 w3 h
    have hN := rw_N h.1
    obtain ⟨c1, c2, c3⟩ := q_C hF h hp c
    have e1 := sh1_C hF c2 c3 hx 73
    refine ⟨_, ?_, smc_2 μ 73 (lN (ra (sA W (kp W p) (wq W p) x) (sB W (kp W p) (wq W p) x))) (lN (rb (sA W (kp W p) (wq W p) x) (sB W (kp W p) (wq W p) x)))⟩
    unfold f_X11_share f_X11_share_b25
    rw [pl_C, hn_eq h, ab_C, wp_4 p hp, wx_n hx hN, w3]
    simp (disch := omega) only [xcp, xca, xbn, if_true, show ¬ (1 : Int32) = 0 by decide, if_false, not_false_eq_true, ck_in, nI_clamp, c1, onul, e1, td_eq F _ 73 w3, ul_s, ul_o]
  obtain ⟨μ2, e1, e2⟩ := go μ 0 (by decide) h
  obtain ⟨μ3, e3, e4⟩ := go μ2 1 (by decide) (rel_c h e2)
  exact ⟨μ2, μ3, by rw [e1, if_pos rfl], by rw [e3, if_neg (by decide)], e2, e2.tr e4⟩
theorem db_C {F : Nat} (hF : 2000 ≤ F) {W μ : Mem} (h : Rel μ W) {p : Nat} (hp : p < 4) (c : CB W p) (v : Int64) : ∃ μ2, f_X11_digestOfPlan_b74 F F μ (nI p) v 0 = some (dgs W (kp W p) (wq W p) v (nm W), μ2) ∧ SmC μ μ2 := by
  have hN := rw_N h.1
  refine run_rel (N := nm W) (fun n i μ' => f_X11_digestOfPlan_b74 F n μ' (nI p) (dgs W (kp W p) (wq W p) v i) (nI i)) (fun i μ' => SmC μ μ') (fun o => ∃ μ2, o = some (dgs W (kp W p) (wq W p) v (nm W), μ2) ∧ SmC μ μ2) (fun n i μ' hi hI => Or.inl ?_) (fun n μ' hI => ?_) F 0 μ (Nat.zero_le _) (by omega) (SmC.rf μ)
  · have hr := rel_c h hI
    obtain ⟨μ2, μ3, e1, e2, e3, e4⟩ := ds_C hF hr hp c hi
    refine ⟨μ3, hI.tr e4, fun y hy => ?_⟩
    rw [dgs] at hy
    unfold f_X11_digestOfPlan_b74
    simp (disch := omega) only [xbn, cw_n hr, br_le_f, e1, e2, xca, nI_1]
    exact hy
  · have hr := rel_c h hI
    unfold f_X11_digestOfPlan_b74
    simp (disch := omega) only [xbn, cw_n hr, br_le_t]
    exact ⟨μ', rfl, hI⟩
theorem db_R {F : Nat} (hF : 2000 ≤ F) {W : Mem} (hw : WF W) {k : Nat} {w : Nat → Nat} {ρ : Mem} (h : R2 W k w ρ) (ho : OK W k w) (k89 : Mem → Int64 → Int32 → Option (Int64 × Mem)) (x3 : Int32) (v : Int64) : ∃ ρ2, f_X12_digest_b177 F k89 F ρ v x3 0 = k89 ρ2 (dgs W k w v (nm W)) (x3 + 1) ∧ SmR W ρ2 := by
  have hN := rw_N hw
  refine run_rel (N := nm W) (fun n i ρ' => f_X12_digest_b177 F k89 n ρ' (dgs W k w v i) x3 (nI i)) (fun i ρ' => R2 W k w ρ') (fun o => ∃ ρ2, o = k89 ρ2 (dgs W k w v (nm W)) (x3 + 1) ∧ SmR W ρ2) (fun n i ρ' hi hI => Or.inl ?_) (fun n ρ' hI => ?_) F 0 ρ (Nat.zero_le _) (by omega) h
  · obtain ⟨ρ4, c1, c2, c3, c4, c5, c6⟩ := fs_eq hF hw hI ho hi
    refine ⟨ρ4, c2, fun y hy => ?_⟩
    rw [dgs] at hy
    unfold f_X12_digest_b177
    simp (disch := omega) only [xbn, rw_n hw hI.1.1, br_le_f, c1, xca, c3, c4, nI_1]
    exact hy
  · unfold f_X12_digest_b177 f_X12_digest_b220
    simp (disch := omega) only [xbn, rw_n hw hI.1.1, br_le_t]
    exact ⟨ρ', rfl, hI.1.1⟩
theorem fl_C {F : Nat} {W μ : Mem} (h : Rel μ W) {p : Nat} (hp : p < 4) : f_X11_fault F μ (nI p) = some (flt W p, μ) := by
  unfold f_X11_fault
  rw [pl_C, wp_4 p hp]
  simp (disch := omega) only [xcp, xbn, if_true, show ¬ (1 : Int32) = 0 by decide, not_false_eq_true, ck_in, nI_clamp]
  exact congrArg (fun v => some (v, μ)) (rp_1 h.2.2.2.1 hp).2.2.1
/-- one plan's part of the digest -/
theorem dp_eq {F : Nat} (hF : 2000 ≤ F) {W μ ρ : Mem} (h : Rel μ W) (hs : SmR W ρ) {p : Nat} (hp : p < 4) (v : Int64) (m : Nat) : ∃ (r : Int64) (μ2 ρ2 : Mem), f_X11_digestOfPlan F μ v (nI p) = some (r, μ2) ∧ f_X12_digest_b89 F (m + 1) ρ v (nI p) = f_X12_digest_b89 F m ρ2 r (nI (p + 1)) ∧ SmC μ μ2 ∧ SmR W ρ2 := by
  have hw := h.1
  obtain ⟨ρ0, r1, r2, _⟩ := rd_eq hF hw hs hp
  unfold f_X11_digestOfPlan
  rw [f_X12_digest_b89]
  unfold f_X12_digest_b129 f_X12_digest_b154
  rw [fl_C h hp, r1]
  simp (disch := omega) only [i_4, br_le_f, xca, xbn]
  by_cases c : CB W p
  · obtain ⟨c1, c2, c3⟩ := q_C hF h hp c
    obtain ⟨ρ1, r3, r4, r5, _⟩ := (cr_eq hF hw r2 hp).1 c
    obtain ⟨ρ2, d1, d2, d3⟩ := dn_eq hF hw r4 c.2 c3.2.2.2
    obtain ⟨μ2, f1, f2⟩ := cw_eq hF c2 c.2 c3.2.2.2
    have rel2 := rel_c h f2
    obtain ⟨c1', c2', _⟩ := q_C hF rel2 hp c
    obtain ⟨μ3, l1, l2⟩ := lo_C hF c2' c3 1
    have r2' : R2 W (kp W p) (wq W p) ρ2 := ⟨r4.sm d2, Or.inl (by rw [d2]; exact r5)⟩
    obtain ⟨ρ3, l3, l4⟩ := lo_R hF hw r2' c3 1
    have can1 : f_X11_can F μ (nI p) = some (1, μ) := by
      unfold f_X11_can
      rw [pl_C, wp_4 p hp]
      simp (disch := omega) only [xcp, xca, xbn, if_true, show ¬ (1 : Int32) = 0 by decide, not_false_eq_true, ck_in, nI_clamp, c1, onul]
    have can2 : f_X11_can F μ2 (nI p) = some (1, μ2) := by
      unfold f_X11_can
      rw [pl_C, wp_4 p hp]
      simp (disch := omega) only [xcp, xca, xbn, if_true, show ¬ (1 : Int32) = 0 by decide, not_false_eq_true, ck_in, nI_clamp, c1', onul]
    have dr : f_X11_draws F μ (nI p) = some (DR W (kp W p) (wq W p), μ2) := by
      unfold f_X11_draws
      rw [pl_C, wp_4 p hp]
      simp (disch := omega) only [xcp, xca, xbn, if_true, show ¬ (1 : Int32) = 0 by decide, not_false_eq_true, ck_in, nI_clamp, c1, onul, f1]
    have lo : f_X11_lots F μ2 (nI p) 1 = some (LO W (kp W p) (wq W p) 1, μ3) := by
      unfold f_X11_lots
      rw [pl_C, wp_4 p hp]
      simp (disch := omega) only [xcp, xca, xbn, if_true, show ¬ (1 : Int32) = 0 by decide, not_false_eq_true, ck_in, nI_clamp, c1', onul, isW_k c2', l1]
    simp only [can1, can2, dr, lo, r3, d1, l3, xca, xbn, xcp, if_true, show ¬ (1 : Int32) = 0 by decide, if_false]
    obtain ⟨μ4, g1, g2⟩ := db_C hF (rel_c rel2 l2) hp c (31 * (31 * (31 * (31 * v + (flt W p).toInt64) + (1 : Int32).toInt64) + DR W (kp W p) (wq W p)) + (LO W (kp W p) (wq W p) 1).toInt64)
    obtain ⟨ρ4, g3, g4⟩ := db_R hF hw l4 c3 (fun μ' x1' x3' => f_X12_digest_b89 F m μ' x1' x3') (nI p) (31 * (31 * (31 * (31 * v + (flt W p).toInt64) + (1 : Int32).toInt64) + DR W (kp W p) (wq W p)) + (LO W (kp W p) (wq W p) 1).toInt64)
    exact ⟨_, μ4, ρ4, g1, by rw [g3, nI_1], (f2.tr l2).tr g2, g4⟩
  · obtain ⟨ρ1, r3, r4⟩ := (cr_eq hF hw r2 hp).2 c
    have can1 : f_X11_can F μ (nI p) = some (0, μ) := by
      unfold f_X11_can
      rw [pl_C, wp_4 p hp]
      simp (disch := omega) only [xcp, xca, xbn, if_true, show ¬ (1 : Int32) = 0 by decide, not_false_eq_true, ck_in, nI_clamp, pw_f hF h hp c, onul]
    have dr : f_X11_draws F μ (nI p) = some (nol (-3), μ) := by
      unfold f_X11_draws
      rw [pl_C, wp_4 p hp]
      simp (disch := omega) only [xcp, xca, xbn, if_true, show ¬ (1 : Int32) = 0 by decide, not_false_eq_true, ck_in, nI_clamp, pw_f hF h hp c, onul, al_C]
    simp only [can1, dr, r3, al_R, xca, xbn, xcp, if_true, show ¬ (0 : Int32) = 1 by decide, if_false]
    unfold f_X12_digest_b220
    exact ⟨_, μ, ρ1, rfl, by rw [nI_1], SmC.rf μ, r4⟩
/-- the facts of one name -/
theorem dgab_eq {F : Nat} (hF : 2000 ≤ F) {μ ρ : Mem} (h : Rel μ ρ) (k1 k2 : Mem → Int64 → Int32 → Option (Int64 × Mem)) (v : Int64) (x : Int32) : ∃ r, f_X11_digest_b53 F k1 F μ v x 0 = k1 μ r (x + 1) ∧ f_X12_digest_b54 F k2 F ρ v x 0 = k2 ρ r (x + 1) := by
  have i_5 : (5 : Int32) = nI 5 := rfl
  refine run_two (N := 5) (fun n i (s : Int64) => f_X11_digest_b53 F k1 n μ s x (nI i)) (fun n i s => f_X12_digest_b54 F k2 n ρ s x (nI i)) (fun _ _ => True) (fun a b => ∃ r, a = k1 μ r (x + 1) ∧ b = k2 ρ r (x + 1)) (fun n m i s hi _ => ?_) (fun n m s _ => ?_) 5 F F 0 v rfl (by omega) (by omega) trivial
  · obtain ⟨r, e1, e2⟩ := sim_about hF μ ρ x (nI i) h
    refine ⟨31 * s + r.toInt64, trivial, ?_, ?_⟩
    · show f_X11_digest_b53 F k1 (n + 1) μ s x (nI i) = _
      rw [f_X11_digest_b53]
      simp (disch := omega) only [i_4, br_lt_f, e1, xca, xbn, nI_1]
    · show f_X12_digest_b54 F k2 (m + 1) ρ s x (nI i) = _
      rw [f_X12_digest_b54]
      simp (disch := omega) only [i_5, br_le_f, e2, xca, xbn, nI_1]
  · refine ⟨s, ?_, ?_⟩
    · show f_X11_digest_b53 F k1 (n + 1) μ s x (nI 5) = _
      rw [f_X11_digest_b53, if_pos (by decide)]
    · show f_X12_digest_b54 F k2 (m + 1) ρ s x (nI 5) = _
      rw [f_X12_digest_b54, if_pos (by decide)]
/-- both tell the same, and nothing is changed -/
def DQ (μ ρ : Mem) (a b : Option (Int64 × Mem)) : Prop := ∃ (r : Int64) (μ2 ρ2 : Mem), a = some (r, μ2) ∧ b = some (r, ρ2) ∧ SmC μ μ2 ∧ SmR ρ ρ2
theorem dq_4 {F : Nat} (hF : 2000 ≤ F) {μ ρ : Mem} (h : Rel μ ρ) (v : Int64) : DQ μ ρ (f_X11_digest_b88 F F μ v 0) (f_X12_digest_b89 F F ρ v 0) := by
  refine run_two (N := 4) (fun n i (s : Int64 × Mem × Mem) => f_X11_digest_b88 F n s.2.1 s.1 (nI i)) (fun n i s => f_X12_digest_b89 F n s.2.2 s.1 (nI i)) (fun _ s => SmC μ s.2.1 ∧ SmR ρ s.2.2) (DQ μ ρ) (fun n m i s hi hI => ?_) (fun n m s hI => ?_) 4 F F 0 (v, μ, ρ) rfl (by omega) (by omega) ⟨SmC.rf μ, SmR.rf ρ⟩
  · obtain ⟨v, μ1, ρ1⟩ := s
    obtain ⟨i1, i2⟩ := hI
    obtain ⟨r, μ2, ρ2, e1, e2, e3, e4⟩ := dp_eq hF (rel_c h i1) i2 hi v m
    refine ⟨(r, μ2, ρ2), ⟨i1.tr e3, e4⟩, ?_, e2⟩
    show f_X11_digest_b88 F (n + 1) μ1 v (nI i) = f_X11_digest_b88 F n μ2 r (nI (i + 1))
    rw [f_X11_digest_b88]
    simp (disch := omega) only [i_4, br_le_f, e1, xca, nI_1]
  · obtain ⟨v, μ1, ρ1⟩ := s
    refine ⟨v, μ1, ρ1, ?_, ?_, hI.1, hI.2⟩
    · show f_X11_digest_b88 F (n + 1) μ1 v (nI 4) = _
      rw [f_X11_digest_b88, if_pos (by decide)]
    · show f_X12_digest_b89 F (m + 1) ρ1 v (nI 4) = _
      rw [f_X12_digest_b89, if_pos (by decide)]
theorem dq_n {F : Nat} (hF : 2000 ≤ F) {μ ρ : Mem} (h : Rel μ ρ) (v : Int64) : DQ μ ρ (f_X11_digest_b39 F F μ v 0) (f_X12_digest_b43 F F ρ v 0) := by
  have hN := rw_N h.1
  have r0 := rw_n h.1 (SmR.rf ρ)
  refine run_two (N := nm ρ) (fun n i (s : Int64) => f_X11_digest_b39 F n μ s (nI i)) (fun n i s => f_X12_digest_b43 F n ρ s (nI i)) (fun _ _ => True) (DQ μ ρ) (fun n m i s hi _ => ?_) (fun n m s _ => ?_) (nm ρ) F F 0 v (Nat.zero_add _).symm (by omega) (by omega) trivial
  · obtain ⟨r, e1, e2⟩ := dgab_eq hF h (fun μ' x1' x3' => f_X11_digest_b39 F n μ' x1' x3') (fun μ' x1' x3' => f_X12_digest_b43 F m μ' x1' x3') s (nI i)
    refine ⟨r, trivial, ?_, ?_⟩
    · show f_X11_digest_b39 F (n + 1) μ s (nI i) = _
      rw [f_X11_digest_b39]
      simp (disch := omega) only [xbn, cw_n h, br_le_f, e1, nI_1]
    · show f_X12_digest_b43 F (m + 1) ρ s (nI i) = _
      rw [f_X12_digest_b43]
      simp (disch := omega) only [xbn, r0, br_le_f, e2, nI_1]
  · show DQ μ ρ (f_X11_digest_b39 F (n + 1) μ s (nI (nm ρ))) (f_X12_digest_b43 F (m + 1) ρ s (nI (nm ρ)))
    rw [f_X11_digest_b39, f_X12_digest_b43]
    simp (disch := omega) only [xbn, cw_n h, r0, br_le_t]
    exact dq_4 hF h s
theorem sim_digest {F : Nat} (hF : 2000 ≤ F) (μ ρ : Mem) (h : Rel μ ρ) : ∃ (r : Int64) (μ2 ρ2 : Mem), f_X11_digest F μ = some (r, μ2) ∧ f_X12_digest F ρ = some (r, ρ2) ∧ Rel μ2 ρ2 := by
  have hq : DQ μ ρ (f_X11_digest_b6 F F μ 17 0) (f_X12_digest_b6 F F ρ 17 0) := by
    refine run_two (N := 10) (fun n i (s : Int64) => f_X11_digest_b6 F n μ s (nI i)) (fun n i s => f_X12_digest_b6 F n ρ s (nI i)) (fun _ _ => True) (DQ μ ρ) (fun n m i s hi _ => ?_) (fun n m s _ => ?_) 10 F F 0 17 rfl (by omega) (by omega) trivial
    · by_cases q : i = 8
      · refine ⟨s, trivial, ?_, ?_⟩
        · show f_X11_digest_b6 F (n + 1) μ s (nI i) = _
          rw [f_X11_digest_b6]
          unfold f_X11_digest_b31
          simp (disch := omega) only [i_9, i_8, br_lt_f, br_eq_t, nI_1]
        · show f_X12_digest_b6 F (m + 1) ρ s (nI i) = _
          rw [f_X12_digest_b6]
          unfold f_X12_digest_b34
          simp (disch := omega) only [i_10, i_8, ite_not, br_le_f, br_eq_t, nI_1]
      · obtain ⟨r, e1, e2⟩ := sim_count hF μ ρ (nI i) h
        refine ⟨31 * s + r.toInt64, trivial, ?_, ?_⟩
        · show f_X11_digest_b6 F (n + 1) μ s (nI i) = _
          rw [f_X11_digest_b6]
          unfold f_X11_digest_b31
          simp (disch := omega) only [i_9, i_8, br_lt_f, br_eq_f, e1, xca, xbn, nI_1]
        · show f_X12_digest_b6 F (m + 1) ρ s (nI i) = _
          rw [f_X12_digest_b6]
          unfold f_X12_digest_b34
          simp (disch := omega) only [i_10, i_8, ite_not, br_le_f, br_eq_f, e2, xca, nI_1]
    · show DQ μ ρ (f_X11_digest_b6 F (n + 1) μ s (nI 10)) (f_X12_digest_b6 F (m + 1) ρ s (nI 10))
      rw [f_X11_digest_b6, f_X12_digest_b6, if_pos (by decide), if_pos (by decide)]
      exact dq_n hF h s
  obtain ⟨r, μ2, ρ2, e1, e2, e3, e4⟩ := hq
  exact ⟨r, μ2, ρ2, e1, e2, rel_same h e3 e4⟩
