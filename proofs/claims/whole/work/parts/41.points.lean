/-! draws along points: e and z -/
/-- points of a plan e (k = 3) or z (k = 4) -/
def PT (W : Mem) (k : Nat) (w : Nat → Nat) : Nat := if k = 3 then w 0 else stp W w
/-- where the first place at or behind name x on the line comes, from point u on -/
def jz (W : Mem) (w : Nat → Nat) (u x : Nat) : Nat := if ssz W x ≤ u then 0 else (ssz W x - u + stp W w - 1) / stp W w
def inD (W : Mem) (k : Nat) (w : Nat → Nat) (u x : Nat) : Bool := if k = 3 then decide (x % w 0 = u) else decide (jz W w u x < w 0 ∧ u + jz W w u x * stp W w < ssz W (x + 1))
def DA (W : Mem) (k : Nat) (w : Nat → Nat) (u : Nat) : Nat := msk (inD W k w u) (nm W)
theorem DA_lt {W : Mem} (k : Nat) (w : Nat → Nat) (u : Nat) : DA W k w u < 2 ^ nm W := msk_lt _ _
/-- what is needed of a plan e or z -/
def PK (W : Mem) (k : Nat) (w : Nat → Nat) : Prop := (k = 3 ∧ 1 ≤ w 0 ∧ w 0 ≤ 30) ∨ (k = 4 ∧ 1 ≤ w 0 ∧ w 0 ≤ 99 ∧ 1 ≤ stp W w)
theorem PK.pos {W : Mem} {k : Nat} {w : Nat → Nat} (h : PK W k w) : 1 ≤ w 0 ∧ w 0 ≤ 99 ∧ 1 ≤ PT W k w := by
  unfold PT
  rcases h with ⟨rfl, h1, h2⟩ | ⟨rfl, h1, h2, h3⟩
  · exact ⟨h1, by omega, h1⟩
  · exact ⟨h1, h2, h3⟩
theorem PT_le {W : Mem} (hw : WF W) {k : Nat} {w : Nat → Nat} (h : PK W k w) : PT W k w ≤ 600 := by
  unfold PT
  rcases h with ⟨rfl, h1, h2⟩ | ⟨rfl, h1, h2, h3⟩
  · simp only [if_true]; omega
  · exact stp_le hw w
/-- the reference's drawOf -/
theorem do_eq {F : Nat} (hF : 2000 ≤ F) {W : Mem} (hw : WF W) {k : Nat} {w : Nat → Nat} {ρ : Mem} (h : RY W k w ρ) (hk : PK W k w) {u : Nat} (hu : u < 1000) : f_X12_drawOf F ρ (nI u) = some (nI (DA W k w u), ρ) := by
  obtain ⟨h1, h2, h3, h4, k1, k5⟩ := id h
  have hN := rw_N hw
  have e0 := rw_n hw h1
  have sp := stp_le hw w
  unfold f_X12_drawOf
  rcases hk with ⟨rfl, b1, b2⟩ | ⟨rfl, b1, b2, b3⟩
  · have n0 := h3 0 (by decide)
    refine run_up (N := nm W) (fun n i => f_X12_drawOf_b7 F n ρ (nI u) (nI (msk (inD W 3 w u) i)) 0 (nI i)) (fun n i hi y hy => ?_) (fun n => ?_) F 0 (Nat.zero_le _) (by omega)
    · have ml := Nat.mod_lt i (show 0 < w 0 by omega)
      unfold f_X12_drawOf_b7 f_X12_drawOf_b47 f_X12_drawOf_b128
      simp (disch := omega) only [xbn, ite_not, br_le_t, br_le_f, br_lt_t, br_lt_f, br_eq_t, br_eq_f, br_le0_t, br_le0_f, br_lt1_t, br_lt1_f, br_1le_t, br_1le_f, br_eq0_t, br_eq0_f, br_eq1_t, br_eq1_f, br_0le, br_lt0, br_0lt_t, br_0lt_f, br_m1, iof, i_2, i_3, i_4, i_8, i_9, i_10, i_20, i_30, i_90, i_120, i_256, cl_0, cl_1, cl_2, cl_3, Int32.add_zero, nI_add, nI_1, pk_mul, nI_s1, sb_m1, ck_in, ck_0, ck_1, nI_clamp, xcp, xca, xbn, e0, h2, kc, show ¬ (3 : Nat) = 1 by decide, show ¬ (3 : Nat) = 2 by decide, if_false, if_true, n0, dvi_n, pk_rem, one_shl]
      rw [msk_s] at hy
      by_cases q : i % w 0 = u
      · simp (disch := omega) only [xbn, ite_not, br_le_t, br_le_f, br_lt_t, br_lt_f, br_eq_t, br_eq_f, br_le0_t, br_le0_f, br_lt1_t, br_lt1_f, br_1le_t, br_1le_f, br_eq0_t, br_eq0_f, br_eq1_t, br_eq1_f, br_0le, br_lt0, br_0lt_t, br_0lt_f, br_m1, iof, i_2, i_3, i_4, i_8, i_9, i_10, i_20, i_30, i_90, i_120, i_256, cl_0, cl_1, cl_2, cl_3, Int32.add_zero, nI_add, nI_1, pk_mul, nI_s1, sb_m1, ck_in, ck_0, ck_1, nI_clamp, xcp, xca, xbn, nI_or, msk_or]
        rw [if_pos (by unfold inD; rw [if_pos rfl]; simp [q])] at hy
        exact hy
      · simp (disch := omega) only [xbn, ite_not, br_le_t, br_le_f, br_lt_t, br_lt_f, br_eq_t, br_eq_f, br_le0_t, br_le0_f, br_lt1_t, br_lt1_f, br_1le_t, br_1le_f, br_eq0_t, br_eq0_f, br_eq1_t, br_eq1_f, br_0le, br_lt0, br_0lt_t, br_0lt_f, br_m1, iof, i_2, i_3, i_4, i_8, i_9, i_10, i_20, i_30, i_90, i_120, i_256, cl_0, cl_1, cl_2, cl_3, Int32.add_zero, nI_add, nI_1, pk_mul, nI_s1, sb_m1, ck_in, ck_0, ck_1, nI_clamp, xcp, xca, xbn]
        rw [if_neg (by unfold inD; rw [if_pos rfl]; simp [q])] at hy
        rw [show (0 : Int32) = nI 0 from rfl, nI_or, Nat.or_zero]
        exact hy
    · unfold f_X12_drawOf_b7
      simp (disch := omega) only [xbn, ite_not, br_le_t, br_le_f, br_lt_t, br_lt_f, br_eq_t, br_eq_f, br_le0_t, br_le0_f, br_lt1_t, br_lt1_f, br_1le_t, br_1le_f, br_eq0_t, br_eq0_f, br_eq1_t, br_eq1_f, br_0le, br_lt0, br_0lt_t, br_0lt_f, br_m1, iof, i_2, i_3, i_4, i_8, i_9, i_10, i_20, i_30, i_90, i_120, i_256, cl_0, cl_1, cl_2, cl_3, Int32.add_zero, nI_add, nI_1, pk_mul, nI_s1, sb_m1, ck_in, ck_0, ck_1, nI_clamp, xcp, xca, xbn, e0]
      rfl
  · have n0 := h3 0 (by decide)
    have n20 : ρ.1 0 20 = nI (stp W w) := h4 rfl
    refine run_up (N := nm W) (fun n i => f_X12_drawOf_b7 F n ρ (nI u) (nI (msk (inD W 4 w u) i)) (nI (ssz W i)) (nI i)) (fun n i hi y hy => ?_) (fun n => ?_) F 0 (Nat.zero_le _) (by omega)
    · obtain ⟨s1, s2, s3⟩ := rw_s hw h1 hi
      have sl := ssz_le W hw i (by omega)
      have hss : ssz W (i + 1) = ssz W i + sz W i := rfl
      have fin : ∀ z : Nat, z = jz W w u i → z ≤ 1300 → f_X12_drawOf_b87 F (fun μ' x1' x2' x3' x4' => f_X12_drawOf_b7 F n μ' x1' x2' x3' x4') ρ (nI u) (nI (msk (inD W 4 w u) i)) (nI i) (nI (ssz W i + sz W i)) (nI z) = y := by
        intro z hz hzl
        have zs : z * stp W w ≤ 1300 * 600 := Nat.mul_le_mul hzl sp
        unfold f_X12_drawOf_b87 f_X12_drawOf_b122 f_X12_drawOf_b123 f_X12_drawOf_b128
        simp (disch := omega) only [xbn, ite_not, br_le_t, br_le_f, br_lt_t, br_lt_f, br_eq_t, br_eq_f, br_le0_t, br_le0_f, br_lt1_t, br_lt1_f, br_1le_t, br_1le_f, br_eq0_t, br_eq0_f, br_eq1_t, br_eq1_f, br_0le, br_lt0, br_0lt_t, br_0lt_f, br_m1, iof, i_2, i_3, i_4, i_8, i_9, i_10, i_20, i_30, i_90, i_120, i_256, cl_0, cl_1, cl_2, cl_3, Int32.add_zero, nI_add, nI_1, pk_mul, nI_s1, sb_m1, ck_in, ck_0, ck_1, nI_clamp, xcp, xca, xbn, n0, n20, one_shl]
        rw [msk_s, hss] at hy
        by_cases q1 : w 0 ≤ z
        · simp (disch := omega) only [xbn, ite_not, br_le_t, br_le_f, br_lt_t, br_lt_f, br_eq_t, br_eq_f, br_le0_t, br_le0_f, br_lt1_t, br_lt1_f, br_1le_t, br_1le_f, br_eq0_t, br_eq0_f, br_eq1_t, br_eq1_f, br_0le, br_lt0, br_0lt_t, br_0lt_f, br_m1, iof, i_2, i_3, i_4, i_8, i_9, i_10, i_20, i_30, i_90, i_120, i_256, cl_0, cl_1, cl_2, cl_3, Int32.add_zero, nI_add, nI_1, pk_mul, nI_s1, sb_m1, ck_in, ck_0, ck_1, nI_clamp, xcp, xca, xbn]
          rw [if_neg (by unfold inD; rw [if_neg (by decide), ← hz]; simp; omega)] at hy
          rw [show (0 : Int32) = nI 0 from rfl, nI_or, Nat.or_zero]
          exact hy
        · by_cases q2 : ssz W i + sz W i ≤ u + z * stp W w
          · simp (disch := omega) only [xbn, ite_not, br_le_t, br_le_f, br_lt_t, br_lt_f, br_eq_t, br_eq_f, br_le0_t, br_le0_f, br_lt1_t, br_lt1_f, br_1le_t, br_1le_f, br_eq0_t, br_eq0_f, br_eq1_t, br_eq1_f, br_0le, br_lt0, br_0lt_t, br_0lt_f, br_m1, iof, i_2, i_3, i_4, i_8, i_9, i_10, i_20, i_30, i_90, i_120, i_256, cl_0, cl_1, cl_2, cl_3, Int32.add_zero, nI_add, nI_1, pk_mul, nI_s1, sb_m1, ck_in, ck_0, ck_1, nI_clamp, xcp, xca, xbn]
            rw [if_neg (by unfold inD; rw [if_neg (by decide), ← hz, hss]; simp; omega)] at hy
            rw [show (0 : Int32) = nI 0 from rfl, nI_or, Nat.or_zero]
            exact hy
          · simp (disch := omega) only [xbn, ite_not, br_le_t, br_le_f, br_lt_t, br_lt_f, br_eq_t, br_eq_f, br_le0_t, br_le0_f, br_lt1_t, br_lt1_f, br_1le_t, br_1le_f, br_eq0_t, br_eq0_f, br_eq1_t, br_eq1_f, br_0le, br_lt0, br_0lt_t, br_0lt_f, br_m1, iof, i_2, i_3, i_4, i_8, i_9, i_10, i_20, i_30, i_90, i_120, i_256, cl_0, cl_1, cl_2, cl_3, Int32.add_zero, nI_add, nI_1, pk_mul, nI_s1, sb_m1, ck_in, ck_0, ck_1, nI_clamp, xcp, xca, xbn, nI_or, msk_or]
            rw [if_pos (by unfold inD; rw [if_neg (by decide), ← hz, hss]; simp; omega)] at hy
            exact hy
      unfold f_X12_drawOf_b7
      simp only [xbn, e0, h2, kc, show ¬ (4 : Nat) = 1 by decide, show ¬ (4 : Nat) = 2 by decide, show ¬ (4 : Nat) = 3 by decide, if_false, if_true, show ¬ (122 : Int32) = 101 by decide, not_false_eq_true]
      simp (disch := omega) only [xbn, ite_not, br_le_t, br_le_f, br_lt_t, br_lt_f, br_eq_t, br_eq_f, br_le0_t, br_le0_f, br_lt1_t, br_lt1_f, br_1le_t, br_1le_f, br_eq0_t, br_eq0_f, br_eq1_t, br_eq1_f, br_0le, br_lt0, br_0lt_t, br_0lt_f, br_m1, iof, i_2, i_3, i_4, i_8, i_9, i_10, i_20, i_30, i_90, i_120, i_256, cl_0, cl_1, cl_2, cl_3, Int32.add_zero, nI_add, nI_1, pk_mul, nI_s1, sb_m1, ck_in, ck_0, ck_1, nI_clamp, xcp, xca, xbn, s1, n20]
      by_cases q : ssz W i ≤ u
      · simp (disch := omega) only [xbn, ite_not, br_le_t, br_le_f, br_lt_t, br_lt_f, br_eq_t, br_eq_f, br_le0_t, br_le0_f, br_lt1_t, br_lt1_f, br_1le_t, br_1le_f, br_eq0_t, br_eq0_f, br_eq1_t, br_eq1_f, br_0le, br_lt0, br_0lt_t, br_0lt_f, br_m1, iof, i_2, i_3, i_4, i_8, i_9, i_10, i_20, i_30, i_90, i_120, i_256, cl_0, cl_1, cl_2, cl_3, Int32.add_zero, nI_add, nI_1, pk_mul, nI_s1, sb_m1, ck_in, ck_0, ck_1, nI_clamp, xcp, xca, xbn]
        exact fin 0 (by unfold jz; rw [if_pos q]) (by omega)
      · have dl := Nat.div_le_self (ssz W i - u + stp W w - 1) (stp W w)
        simp (disch := omega) only [xbn, ite_not, br_le_t, br_le_f, br_lt_t, br_lt_f, br_eq_t, br_eq_f, br_le0_t, br_le0_f, br_lt1_t, br_lt1_f, br_1le_t, br_1le_f, br_eq0_t, br_eq0_f, br_eq1_t, br_eq1_f, br_0le, br_lt0, br_0lt_t, br_0lt_f, br_m1, iof, i_2, i_3, i_4, i_8, i_9, i_10, i_20, i_30, i_90, i_120, i_256, cl_0, cl_1, cl_2, cl_3, Int32.add_zero, nI_add, nI_1, pk_mul, nI_s1, sb_m1, ck_in, ck_0, ck_1, nI_clamp, xcp, xca, xbn, pk_sub, dvi_n, pk_div]
        exact fin _ (by unfold jz; rw [if_neg q]) (by omega)
    · unfold f_X12_drawOf_b7
      simp (disch := omega) only [xbn, ite_not, br_le_t, br_le_f, br_lt_t, br_lt_f, br_eq_t, br_eq_f, br_le0_t, br_le0_f, br_lt1_t, br_lt1_f, br_1le_t, br_1le_f, br_eq0_t, br_eq0_f, br_eq1_t, br_eq1_f, br_0le, br_lt0, br_0lt_t, br_0lt_f, br_m1, iof, i_2, i_3, i_4, i_8, i_9, i_10, i_20, i_30, i_90, i_120, i_256, cl_0, cl_1, cl_2, cl_3, Int32.add_zero, nI_add, nI_1, pk_mul, nI_s1, sb_m1, ck_in, ck_0, ck_1, nI_clamp, xcp, xca, xbn, e0]
      rfl
/-- the class: each so-many-th -/
theorem rl_eq {F : Nat} (hF : 2000 ≤ F) {W : Mem} {w : Nat → Nat} {t : Nat} {μ : Mem} (h : WY W 3 w t μ) (b1 : 1 ≤ w 0) (b2 : w 0 ≤ 30) {u : Nat} (hu : u < w 0) : f_X4_drawRoundList F μ t (nI u) = some (nI (DA W 3 w u), μ) := by
  have hN := rw_N h.1.1
  have c0 := cw_n h.1
  have n0 := h.num (show 0 < cntOf 3 by decide)
  unfold f_X4_drawRoundList mxi
  have e : (if (1 : Int32) < nI (w 0) then nI (w 0) else 1) = nI (w 0) := by
    by_cases q : w 0 = 1
    · rw [q]; rfl
    · exact if_pos (nI_lt (show 1 < w 0 by omega) (by omega))
  simp (disch := omega) only [xbn, ite_not, br_le_t, br_le_f, br_lt_t, br_lt_f, br_eq_t, br_eq_f, br_le0_t, br_le0_f, br_lt1_t, br_lt1_f, br_1le_t, br_1le_f, br_eq0_t, br_eq0_f, br_eq1_t, br_eq1_f, br_0le, br_lt0, br_0lt_t, br_0lt_f, br_m1, iof, i_2, i_3, i_4, i_8, i_9, i_10, i_20, i_30, i_90, i_120, i_256, cl_0, cl_1, cl_2, cl_3, Int32.add_zero, nI_add, nI_1, pk_mul, nI_s1, sb_m1, ck_in, ck_0, ck_1, nI_clamp, xcp, xca, xbn, n0, e]
  -- behind i steps: the names below u + i w
  have key : ∀ (n i : Nat), 50 < n + i → (i = 0 ∨ u + (i - 1) * w 0 < nm W) → f_X4_drawRoundList_b16 F n μ t (nI (msk (fun x => decide (x % w 0 = u ∧ x < u + i * w 0)) (nm W))) (nI (w 0)) (nI (u + i * w 0)) = some (nI (DA W 3 w u), μ) := by
    intro n
    induction n with
    | zero =>
      intro i h1 h2
      have : i * 1 ≤ i * w 0 := Nat.mul_le_mul_left _ b1
      have h3 : (i - 1) * 1 ≤ (i - 1) * w 0 := Nat.mul_le_mul_left _ b1
      omega
    | succ n ih =>
      intro i h1 h2
      have h3 : (i - 1) * 1 ≤ (i - 1) * w 0 := Nat.mul_le_mul_left _ b1
      have i31 : i ≤ 31 := by omega
      have iw : i * w 0 ≤ 31 * 30 := Nat.mul_le_mul i31 b2
      unfold f_X4_drawRoundList_b16
      by_cases q : nm W ≤ u + i * w 0
      · simp (disch := omega) only [xbn, ite_not, br_le_t, br_le_f, br_lt_t, br_lt_f, br_eq_t, br_eq_f, br_le0_t, br_le0_f, br_lt1_t, br_lt1_f, br_1le_t, br_1le_f, br_eq0_t, br_eq0_f, br_eq1_t, br_eq1_f, br_0le, br_lt0, br_0lt_t, br_0lt_f, br_m1, iof, i_2, i_3, i_4, i_8, i_9, i_10, i_20, i_30, i_90, i_120, i_256, cl_0, cl_1, cl_2, cl_3, Int32.add_zero, nI_add, nI_1, pk_mul, nI_s1, sb_m1, ck_in, ck_0, ck_1, nI_clamp, xcp, xca, xbn, c0]
        have e2 : msk (fun x => decide (x % w 0 = u ∧ x < u + i * w 0)) (nm W) = DA W 3 w u := msk_cg (fun x hx => by
          unfold inD
          rw [if_pos rfl]
          have : x < u + i * w 0 := by omega
          simp [this])
        rw [e2]
      · simp (disch := omega) only [xbn, ite_not, br_le_t, br_le_f, br_lt_t, br_lt_f, br_eq_t, br_eq_f, br_le0_t, br_le0_f, br_lt1_t, br_lt1_f, br_1le_t, br_1le_f, br_eq0_t, br_eq0_f, br_eq1_t, br_eq1_f, br_0le, br_lt0, br_0lt_t, br_0lt_f, br_m1, iof, i_2, i_3, i_4, i_8, i_9, i_10, i_20, i_30, i_90, i_120, i_256, cl_0, cl_1, cl_2, cl_3, Int32.add_zero, nI_add, nI_1, pk_mul, nI_s1, sb_m1, ck_in, ck_0, ck_1, nI_clamp, xcp, xca, xbn, c0, one_shl, nI_or]
        rw [msk_set _ (fun x => decide (x % w 0 = u ∧ x < u + (i + 1) * w 0)) (k := u + i * w 0) (by omega) hN (by
            rw [Nat.add_mul_mod_self_right, Nat.mod_eq_of_lt hu, Nat.add_mul]
            simp
            omega) (fun x hx => by
            apply decide_eq_decide.mpr
            rw [Nat.add_mul]
            constructor
            · rintro ⟨a1, a2⟩
              refine ⟨a1, ?_⟩
              rcases Nat.lt_or_ge x (u + i * w 0) with q2 | q2
              · exact q2
              · exfalso
                obtain ⟨d, hd⟩ := Nat.le.dest q2
                have hd2 : d < w 0 := by omega
                have hd0 : 0 < d := by omega
                rw [← hd, show u + i * w 0 + d = (u + d) + i * w 0 by omega, Nat.add_mul_mod_self_right] at a1
                rcases Nat.lt_or_ge (u + d) (w 0) with q3 | q3
                · rw [Nat.mod_eq_of_lt q3] at a1; omega
                · rw [Nat.mod_eq_sub_mod q3, Nat.mod_eq_of_lt (by omega)] at a1; omega
            · rintro ⟨a1, a2⟩
              exact ⟨a1, by omega⟩)]
        have := ih (i + 1) (by omega) (Or.inr (by rw [Nat.add_sub_cancel]; omega))
        rw [show u + (i + 1) * w 0 = u + i * w 0 + w 0 by rw [Nat.add_mul]; omega] at this
        rw [show u + (i + 1) * w 0 = u + i * w 0 + w 0 by rw [Nat.add_mul]; omega]
        exact this
  have k0 := key F 0 (by omega) (Or.inl rfl)
  rw [Nat.zero_mul, Nat.add_zero, msk_0 (fun x hx => by
    have : ¬ (x % w 0 = u ∧ x < u) := by
      rintro ⟨a1, a2⟩
      have := Nat.mod_le x (w 0)
      omega
    simp [this])] at k0
  exact k0
/-- whose place it is -/
theorem own_at {W : Mem} (hw : WF W) : ∀ (n at_ : Nat), n ≤ nm W → at_ < ssz W n → ∃ x, x < n ∧ ssz W x ≤ at_ ∧ at_ < ssz W (x + 1)
  | 0, _, _, h => absurd h (Nat.not_lt_zero _)
  | n + 1, a, hn, h => by
    rcases Nat.lt_or_ge a (ssz W n) with q | q
    · obtain ⟨x, h1, h2⟩ := own_at hw n a (by omega) q
      exact ⟨x, by omega, h2⟩
    · exact ⟨n, by omega, q, h⟩
theorem own_one {W : Mem} {x y a : Nat} (h1 : ssz W x ≤ a) (h2 : a < ssz W (x + 1)) (h3 : ssz W y ≤ a) (h4 : a < ssz W (y + 1)) : x = y := by
  rcases Nat.lt_trichotomy x y with q | q | q
  · have := ssz_mono W (a := x + 1) (b := y) (by omega); omega
  · exact q
  · have := ssz_mono W (a := y + 1) (b := x) (by omega); omega
/-- some place of x is reached from u by fewer than m steps -/
def rch (W : Mem) (w : Nat → Nat) (u x : Nat) : Nat → Bool
  | 0 => false
  | j + 1 => rch W w u x j || decide (ssz W x ≤ u + j * stp W w ∧ u + j * stp W w < ssz W (x + 1))
theorem rch_iff {W : Mem} {w : Nat → Nat} {u x : Nat} : ∀ m, rch W w u x m = true ↔ ∃ j, j < m ∧ ssz W x ≤ u + j * stp W w ∧ u + j * stp W w < ssz W (x + 1)
  | 0 => by constructor
            · intro h; cases h
            · rintro ⟨j, hj, _⟩; exact absurd hj (Nat.not_lt_zero _)
  | m + 1 => by
    rw [rch, Bool.or_eq_true, rch_iff m, decide_eq_true_eq]
    constructor
    · rintro (⟨j, h1, h2⟩ | h)
      · exact ⟨j, by omega, h2⟩
      · exact ⟨m, by omega, h⟩
    · rintro ⟨j, h1, h2⟩
      by_cases e : j = m
      · subst e; exact Or.inr h2
      · exact Or.inl ⟨j, by omega, h2⟩
theorem jz_ge {W : Mem} {w : Nat → Nat} {u x : Nat} (hs : 1 ≤ stp W w) : ssz W x ≤ u + jz W w u x * stp W w := by
  unfold jz
  by_cases q : ssz W x ≤ u
  · rw [if_pos q]; omega
  · rw [if_neg q]
    have h := Nat.div_add_mod (ssz W x - u + stp W w - 1) (stp W w)
    have h2 := Nat.mod_lt (ssz W x - u + stp W w - 1) (show 0 < stp W w by omega)
    rw [Nat.mul_comm] at h
    omega
theorem jz_le {W : Mem} {w : Nat → Nat} {u x j : Nat} (hs : 1 ≤ stp W w) (h : ssz W x ≤ u + j * stp W w) : jz W w u x ≤ j := by
  unfold jz
  by_cases q : ssz W x ≤ u
  · rw [if_pos q]; omega
  · rw [if_neg q]
    have : (ssz W x - u + stp W w - 1) / stp W w < j + 1 := by
      rw [Nat.div_lt_iff_lt_mul (by omega), Nat.add_mul]
      omega
    omega
theorem rch_inD {W : Mem} {w : Nat → Nat} {u x : Nat} (hs : 1 ≤ stp W w) : rch W w u x (w 0) = inD W 4 w u x := by
  unfold inD
  rw [if_neg (by decide)]
  have : rch W w u x (w 0) = true ↔ (jz W w u x < w 0 ∧ u + jz W w u x * stp W w < ssz W (x + 1)) := by
    rw [rch_iff]
    constructor
    · rintro ⟨j, h1, h2, h3⟩
      have l := jz_le hs h2
      have m : jz W w u x * stp W w ≤ j * stp W w := Nat.mul_le_mul_right _ l
      omega
    · rintro ⟨h1, h2⟩
      exact ⟨_, h1, jz_ge hs, h2⟩
  cases hr : rch W w u x (w 0) with
  | true => rw [hr] at this; symm; simpa using this.mp rfl
  | false =>
    rw [hr] at this
    symm
    apply decide_eq_false
    intro q
    exact absurd (this.mpr q) (by decide)
/-- the class: along the sizes -/
theorem ls_dr {F : Nat} (hF : 2000 ≤ F) {W : Mem} {w : Nat → Nat} {t : Nat} {μ : Mem} (h : WY W 4 w t μ) (b1 : 1 ≤ w 0) (b2 : w 0 ≤ 99) (b3 : 1 ≤ stp W w) {u : Nat} (hu : u < stp W w) : f_X4_drawAlongSizes F μ t (nI u) = some (nI (DA W 4 w u), μ) := by
  have hN := rw_N h.1.1
  have sp := stp_le h.1.1 w
  have sl := ssz_le W h.1.1 (nm W) (Nat.le_refl _)
  have n0 := h.num (show 0 < cntOf 4 by decide)
  have fits : stp W w * w 0 ≤ ssz W (nm W) := Nat.div_mul_le_self _ _
  unfold f_X4_drawAlongSizes
  rw [ls_eq F h (Or.inr rfl) b2, if_neg (by omega), show ssz W (nm W) / w 0 = stp W w from rfl]
  simp only [xca]
  have e2 : DA W 4 w u = msk (fun x => rch W w u x (w 0)) (nm W) := msk_cg (fun x _ => (rch_inD b3).symm)
  rw [e2]
  have z : nI (msk (fun x => rch W w u x 0) (nm W)) = 0 := by rw [msk_0 (f := fun x => rch W w u x 0) (fun _ _ => rfl)]; rfl
  have key := run_up (N := w 0) (r := some (nI (msk (fun x => rch W w u x (w 0)) (nm W)), μ)) (fun n i => f_X4_drawAlongSizes_b10 F n μ t (nI u) (nI (stp W w)) (nI (msk (fun x => rch W w u x i) (nm W))) (nI i)) (fun n i hi y hy => ?_) (fun n => ?_) F 0 (Nat.zero_le _) (by omega)
  · simp only [z] at key
    exact key
  · have is1 : (i + 1) * stp W w ≤ w 0 * stp W w := Nat.mul_le_mul_right _ hi
    rw [Nat.add_mul, Nat.one_mul, Nat.mul_comm (w 0)] at is1
    obtain ⟨x, x1, x2, x3⟩ := own_at h.1.1 (nm W) (u + i * stp W w) (Nat.le_refl _) (by omega)
    have x4 : ssz W (x + 1) = ssz W x + sz W x := rfl
    have ow := cw_o h.1 x1 (x := u + i * stp W w - ssz W x) (by omega)
    rw [show ssz W x + (u + i * stp W w - ssz W x) = u + i * stp W w by omega] at ow
    unfold f_X4_drawAlongSizes_b10 f_X4_drawAlongSizes_b62
    simp (disch := omega) only [xbn, ite_not, br_le_t, br_le_f, br_lt_t, br_lt_f, br_eq_t, br_eq_f, br_le0_t, br_le0_f, br_lt1_t, br_lt1_f, br_1le_t, br_1le_f, br_eq0_t, br_eq0_f, br_eq1_t, br_eq1_f, br_0le, br_lt0, br_0lt_t, br_0lt_f, br_m1, iof, i_2, i_3, i_4, i_8, i_9, i_10, i_20, i_30, i_90, i_120, i_256, cl_0, cl_1, cl_2, cl_3, Int32.add_zero, nI_add, nI_1, pk_mul, nI_s1, sb_m1, ck_in, ck_0, ck_1, nI_clamp, xcp, xca, xbn, n0, cw_ll h.1]
    have ew : wi (nI (u + i * stp W w)) 0 (nI (ssz W (nm W) - 1)) = true := by
      rw [show (0 : Int32) = nI 0 from rfl, wi_n (by omega) (by omega) (by omega)]
      simp
      omega
    rw [wi_eq, ew]
    simp (disch := omega) only [xbn, ite_not, br_le_t, br_le_f, br_lt_t, br_lt_f, br_eq_t, br_eq_f, br_le0_t, br_le0_f, br_lt1_t, br_lt1_f, br_1le_t, br_1le_f, br_eq0_t, br_eq0_f, br_eq1_t, br_eq1_f, br_0le, br_lt0, br_0lt_t, br_0lt_f, br_m1, iof, i_2, i_3, i_4, i_8, i_9, i_10, i_20, i_30, i_90, i_120, i_256, cl_0, cl_1, cl_2, cl_3, Int32.add_zero, nI_add, nI_1, pk_mul, nI_s1, sb_m1, ck_in, ck_0, ck_1, nI_clamp, xcp, xca, xbn, if_true, show ¬ (1 : Int32) = 0 by decide, if_false, ow, one_shl, nI_or]
    rw [msk_set _ (fun x => rch W w u x (i + 1)) x1 hN (by rw [rch]; simp; exact Or.inr ⟨x2, x3⟩) (fun y hy2 => by
      rw [rch]
      have : ¬ (ssz W y ≤ u + i * stp W w ∧ u + i * stp W w < ssz W (y + 1)) := fun q => hy2 (own_one q.1 q.2 x2 x3)
      simp [this])]
    exact hy
  · unfold f_X4_drawAlongSizes_b10
    simp (disch := omega) only [xbn, ite_not, br_le_t, br_le_f, br_lt_t, br_lt_f, br_eq_t, br_eq_f, br_le0_t, br_le0_f, br_lt1_t, br_lt1_f, br_1le_t, br_1le_f, br_eq0_t, br_eq0_f, br_eq1_t, br_eq1_f, br_0le, br_lt0, br_0lt_t, br_0lt_f, br_m1, iof, i_2, i_3, i_4, i_8, i_9, i_10, i_20, i_30, i_90, i_120, i_256, cl_0, cl_1, cl_2, cl_3, Int32.add_zero, nI_add, nI_1, pk_mul, nI_s1, sb_m1, ck_in, ck_0, ck_1, nI_clamp, xcp, xca, xbn, n0]
/-- the class's drawAt -/
theorem da_eq {F : Nat} (hF : 2000 ≤ F) {W : Mem} {k : Nat} {w : Nat → Nat} {t : Nat} {μ : Mem} (h : WY W k w t μ) (hk : PK W k w) {u : Nat} (hu : u < PT W k w) : f_X4_drawAt F μ t (nI u) = some (nI (DA W k w u), μ) := by
  unfold f_X4_drawAt
  unfold PT at hu
  rcases hk with ⟨rfl, b1, b2⟩ | ⟨rfl, b1, b2, b3⟩
  · rw [(h.k34 (Or.inl rfl)).2, if_pos rfl]
    simp only [xbn, if_true, rl_eq hF h b1 b2 hu, xca]
  · rw [(h.k34 (Or.inr rfl)).2, if_neg (by decide)]
    simp only [xbn, show ¬ (1 : Int32) = 0 by decide, if_false, ls_dr hF h b1 b2 b3 hu, xca]
theorem pt_C (F : Nat) {W : Mem} {k : Nat} {w : Nat → Nat} {t : Nat} {μ : Mem} (h : WY W k w t μ) (hk : PK W k w) : f_X4_pointCount F μ t = some (nI (PT W k w), μ) := by
  have hp := hk.pos
  have hk2 : k = 3 ∨ k = 4 := by rcases hk with ⟨q, _⟩ | ⟨q, _⟩ <;> omega
  rw [pc_eq F h hk2 hp.2.1, if_neg (show ¬ w 0 < 1 by omega)]
  rfl
theorem pt_R {F : Nat} (hF : 2000 ≤ F) {W : Mem} (hw : WF W) {k : Nat} {w : Nat → Nat} {ρ : Mem} (h : RY W k w ρ) (hk : PK W k w) : f_X12_drawsNow F ρ = some (lN (PT W k w), ρ) := by
  obtain ⟨h1, h2, h3, h4, k1, k5⟩ := id h
  unfold f_X12_drawsNow PT
  rcases hk with ⟨rfl, b1, b2⟩ | ⟨rfl, b1, b2, b3⟩
  · simp only [xbn, h2, kc, show ¬ (3 : Nat) = 1 by decide, show ¬ (3 : Nat) = 2 by decide, if_false, if_true, show ¬ (101 : Int32) = 97 by decide, not_false_eq_true, not_true_eq_false, ck_0 (show 0 < 4 by decide), cl_0, h3 0 (by decide)]
    rw [nI_l (by omega)]
  · have sl := stp_le hw w
    simp only [xbn, h2, kc, show ¬ (4 : Nat) = 1 by decide, show ¬ (4 : Nat) = 2 by decide, show ¬ (4 : Nat) = 3 by decide, if_false, if_true, show ¬ (122 : Int32) = 97 by decide, show ¬ (122 : Int32) = 101 by decide, not_false_eq_true, not_true_eq_false, h4 rfl]
    rw [show ssz W (nm W) / w 0 = stp W w from rfl, nI_l (by omega)]
