/-! how many names a draw has at the least, at the most -/
theorem pcn_DA {W : Mem} (hw : WF W) (k : Nat) (w : Nat → Nat) (u : Nat) : pcn 32 (DA W k w u) = cnt (inD W k w u) (nm W) := pcn_msk _ (by have := rw_N hw; omega)
/-- at the least, at the most of the first i points -/
def wMin (W : Mem) (k : Nat) (w : Nat → Nat) : Nat → Nat
  | 0 => 30
  | i + 1 => min (wMin W k w i) (pcn 32 (DA W k w i))
def wMax (W : Mem) (k : Nat) (w : Nat → Nat) : Nat → Nat
  | 0 => 0
  | i + 1 => max (wMax W k w i) (pcn 32 (DA W k w i))
theorem pDA_le {W : Mem} (hw : WF W) (k : Nat) (w : Nat → Nat) (u : Nat) : pcn 32 (DA W k w u) ≤ 30 := by rw [pcn_DA hw]; exact Nat.le_trans (cnt_le _ _) (rw_N hw)
theorem wMin_le (W : Mem) (k : Nat) (w : Nat → Nat) : ∀ i, wMin W k w i ≤ 30
  | 0 => Nat.le_refl _
  | i + 1 => Nat.le_trans (Nat.min_le_left _ _) (wMin_le W k w i)
theorem wMax_le {W : Mem} (hw : WF W) (k : Nat) (w : Nat → Nat) : ∀ i, wMax W k w i ≤ 30
  | 0 => Nat.zero_le _
  | i + 1 => Nat.max_le.mpr ⟨wMax_le hw k w i, pDA_le hw k w i⟩
theorem mni_n {a b : Nat} (ha : a < 2 ^ 31) (hb : b < 2 ^ 31) : mni (nI a) (nI b) = nI (min a b) := by
  unfold mni
  by_cases q : b < a
  · rw [br_lt_t q ha, Nat.min_eq_right (by omega)]
  · rw [br_lt_f (by omega) hb, Nat.min_eq_left (by omega)]
theorem mxi_n {a b : Nat} (ha : a < 2 ^ 31) (hb : b < 2 ^ 31) : mxi (nI a) (nI b) = nI (max a b) := by
  unfold mxi
  by_cases q : a < b
  · rw [br_lt_t q hb, Nat.max_eq_right (by omega)]
  · rw [br_lt_f (by omega) ha, Nat.max_eq_left (by omega)]
theorem fw_C {F : Nat} (hF : 2000 ≤ F) {W : Mem} {k : Nat} {w : Nat → Nat} {t : Nat} {μ : Mem} (h : WY W k w t μ) (hk : PK W k w) : f_X4_fewest F μ t = some (nI (wMin W k w (PT W k w)), μ) := by
  have hP := PT_le h.1.1 hk
  have hN := rw_N h.1.1
  unfold f_X4_fewest
  rw [pt_C F h hk]
  simp only [xca]
  refine run_up (N := PT W k w) (fun n i => f_X4_fewest_b10 F n μ t (nI (PT W k w)) (nI (wMin W k w i)) (nI i)) (fun n i hi y hy => ?_) (fun n => ?_) F 0 (Nat.zero_le _) (by omega)
  · have hdl := Nat.lt_of_lt_of_le (DA_lt (W := W) k w i) (pow_le30 hN)
    have m := wMin_le W k w i
    have pl := pDA_le h.1.1 k w i
    unfold f_X4_fewest_b10
    simp (disch := omega) only [br_le_f, da_eq hF h hk hi, xca, bc_eq F (show DA W k w i < 2 ^ 32 by omega), xcp, xbn, mni_n, nI_1]
    exact hy
  · unfold f_X4_fewest_b10
    simp (disch := omega) only [br_le_t]
theorem mo_C {F : Nat} (hF : 2000 ≤ F) {W : Mem} {k : Nat} {w : Nat → Nat} {t : Nat} {μ : Mem} (h : WY W k w t μ) (hk : PK W k w) : f_X4_most F μ t = some (nI (wMax W k w (PT W k w)), μ) := by
  have hP := PT_le h.1.1 hk
  have hN := rw_N h.1.1
  unfold f_X4_most
  rw [pt_C F h hk]
  simp only [xca]
  refine run_up (N := PT W k w) (fun n i => f_X4_most_b9 F n μ t (nI (PT W k w)) (nI (wMax W k w i)) (nI i)) (fun n i hi y hy => ?_) (fun n => ?_) F 0 (Nat.zero_le _) (by omega)
  · have hdl := Nat.lt_of_lt_of_le (DA_lt (W := W) k w i) (pow_le30 hN)
    have m := wMax_le h.1.1 k w i
    have pl := pDA_le h.1.1 k w i
    unfold f_X4_most_b9
    simp (disch := omega) only [br_le_f, da_eq hF h hk hi, xca, bc_eq F (show DA W k w i < 2 ^ 32 by omega), xcp, xbn, mxi_n, nI_1]
    exact hy
  · unfold f_X4_most_b9
    simp (disch := omega) only [br_le_t]
/-- the reference's walk over the points -/
def wMM (W : Mem) (k : Nat) (w : Nat → Nat) (x2 : Int32) (i : Nat) : Nat := if x2 = 0 then wMin W k w i else wMax W k w i
theorem wMM_le {W : Mem} (hw : WF W) (k : Nat) (w : Nat → Nat) (x2 : Int32) (i : Nat) : wMM W k w x2 i ≤ 30 := by
  unfold wMM
  by_cases q : x2 = 0
  · rw [if_pos q]; exact wMin_le _ _ _ _
  · rw [if_neg q]; exact wMax_le hw _ _ _
theorem wd_R {F : Nat} (hF : 2000 ≤ F) {W : Mem} (hw : WF W) {k : Nat} {w : Nat → Nat} {ρ : Mem} (h : RY W k w ρ) (hk : PK W k w) (x2 : Int32) : f_X12_width_b118 F F ρ x2 (nI (pcn 32 (DA W k w 0))) (nI (PT W k w)) 1 = some (nI (wMM W k w x2 (PT W k w)), ρ) := by
  have hP := PT_le hw hk
  have hN := rw_N hw
  have hp := hk.pos
  have e1 : pcn 32 (DA W k w 0) = wMM W k w x2 1 := by
    have pl := pDA_le hw k w 0
    unfold wMM
    by_cases q : x2 = 0
    · rw [if_pos q]; show _ = min 30 _; rw [Nat.min_eq_right pl]
    · rw [if_neg q]; show _ = max 0 _; rw [Nat.max_eq_right (by omega)]
  rw [e1]
  have key := run_up (N := PT W k w) (r := some (nI (wMM W k w x2 (PT W k w)), ρ)) (fun n i => f_X12_width_b118 F n ρ x2 (nI (wMM W k w x2 i)) (nI (PT W k w)) (nI i)) (fun n i hi y hy => ?_) (fun n => ?_) F 1 hp.2.2 (by omega)
  · exact key
  · have hdl := Nat.lt_of_lt_of_le (DA_lt (W := W) k w i) (pow_le30 hN)
    have m := wMM_le hw k w x2 i
    have pl := pDA_le hw k w i
    unfold f_X12_width_b118 f_X12_width_b160 f_X12_width_b155 f_X12_width_b161
    simp (disch := omega) only [br_le_f, do_eq hF hw h hk (u := i) (by omega), xca, on_eq (F := F) (by omega) (show DA W k w i < 2 ^ 31 by omega), xcp, nI_1]
    by_cases q : x2 = 0
    · simp only [q, not_true_eq_false, if_false]
      have e : wMM W k w x2 i = wMin W k w i := if_pos q
      have e2 : wMM W k w x2 (i + 1) = min (wMin W k w i) (pcn 32 (DA W k w i)) := if_pos q
      rw [q] at e e2 hy
      rw [e]
      rw [e2] at hy
      rw [q, e] at m
      by_cases q2 : wMin W k w i ≤ pcn 32 (DA W k w i)
      · rw [br_le_t q2 (by omega)]
        rw [Nat.min_eq_left q2] at hy
        exact hy
      · rw [br_le_f (by omega) (by omega)]
        rw [Nat.min_eq_right (by omega)] at hy
        exact hy
    · simp only [q, not_false_eq_true, if_true]
      have e : wMM W k w x2 i = wMax W k w i := if_neg q
      have e2 : wMM W k w x2 (i + 1) = max (wMax W k w i) (pcn 32 (DA W k w i)) := if_neg q
      rw [e]
      rw [e2] at hy
      rw [e] at m
      by_cases q2 : pcn 32 (DA W k w i) ≤ wMax W k w i
      · rw [br_le_t q2 (by omega)]
        rw [Nat.max_eq_left q2] at hy
        exact hy
      · rw [br_le_f (by omega) (by omega)]
        rw [Nat.max_eq_right (by omega)] at hy
        exact hy
  · unfold f_X12_width_b118
    simp (disch := omega) only [br_le_t]
/-! two steps: the least, the greatest of the clusters -/
def fwl (cg : Nat → Nat) : Nat → Nat → Nat → Nat
  | 0, _, _ => 0
  | s + 1, v, l => min l (cg v) * v + fwl cg s (v + 1) (l - min l (cg v))
def mwl (cg : Nat → Nat) : Nat → Nat → Nat
  | 0, _ => 0
  | s + 1, l => min l (cg (s + 1)) * (s + 1) + mwl cg s (l - min l (cg (s + 1)))
theorem fwl_cg {cg cg' : Nat → Nat} : ∀ (s v l : Nat), (∀ x, v ≤ x → cg x = cg' x) → fwl cg s v l = fwl cg' s v l
  | 0, _, _, _ => rfl
  | s + 1, v, l, h => by unfold fwl; rw [h v (Nat.le_refl _), fwl_cg s (v + 1) _ (fun x hx => h x (by omega))]
theorem mwl_cg {cg cg' : Nat → Nat} : ∀ (s l : Nat), (∀ x, 1 ≤ x → x ≤ s → cg x = cg' x) → mwl cg s l = mwl cg' s l
  | 0, _, _ => rfl
  | s + 1, l, h => by unfold mwl; rw [h (s + 1) (by omega) (by omega), mwl_cg s _ (fun x h1 h2 => h x h1 (by omega))]
theorem fwl_0 (cg : Nat → Nat) : ∀ (s v : Nat), fwl cg s v 0 = 0
  | 0, _ => rfl
  | s + 1, v => by unfold fwl; rw [Nat.zero_min, Nat.zero_mul, Nat.zero_sub, fwl_0 cg s]
theorem mwl_0 (cg : Nat → Nat) : ∀ (s : Nat), mwl cg s 0 = 0
  | 0 => rfl
  | s + 1 => by unfold mwl; rw [Nat.zero_min, Nat.zero_mul, Nat.zero_sub, mwl_0 cg s]
theorem fwl_take {cg cg' : Nat → Nat} {b : Nat} (hb : cg b = cg' b + 1) (ho : ∀ x, x ≠ b → cg x = cg' x) : ∀ (s v m : Nat), v ≤ b → b < v + s → 0 < m → (∀ x, v ≤ x → x < b → cg x = 0) → fwl cg s v m = b + fwl cg' s v (m - 1)
  | 0, v, m, h1, h2, h3, h4 => absurd h2 (by omega)
  | s + 1, v, m, h1, h2, h3, h4 => by
    unfold fwl
    by_cases e : v = b
    · subst e
      rw [hb, fwl_cg (cg := cg) (cg' := cg') s (v + 1) _ (fun x hx => ho x (by omega))]
      have a : min m (cg' v + 1) = min (m - 1) (cg' v) + 1 := by omega
      rw [a, show m - (min (m - 1) (cg' v) + 1) = m - 1 - min (m - 1) (cg' v) by omega, Nat.add_mul, Nat.one_mul]
      omega
    · rw [h4 v (Nat.le_refl _) (by omega), Nat.min_zero, Nat.zero_mul, Nat.sub_zero, fwl_take hb ho s (v + 1) m (by omega) (by omega) h3 (fun x q1 q2 => h4 x (by omega) q2), ← ho v e, h4 v (Nat.le_refl _) (by omega), Nat.min_zero, Nat.zero_mul, Nat.sub_zero]
      omega
theorem mwl_take {cg cg' : Nat → Nat} {b : Nat} (hb : cg b = cg' b + 1) (ho : ∀ x, x ≠ b → cg x = cg' x) (h1 : 1 ≤ b) : ∀ (s m : Nat), b ≤ s → 0 < m → (∀ x, b < x → x ≤ s → cg x = 0) → mwl cg s m = b + mwl cg' s (m - 1)
  | 0, m, h2, h3, h4 => absurd h2 (by omega)
  | s + 1, m, h2, h3, h4 => by
    unfold mwl
    by_cases e : s + 1 = b
    · subst e
      rw [hb, mwl_cg (cg := cg) (cg' := cg') s _ (fun x q1 q2 => ho x (by omega))]
      have a : min m (cg' (s + 1) + 1) = min (m - 1) (cg' (s + 1)) + 1 := by omega
      rw [a, show m - (min (m - 1) (cg' (s + 1)) + 1) = m - 1 - min (m - 1) (cg' (s + 1)) by omega, Nat.add_mul (min (m - 1) (cg' (s + 1))) 1, Nat.one_mul]
      omega
    · rw [h4 (s + 1) (by omega) (by omega), Nat.min_zero, Nat.zero_mul, Nat.sub_zero, mwl_take hb ho h1 s m (by omega) h3 (fun x q1 q2 => h4 x q1 (by omega)), ← ho (s + 1) e, h4 (s + 1) (by omega) (by omega), Nat.min_zero, Nat.zero_mul, Nat.sub_zero]
      omega
/-- how many clusters outside D give so many -/
def PD (W : Mem) (D c : Nat) : Bool := decide (0 < nC W c) && !D.testBit c
def cgD (W : Mem) (w : Nat → Nat) (D v : Nat) : Nat := cnt (fun c => PD W D c && decide (tC W w c = v)) 8
/-- by what: the least (0) or the greatest of m clusters outside D together -/
def FM (W : Mem) (w : Nat → Nat) (x2 : Int32) (D m : Nat) : Nat := if x2 = 0 then fwl (cgD W w D) 30 1 m else mwl (cgD W w D) 30 m
theorem FM_0 (W : Mem) (w : Nat → Nat) (x2 : Int32) (D : Nat) : FM W w x2 D 0 = 0 := by
  unfold FM
  by_cases q : x2 = 0
  · rw [if_pos q, fwl_0]
  · rw [if_neg q, mwl_0]
theorem PD_or {W : Mem} {D b c : Nat} : PD W (D ||| 2 ^ b) c = (PD W D c && !decide (c = b)) := by
  unfold PD
  rw [Nat.testBit_or, Nat.testBit_two_pow]
  by_cases e : c = b
  · subst e; simp
  · simp [show ¬ b = c from fun q => e q.symm, e]
theorem cgD_take {W : Mem} {w : Nat → Nat} {D b : Nat} (hb : b < 8) (hp : PD W D b = true) : cgD W w D (tC W w b) = cgD W w (D ||| 2 ^ b) (tC W w b) + 1 ∧ ∀ x, x ≠ tC W w b → cgD W w D x = cgD W w (D ||| 2 ^ b) x := by
  constructor
  · unfold cgD
    rw [cnt_add1 (f := fun c => PD W (D ||| 2 ^ b) c && decide (tC W w c = tC W w b)) (g := fun c => PD W D c && decide (tC W w c = tC W w b)) hb (by simp [hp]) (fun u hu => by simp only [PD_or]; simp [hu]), if_neg (by simp only [PD_or]; simp)]
  · intro x hx
    unfold cgD
    refine cnt_cg (fun c hc => ?_)
    simp only [PD_or]
    by_cases e : c = b
    · subst e
      simp [show ¬ tC W w c = x from fun q => hx q.symm]
    · simp [e]
/-- the best of the first i clusters that P tells -/
def bo (P : Nat → Bool) (better : Nat → Nat → Bool) : Nat → Option Nat
  | 0 => none
  | i + 1 => if P i then (match bo P better i with | none => some i | some b => if better i b then some i else some b) else bo P better i
theorem bo_spec {P : Nat → Bool} {t : Nat → Nat} {x2 : Int32} : ∀ i, (bo P (fun c b => if x2 = 0 then decide (t c < t b) else decide (t b < t c)) i = none → ∀ c, c < i → P c = false) ∧ ∀ b, bo P (fun c b => if x2 = 0 then decide (t c < t b) else decide (t b < t c)) i = some b → b < i ∧ P b = true ∧ ∀ c, c < i → P c = true → (if x2 = 0 then t b ≤ t c else t c ≤ t b)
  | 0 => ⟨fun _ c hc => absurd hc (Nat.not_lt_zero _), fun b hb => by cases hb⟩
  | i + 1 => by
    obtain ⟨h1, h2⟩ := bo_spec (P := P) (t := t) (x2 := x2) i
    rw [bo]
    cases hP : P i with
    | false =>
      rw [if_neg (by decide)]
      refine ⟨fun hn c hc => ?_, fun b hb => ?_⟩
      · by_cases e : c = i
        · subst e; exact hP
        · exact h1 hn c (by omega)
      · obtain ⟨a1, a2, a3⟩ := h2 b hb
        refine ⟨by omega, a2, fun c hc hpc => ?_⟩
        by_cases e : c = i
        · subst e; rw [hP] at hpc; cases hpc
        · exact a3 c (by omega) hpc
    | true =>
      rw [if_pos rfl]
      cases hb0 : bo P (fun c b => if x2 = 0 then decide (t c < t b) else decide (t b < t c)) i with
      | none =>
        refine ⟨fun hn => (by cases hn), fun b hb => ?_⟩
        cases hb
        refine ⟨by omega, hP, fun c hc hpc => ?_⟩
        by_cases e : c = i
        · subst e
          by_cases q : x2 = 0
          · rw [if_pos q]; exact Nat.le_refl _
          · rw [if_neg q]; exact Nat.le_refl _
        · rw [h1 hb0 c (by omega)] at hpc; cases hpc
      | some b0 =>
        obtain ⟨a1, a2, a3⟩ := h2 b0 hb0
        by_cases q : x2 = 0
        · simp only [q, if_true, decide_eq_true_eq] at a3 ⊢
          by_cases q2 : t i < t b0
          · rw [if_pos q2]
            refine ⟨fun hn => (by cases hn), fun b hb => ?_⟩
            cases hb
            refine ⟨by omega, hP, fun c hc hpc => ?_⟩
            by_cases e : c = i
            · subst e; exact Nat.le_refl _
            · have := a3 c (by omega) hpc; omega
          · rw [if_neg q2]
            refine ⟨fun hn => (by cases hn), fun b hb => ?_⟩
            cases hb
            refine ⟨by omega, a2, fun c hc hpc => ?_⟩
            by_cases e : c = i
            · subst e; omega
            · exact a3 c (by omega) hpc
        · simp only [q, if_false, decide_eq_true_eq] at a3 ⊢
          by_cases q2 : t b0 < t i
          · rw [if_pos q2]
            refine ⟨fun hn => (by cases hn), fun b hb => ?_⟩
            cases hb
            refine ⟨by omega, hP, fun c hc hpc => ?_⟩
            by_cases e : c = i
            · subst e; exact Nat.le_refl _
            · have := a3 c (by omega) hpc; omega
          · rw [if_neg q2]
            refine ⟨fun hn => (by cases hn), fun b hb => ?_⟩
            cases hb
            refine ⟨by omega, a2, fun c hc hpc => ?_⟩
            by_cases e : c = i
            · subst e; omega
            · exact a3 c (by omega) hpc
/-- the reference: the best cluster outside D -/
theorem oc_in {F : Nat} (hF : 2000 ≤ F) {W : Mem} (hw : WF W) {w : Nat → Nat} {ρ : Mem} (h : RY W 5 w ρ) (b1 : w 1 ≤ 99) {k7 : Mem → Int32 → Int32 → Int32 → Int32 → Option (Int32 × Mem)} {x1 x3 x4 : Int32} {D b : Nat} (hD : D < 2 ^ 8) (hb : bo (PD W D) (fun c b => if x1 = 0 then decide (tC W w c < tC W w b) else decide (tC W w b < tC W w c)) 8 = some b) :
    f_X12_ofClusters_b24 F k7 F ρ x1 (nI D) x3 x4 (-1) 0 = k7 ρ x1 (nI (D ||| 2 ^ b)) (x3 + nI (tC W w b)) (x4 + 1) := by
  refine run_up (N := 8) (fun n i => f_X12_ofClusters_b24 F k7 n ρ x1 (nI D) x3 x4 (oi (bo (PD W D) (fun c b => if x1 = 0 then decide (tC W w c < tC W w b) else decide (tC W w b < tC W w c)) i)) (nI i)) (fun n i hi y hy => ?_) (fun n => ?_) F 0 (Nat.zero_le _) (by omega)
  · have l := nC_le W hw i
    have t1 := tC_le W w i
    unfold f_X12_ofClusters_b24 f_X12_ofClusters_b93 f_X12_ofClusters_b97 f_X12_ofClusters_b98 f_X12_ofClusters_b112 f_X12_ofClusters_b114
    simp (disch := omega) only [i_8, br_le_f, sh_bit, mo_c hF hw h.1, xca, nI_1, ite_not, b0]
    rw [bo] at hy
    by_cases d : D.testBit i = true
    · rw [if_neg (by unfold PD; simp [d])] at hy
      rw [if_neg (by simp [d])]
      exact hy
    · rw [if_pos (by simpa using d)]
      by_cases q : nC W i = 0
      · rw [if_neg (by unfold PD; simp [q])] at hy
        rw [br_le0_t q]
        exact hy
      · rw [if_pos (by unfold PD; simp [d]; omega)] at hy
        rw [br_le0_f (by omega) (by omega)]
        cases hb0 : bo (PD W D) (fun c b => if x1 = 0 then decide (tC W w c < tC W w b) else decide (tC W w b < tC W w c)) i with
        | none =>
          rw [hb0] at hy
          simp only [oi, if_true, show ¬ (1 : Int32) = 0 by decide, if_false]
          exact hy
        | some c =>
          rw [hb0] at hy
          have hc := ((bo_spec (P := PD W D) (t := tC W w) (x2 := x1) i).2 c hb0).1
          have lc := nC_le W hw c
          have tc := tC_le W w c
          simp (disch := omega) only [oi, br_m1, oc_eq hF hw h b1 hi, oc_eq hF hw h b1 (show c < 8 by omega), xca, show ¬ (1 : Int32) = 0 by decide, if_true, if_false]
          by_cases q0 : x1 = 0
          · simp only [q0, if_true, decide_eq_true_eq] at hy ⊢
            by_cases q2 : tC W w i < tC W w c
            · rw [if_pos q2] at hy
              rw [br_le_f q2 (by omega)]
              exact hy
            · rw [if_neg q2] at hy
              rw [br_le_t (by omega) (by omega)]
              exact hy
          · simp only [q0, if_false, decide_eq_true_eq] at hy ⊢
            by_cases q2 : tC W w c < tC W w i
            · rw [if_pos q2] at hy
              rw [br_le_f q2 (by omega)]
              exact hy
            · rw [if_neg q2] at hy
              rw [br_le_t (by omega) (by omega)]
              exact hy
  · have hb8 := ((bo_spec (P := PD W D) (t := tC W w) (x2 := x1) 8).2 b hb).1
    unfold f_X12_ofClusters_b24
    simp (disch := omega) only [i_8, br_le_t, hb, oi, one_shl, nI_or, oc_eq hF hw h b1 hb8, xca, xbn]
theorem tC_pos {W : Mem} {w : Nat → Nat} (h1 : 1 ≤ w 1) {c : Nat} (h : 0 < nC W c) : 1 ≤ tC W w c := by unfold tC; rw [Nat.le_min]; exact ⟨h1, h⟩
theorem ocs_R {F : Nat} (hF : 2000 ≤ F) {W : Mem} (hw : WF W) {w : Nat → Nat} {ρ : Mem} (h : RY W 5 w ρ) (ho : OK W 5 w) (x1 : Int32) : f_X12_ofClusters F ρ x1 = some (nI (FM W w x1 0 (w 0)), ρ) := by
  obtain ⟨h1, _, _, h4⟩ := id ho
  rw [cbk5] at h1
  have hK := nK_le W
  have b1 := h4 1 (by decide)
  have n0 := h.2.2.1 0 (show 0 < cntOf 5 by decide)
  unfold f_X12_ofClusters
  refine run_rel (N := w 0) (fun n i (s : Nat × Nat) => f_X12_ofClusters_b7 F n ρ x1 (nI s.1) (nI s.2) (nI i)) (fun i s => s.1 < 2 ^ 8 ∧ s.2 ≤ 30 * i ∧ cnt (PD W s.1) 8 + i = nK W ∧ s.2 + FM W w x1 s.1 (w 0 - i) = FM W w x1 0 (w 0)) (fun o => o = some (nI (FM W w x1 0 (w 0)), ρ)) (fun n i s hi hI => Or.inl ?_) (fun n s hI => ?_) F 0 (0, 0) (Nat.zero_le _) (by omega) ⟨by decide, Nat.zero_le _, ?_, by simp⟩
  · obtain ⟨i1, i2, i3, i4⟩ := hI
    have sp := bo_spec (P := PD W s.1) (t := tC W w) (x2 := x1) 8
    cases hb : bo (PD W s.1) (fun c b => if x1 = 0 then decide (tC W w c < tC W w b) else decide (tC W w b < tC W w c)) 8 with
    | none =>
      have := cnt_0 (f := PD W s.1) (n := 8) (fun c hc => sp.1 hb c hc)
      omega
    | some b =>
      obtain ⟨a1, a2, a3⟩ := sp.2 b hb
      have np : 0 < nC W b := by unfold PD at a2; simp at a2; exact a2.1
      have l := nC_le W hw b
      have t1 := tC_le W w b
      have t2 := tC_pos h1.2.2 np
      obtain ⟨g1, g2⟩ := cgD_take (w := w) a1 a2
      have ta : FM W w x1 s.1 (w 0 - i) = tC W w b + FM W w x1 (s.1 ||| 2 ^ b) (w 0 - i - 1) := by
        unfold FM
        by_cases q : x1 = 0
        · simp only [q, if_true] at a3 ⊢
          refine fwl_take g1 g2 30 1 (w 0 - i) t2 (by omega) (by omega) (fun x q1 q2 => cnt_0 (fun c hc => ?_))
          cases hp : PD W s.1 c with
          | false => rfl
          | true =>
            have := a3 c hc hp
            simp
            omega
        · simp only [q, if_false] at a3 ⊢
          refine mwl_take g1 g2 t2 30 (w 0 - i) (by omega) (by omega) (fun x q1 q2 => cnt_0 (fun c hc => ?_))
          cases hp : PD W s.1 c with
          | false => rfl
          | true =>
            have := a3 c hc hp
            simp
            omega
      refine ⟨(s.1 ||| 2 ^ b, s.2 + tC W w b), ⟨Nat.or_lt_two_pow i1 (Nat.pow_lt_pow_right (by decide) a1), by show s.2 + tC W w b ≤ 30 * (i + 1); omega, ?_, ?_⟩, fun y hy => ?_⟩
      · show cnt (PD W (s.1 ||| 2 ^ b)) 8 + (i + 1) = nK W
        have := cnt_add1 (f := PD W (s.1 ||| 2 ^ b)) (g := PD W s.1) a1 a2 (fun u hu => by rw [PD_or]; simp [hu])
        rw [if_neg (by rw [PD_or]; simp)] at this
        omega
      · show s.2 + tC W w b + FM W w x1 (s.1 ||| 2 ^ b) (w 0 - (i + 1)) = FM W w x1 0 (w 0)
        rw [← i4, ta, show w 0 - (i + 1) = w 0 - i - 1 by omega]
        omega
      · unfold f_X12_ofClusters_b7
        simp (disch := omega) only [ck_0, cl_0, n0, xbn, br_le_f]
        rw [oc_in hF hw h b1 i1 hb, nI_add, nI_1]
        exact hy
  · obtain ⟨i1, i2, i3, i4⟩ := hI
    unfold f_X12_ofClusters_b7
    simp (disch := omega) only [ck_0, cl_0, n0, xbn, br_le_t]
    rw [Nat.sub_self, FM_0, Nat.add_zero] at i4
    rw [i4]
  · show cnt (PD W 0) 8 + 0 = nK W
    rw [Nat.add_zero]
    unfold nK
    refine cnt_cg (fun c hc => ?_)
    unfold PD
    rw [hasC_cnt]
    simp
    rfl
/-- the class: clusters that give so many -/
def cgC (W : Mem) (w : Nat → Nat) (v : Nat) : Nat := cnt (fun c => decide (tC W w c = v)) 8
theorem cgC_D (W : Mem) (w : Nat → Nat) {v : Nat} (hv : 1 ≤ v) : cgC W w v = cgD W w 0 v := by
  unfold cgC cgD
  refine cnt_cg (fun c hc => ?_)
  unfold PD
  have t1 := tC_le W w c
  by_cases q : tC W w c = v
  · have : 0 < nC W c := by omega
    simp [q, this]
  · simp [q]
theorem ctg_C {F : Nat} (hF : 2000 ≤ F) {W : Mem} {w : Nat → Nat} {t : Nat} {μ : Mem} (h : WY W 5 w t μ) (b1 : w 1 ≤ 99) {v : Nat} (hv : v ≤ 100) : f_X8_clustersThatGive F μ t (nI v) = some (nI (cgC W w v), μ) := by
  unfold f_X8_clustersThatGive
  refine run_up (N := 8) (fun n i => f_X8_clustersThatGive_b4 F n μ t (nI v) (nI (cnt (fun c => decide (tC W w c = v)) i)) (nI i)) (fun n i hi y hy => ?_) (fun n => ?_) F 0 (Nat.zero_le _) (by omega)
  · have l := nC_le W h.1.1 i
    have t1 := tC_le W w i
    unfold f_X8_clustersThatGive_b4 f_X8_clustersThatGive_b22
    simp (disch := omega) only [i_8, br_le_f, to_eq F h b1 hi, xca, ite_not, nI_1]
    rw [cnt_s] at hy
    by_cases q : tC W w i = v
    · rw [br_eq_t q]
      rw [if_pos (by simp [q])] at hy
      exact hy
    · rw [br_eq_f q (by omega) (by omega)]
      rw [if_neg (by simp [q])] at hy
      exact hy
  · unfold f_X8_clustersThatGive_b4
    simp (disch := omega) only [i_8, br_le_t]
    rfl
theorem cgC_le (W : Mem) (w : Nat → Nat) (v : Nat) : cgC W w v ≤ 8 := cnt_le _ _
theorem fe_C {F : Nat} (hF : 2000 ≤ F) {W : Mem} {w : Nat → Nat} {t : Nat} {μ : Mem} (h : WY W 5 w t μ) (b1 : w 1 ≤ 99) : ∀ (s n v tg l : Nat), v + s = 31 → s < n → l ≤ 99 → tg + 30 * l ≤ 5000 → f_X8_fewest_b11 F n μ t (nI tg) (nI l) (nI v) = some (nI (tg + fwl (cgC W w) s v l), μ) := by
  intro s
  induction s with
  | zero =>
    intro n v tg l h1 h2 h3 h4
    obtain ⟨n, rfl⟩ : ∃ a, n = a + 1 := ⟨n - 1, by omega⟩
    unfold f_X8_fewest_b11
    have hv : v = 31 := by omega
    subst hv
    rw [if_pos (by decide)]
    rfl
  | succ s ih =>
    intro n v tg l h1 h2 h3 h4
    obtain ⟨n, rfl⟩ : ∃ a, n = a + 1 := ⟨n - 1, by omega⟩
    have cl := cgC_le W w v
    have ml := Nat.min_le_left l (cgC W w v)
    have mv : min l (cgC W w v) * v ≤ min l (cgC W w v) * 30 := Nat.mul_le_mul_left _ (by omega)
    unfold f_X8_fewest_b11
    simp (disch := omega) only [i_30, br_lt_f, ctg_C hF h b1 (show v ≤ 100 by omega), xca, mni_n, xbn, pk_mul, nI_add, pk_sub, nI_1]
    rw [ih n (v + 1) _ _ (by omega) (by omega) (by omega) (by omega), fwl]
    rw [show tg + min l (cgC W w v) * v + fwl (cgC W w) s (v + 1) (l - min l (cgC W w v)) = tg + (min l (cgC W w v) * v + fwl (cgC W w) s (v + 1) (l - min l (cgC W w v))) by omega]
theorem me_C {F : Nat} (hF : 2000 ≤ F) {W : Mem} {w : Nat → Nat} {t : Nat} {μ : Mem} (h : WY W 5 w t μ) (b1 : w 1 ≤ 99) : ∀ (s n tg l : Nat), s ≤ 30 → s < n → l ≤ 99 → tg + 30 * l ≤ 5000 → f_X8_most_b12 F n μ t (nI tg) (nI l) (nI s) = some (nI (tg + mwl (cgC W w) s l), μ) := by
  intro s
  induction s with
  | zero =>
    intro n tg l h1 h2 h3 h4
    obtain ⟨n, rfl⟩ : ∃ a, n = a + 1 := ⟨n - 1, by omega⟩
    unfold f_X8_most_b12
    simp (disch := omega) only [br_lt1_t]
    rfl
  | succ s ih =>
    intro n tg l h1 h2 h3 h4
    obtain ⟨n, rfl⟩ : ∃ a, n = a + 1 := ⟨n - 1, by omega⟩
    have cl := cgC_le W w (s + 1)
    have ml := Nat.min_le_left l (cgC W w (s + 1))
    have mv : min l (cgC W w (s + 1)) * (s + 1) ≤ min l (cgC W w (s + 1)) * 30 := Nat.mul_le_mul_left _ (by omega)
    unfold f_X8_most_b12
    simp (disch := omega) only [br_lt1_f, ctg_C hF h b1 (show s + 1 ≤ 100 by omega), xca, mni_n, xbn, pk_mul, nI_add, pk_sub, sb_m1, Nat.add_sub_cancel]
    rw [ih n _ _ (by omega) (by omega) (by omega) (by omega), mwl]
    rw [show tg + min l (cgC W w (s + 1)) * (s + 1) + mwl (cgC W w) s (l - min l (cgC W w (s + 1))) = tg + (min l (cgC W w (s + 1)) * (s + 1) + mwl (cgC W w) s (l - min l (cgC W w (s + 1)))) by omega]
theorem mG_C {F : Nat} (hF : 2000 ≤ F) {W : Mem} {k : Nat} {w : Nat → Nat} {t : Nat} {μ : Mem} (h : WY W k w t μ) (hk : k = 1 ∨ k = 2) : f_X2_most F μ t = some (nI (sw w (cntOf k)), μ) := by
  have hc4 : cntOf k ≤ 4 := by rcases hk with rfl | rfl <;> decide
  have k3 := (h.k12 hk).2.2
  unfold f_X2_most
  refine run_up (N := cntOf k) (fun n i => f_X2_most_b4 F n μ t (nI (sw w i)) (nI i)) (fun n i hi y hy => ?_) (fun n => ?_) F 0 (Nat.zero_le _) (by omega)
  · unfold f_X2_most_b4
    simp (disch := omega) only [xbn, ite_not, br_le_t, br_le_f, br_lt_t, br_lt_f, br_eq_t, br_eq_f, br_le0_t, br_le0_f, br_lt1_t, br_lt1_f, br_1le_t, br_1le_f, br_eq0_t, br_eq0_f, br_eq1_t, br_eq1_f, br_0le, br_lt0, br_0lt_t, br_0lt_f, br_m1, iof, i_2, i_3, i_4, i_8, i_9, i_10, i_20, i_30, i_90, i_120, i_256, cl_0, cl_1, cl_2, cl_3, Int32.add_zero, nI_add, nI_1, pk_mul, nI_s1, sb_m1, ck_in, ck_0, ck_1, nI_clamp, xcp, xca, xbn, k3, h.num hi]
    exact hy
  · unfold f_X2_most_b4
    simp (disch := omega) only [xbn, ite_not, br_le_t, br_le_f, br_lt_t, br_lt_f, br_eq_t, br_eq_f, br_le0_t, br_le0_f, br_lt1_t, br_lt1_f, br_1le_t, br_1le_f, br_eq0_t, br_eq0_f, br_eq1_t, br_eq1_f, br_0le, br_lt0, br_0lt_t, br_0lt_f, br_m1, iof, i_2, i_3, i_4, i_8, i_9, i_10, i_20, i_30, i_90, i_120, i_256, cl_0, cl_1, cl_2, cl_3, Int32.add_zero, nI_add, nI_1, pk_mul, nI_s1, sb_m1, ck_in, ck_0, ck_1, nI_clamp, xcp, xca, xbn, k3]
/-- how many names a draw has -/
def WI (W : Mem) (k : Nat) (w : Nat → Nat) (x2 : Int32) : Nat := if k = 1 then w 0 else if k = 2 then w 0 + w 1 + w 2 + w 3 else if k = 5 then FM W w x2 0 (w 0) else wMM W k w x2 (PT W k w)
theorem wi_C {F : Nat} (hF : 2000 ≤ F) {W : Mem} {k : Nat} {w : Nat → Nat} {t : Nat} {μ : Mem} (h : WY W k w t μ) (ho : OK W k w) (x2 : Int32) : (if ¬ x2 = 0 then vdis t (f_X2_most F μ t) (f_X4_most F μ t) (f_X8_most F μ t) else vdis t (f_X2_fewest F μ t) (f_X4_fewest F μ t) (f_X8_fewest F μ t)) = some (nI (WI W k w x2), μ) := by
  obtain ⟨h1, h2, h3, h4⟩ := id ho
  rcases (show k = 1 ∨ k = 2 ∨ k = 3 ∨ k = 4 ∨ k = 5 by omega) with rfl | rfl | rfl | rfl | rfl
  · have e := mG_C hF h (Or.inl rfl)
    have e2 : sw w (cntOf 1) = w 0 := Nat.zero_add _
    rw [e2] at e
    rw [vd_1 (h.k12 (Or.inl rfl)).1, vd_1 (h.k12 (Or.inl rfl)).1]
    unfold f_X2_fewest
    rw [e]
    simp only [xca, ite_self]
    rfl
  · have e := mG_C hF h (Or.inr rfl)
    have e2 : sw w (cntOf 2) = w 0 + w 1 + w 2 + w 3 := by show 0 + w 0 + w 1 + w 2 + w 3 = _; rw [Nat.zero_add]
    rw [e2] at e
    rw [vd_1 (h.k12 (Or.inr rfl)).1, vd_1 (h.k12 (Or.inr rfl)).1]
    unfold f_X2_fewest
    rw [e]
    simp only [xca, ite_self]
    rfl
  · have hp := ho.pk (Or.inl rfl)
    rw [vd_2 (h.k34 (Or.inl rfl)).1, vd_2 (h.k34 (Or.inl rfl)).1, fw_C hF h hp, mo_C hF h hp]
    show _ = some (nI (wMM W 3 w x2 (PT W 3 w)), μ)
    unfold wMM
    by_cases q : x2 = 0
    · simp only [q, not_true_eq_false, if_false, if_true]
    · simp only [q, not_false_eq_true, if_false, if_true]
  · have hp := ho.pk (Or.inr rfl)
    rw [vd_2 (h.k34 (Or.inr rfl)).1, vd_2 (h.k34 (Or.inr rfl)).1, fw_C hF h hp, mo_C hF h hp]
    show _ = some (nI (wMM W 4 w x2 (PT W 4 w)), μ)
    unfold wMM
    by_cases q : x2 = 0
    · simp only [q, not_true_eq_false, if_false, if_true]
    · simp only [q, not_false_eq_true, if_false, if_true]
  · rw [cbk5] at h1
    have hK := nK_le W
    have b1 := h4 1 (by decide)
    have n0 := h.num (show 0 < cntOf 5 by decide)
    have f1 := fe_C hF h b1 30 F 1 0 (w 0) (by omega) (by omega) (by omega) (by omega)
    have f2 := me_C hF h b1 30 F 0 (w 0) (by omega) (by omega) (by omega) (by omega)
    rw [Nat.zero_add] at f1 f2
    have f1' : f_X8_fewest_b11 F F μ t 0 (nI (w 0)) 1 = _ := f1
    have f2' : f_X8_most_b12 F F μ t 0 (nI (w 0)) 30 = _ := f2
    rw [vd_3 (h.k5 rfl), vd_3 (h.k5 rfl)]
    unfold f_X8_fewest f_X8_most
    simp only [ck_0 (show 0 < 4 by decide), cl_0, n0, xbn, f1', f2']
    show _ = some (nI (FM W w x2 0 (w 0)), μ)
    unfold FM
    by_cases q : x2 = 0
    · simp only [q, not_true_eq_false, if_false, if_true]
      rw [fwl_cg (cg := cgC W w) (cg' := cgD W w 0) 30 1 (w 0) (fun x hx => cgC_D W w hx)]
    · simp only [q, not_false_eq_true, if_false, if_true]
      rw [mwl_cg (cg := cgC W w) (cg' := cgD W w 0) 30 (w 0) (fun x hx _ => cgC_D W w hx)]
theorem sim_width {F : Nat} (hF : 2000 ≤ F) (μ ρ : Mem) (a1 a2 : Int32) (h : Rel μ ρ) : ∃ (r : Int32) (μ2 ρ2 : Mem), f_X11_width F μ a1 a2 = some (r, μ2) ∧ f_X12_width F ρ a1 a2 = some (r, ρ2) ∧ Rel μ2 ρ2 := by
  unfold f_X11_width f_X12_width
  rw [pl_C, pl_R, wi_eq, in_eq F a2 0 1 (A := 0) (B := 1) rfl rfl]
  by_cases w1 : wi a1 0 3 = true
  · by_cases w2 : wi a2 0 1 = true
    · obtain ⟨p, hp, rfl⟩ := wi_pl w1
      rw [w1, w2]
      by_cases c : CB ρ p
      · obtain ⟨c1, c2, c3⟩ := q_C hF h hp c
        obtain ⟨ρ1, r1, r2⟩ := q_R hF h.1 (SmR.rf ρ) hp c
        have e := wi_C hF c2 c3 a2
        obtain ⟨h1, h2, h3, h4⟩ := id c3
        obtain ⟨_, ry2, ry3, _⟩ := id r2.1
        refine ⟨nI (WI ρ (kp ρ p) (wq ρ p) a2), μ, ρ1, ?_, ?_, q_end h (SmC.rf μ) (ρ := ρ) r2.1.1⟩
        · simp (disch := omega) only [xcp, xca, xbn, if_true, show ¬ (1 : Int32) = 0 by decide, if_false, not_false_eq_true, ck_in, nI_clamp, c1, onul]
          by_cases q : a2 = 0
          · simp only [q, not_true_eq_false, if_false] at e ⊢
            rw [e]; rfl
          · simp only [q, not_false_eq_true, if_true] at e ⊢
            rw [e]; rfl
        · simp only [xcp, xca, xbn, if_true, show ¬ (1 : Int32) = 0 by decide, if_false, not_false_eq_true, r1, ry2]
          have hk : kp ρ p = 1 ∨ kp ρ p = 2 ∨ kp ρ p = 3 ∨ kp ρ p = 4 ∨ kp ρ p = 5 := by omega
          generalize kp ρ p = k at hk c3 r2 ry3 h4
          generalize wq ρ p = w at c3 r2 ry3 h4
          rcases hk with rfl | rfl | rfl | rfl | rfl
          · simp only [kc, if_true, not_true_eq_false, if_false, ck_0 (show 0 < 4 by decide), cl_0, ry3 0 (by decide)]
            rfl
          · have z2 : ∀ (k : Option (Int32 × Mem)), ck (2 : Int32) 4 k = k := fun k => ck_in (i := 2) (by omega) (by omega)
            have z3 : ∀ (k : Option (Int32 × Mem)), ck (3 : Int32) 4 k = k := fun k => ck_in (i := 3) (by omega) (by omega)
            simp only [kc, show ¬ (2 : Nat) = 1 by decide, if_true, if_false, show ¬ (108 : Int32) = 97 by decide, not_true_eq_false, not_false_eq_true, ck_0 (show 0 < 4 by decide), ck_1 (show 1 < 4 by decide), z2, z3, cl_0, cl_1, cl_2, cl_3, ry3 0 (by decide), ry3 1 (by decide), ry3 2 (by decide), ry3 3 (by decide), nI_add]
            rfl
          · have hpk := c3.pk (Or.inl rfl)
            have hdl := Nat.lt_of_lt_of_le (DA_lt (W := ρ) 3 w 0) (pow_le30 (rw_N h.1))
            have d0 : f_X12_drawOf F ρ1 0 = some (nI (DA ρ 3 w 0), ρ1) := do_eq hF h.1 r2.1 hpk (u := 0) (by omega)
            simp only [kc, show ¬ (3 : Nat) = 1 by decide, show ¬ (3 : Nat) = 2 by decide, if_true, if_false, show ¬ (101 : Int32) = 97 by decide, show ¬ (101 : Int32) = 108 by decide, show ¬ (101 : Int32) = 116 by decide, not_false_eq_true, d0, xca, on_eq (F := F) (by omega) (show DA ρ 3 w 0 < 2 ^ 31 by omega), xcp, pt_R hF h.1 r2.1 hpk, xbn, lN_i, wd_R hF h.1 r2.1 hpk]
            rfl
          · have hpk := c3.pk (Or.inr rfl)
            have hdl := Nat.lt_of_lt_of_le (DA_lt (W := ρ) 4 w 0) (pow_le30 (rw_N h.1))
            have d0 : f_X12_drawOf F ρ1 0 = some (nI (DA ρ 4 w 0), ρ1) := do_eq hF h.1 r2.1 hpk (u := 0) (by omega)
            simp only [kc, show ¬ (4 : Nat) = 1 by decide, show ¬ (4 : Nat) = 2 by decide, show ¬ (4 : Nat) = 3 by decide, if_true, if_false, show ¬ (122 : Int32) = 97 by decide, show ¬ (122 : Int32) = 108 by decide, show ¬ (122 : Int32) = 116 by decide, not_false_eq_true, d0, xca, on_eq (F := F) (by omega) (show DA ρ 4 w 0 < 2 ^ 31 by omega), xcp, pt_R hF h.1 r2.1 hpk, xbn, lN_i, wd_R hF h.1 r2.1 hpk]
            rfl
          · simp only [kc, show ¬ (5 : Nat) = 1 by decide, show ¬ (5 : Nat) = 2 by decide, show ¬ (5 : Nat) = 3 by decide, show ¬ (5 : Nat) = 4 by decide, if_true, if_false, show ¬ (116 : Int32) = 97 by decide, show ¬ (116 : Int32) = 108 by decide, not_false_eq_true, not_true_eq_false, ocs_R hF h.1 r2.1 c3, xca]
            rfl
      · obtain ⟨ρ2, r1, r2⟩ := (cr_eq hF h.1 (SmR.rf ρ) hp).2 c
        refine ⟨-3, μ, ρ2, ?_, ?_, q_end h (SmC.rf μ) (ρ := ρ) r2⟩
        · simp (disch := omega) only [xcp, xca, xbn, if_true, show ¬ (1 : Int32) = 0 by decide, if_false, not_false_eq_true, ck_in, nI_clamp, pw_f hF h hp c, onul]
        · simp (disch := omega) only [xcp, xca, xbn, if_true, show ¬ (1 : Int32) = 0 by decide, if_false, not_false_eq_true, r1, not_true_eq_false]
    · rw [Bool.not_eq_true] at w2
      rw [w1, w2]
      exact ⟨-2, μ, ρ, rfl, rfl, h⟩
  · rw [Bool.not_eq_true] at w1
    rw [w1]
    exact ⟨-2, μ, ρ, rfl, rfl, h⟩
