/-! draws by lots -/
def lotS (s : Int32) : Int32 := 1103515245 * s + 12345
def lotV (s k : Int32) : Int32 := ((s).toUInt32 >>> ((16 : Int32).toUInt32 &&& Int32.toUInt32 31)).toInt32 - ((s).toUInt32 >>> ((16 : Int32).toUInt32 &&& Int32.toUInt32 31)).toInt32 / k * k
/-- m more members from i on: the draw and the seed -/
def tkS (d : Nat) : Nat → Nat → Int32 → Nat → Int32 → Int32 → Int32 × Int32
  | 0, _, s, _, _, r => (r, s)
  | m + 1, i, s, l, w, r => if d.testBit i then (if w ≤ lotV (lotS s) (nI l) then tkS d m (i + 1) (lotS s) (l - 1) w r else tkS d m (i + 1) (lotS s) (l - 1) (w + (-1)) (r ||| (1 <<< (nI i &&& 31)))) else tkS d m (i + 1) s l w r
def TK (d : Nat) (w s : Int32) : Int32 × Int32 := tkS d 30 0 s (pcn 32 d) w 0
theorem cl_C (F : Nat) (μ : Mem) (t : Nat) {l : Nat} (h0 : 0 < l) (hl : l < 2 ^ 31) : f_X9_castLot F μ t (nI l) = some (lotV (lotS (μ.1 t 2)) (nI l), ui μ t 2 (lotS (μ.1 t 2))) := by
  unfold f_X9_castLot
  simp (disch := omega) only [xbn, br_0lt_t, ui_s, dvi_n]
  rfl
theorem cl_R (F : Nat) (ρ : Mem) {l : Nat} (h0 : 0 < l) (hl : l < 2 ^ 31) : f_X12_lot F ρ (nI l) = some (lotV (lotS (ρ.1 0 26)) (nI l), ui ρ 0 26 (lotS (ρ.1 0 26))) := by
  unfold f_X12_lot
  simp (disch := omega) only [xbn, ui_s, dvi_n]
  rfl
theorem cnt_30 (d : Nat) {i l : Nat} (hi : i < 30) (h : cnt (fun k => d.testBit k) 30 = cnt (fun k => d.testBit k) i + l) (b : d.testBit i = true) : 1 ≤ l ∧ cnt (fun k => d.testBit k) 30 = cnt (fun k => d.testBit k) (i + 1) + (l - 1) := by
  have m := cnt_mono (fun k => d.testBit k) (i + 1) (30 - (i + 1))
  rw [show i + 1 + (30 - (i + 1)) = 30 by omega] at m
  have e : cnt (fun k => d.testBit k) (i + 1) = cnt (fun k => d.testBit k) i + 1 := by rw [cnt_s _ i, if_pos b]
  omega
theorem tk_C {F : Nat} {t d : Nat} (hd : d < 2 ^ 30) : ∀ (m n i l : Nat) (w r : Int32) (μ : Mem), i + m = 30 → m < n → cnt (fun k => d.testBit k) 30 = cnt (fun k => d.testBit k) i + l → ∃ μ2, f_X9_takeByLots_b14 F n μ t (nI d) r (nI l) w (nI i) = some ((tkS d m i (μ.1 t 2) l w r).1, μ2) ∧ μ2.1 t 2 = (tkS d m i (μ.1 t 2) l w r).2 ∧ (∀ c j, (c = t → j ≠ 2) → μ2.1 c j = μ.1 c j) ∧ μ2.2 = μ.2 := by
  intro m
  induction m with
  | zero =>
    intro n i l w r μ h1 h2 h3
    obtain ⟨n, rfl⟩ : ∃ a, n = a + 1 := ⟨n - 1, by omega⟩
    have : i = 30 := by omega
    subst this
    unfold f_X9_takeByLots_b14 tkS
    rw [if_pos (by decide)]
    exact ⟨μ, rfl, rfl, fun _ _ _ => rfl, rfl⟩
  | succ m ih =>
    intro n i l w r μ h1 h2 h3
    obtain ⟨n, rfl⟩ : ∃ a, n = a + 1 := ⟨n - 1, by omega⟩
    have cl := cnt_le (fun k => d.testBit k) 30
    unfold f_X9_takeByLots_b14 f_X9_takeByLots_b54 f_X9_takeByLots_b57 tkS
    simp (disch := omega) only [i_30, br_le_f, ii_eq, xcp, nI_1]
    by_cases b : d.testBit i = true
    · obtain ⟨l1, l2⟩ := cnt_30 d (by omega) h3 b
      simp (disch := omega) only [b, if_true, show ¬ (1 : Int32) = 0 by decide, not_false_eq_true, cl_C F μ t l1 (show l < 2 ^ 31 by omega), xca, sb_m1, xbn]
      by_cases q : w ≤ lotV (lotS (μ.1 t 2)) (nI l)
      · simp only [q, if_true]
        obtain ⟨μ2, e1, e2, e3, e4⟩ := ih n (i + 1) (l - 1) w r (ui μ t 2 (lotS (μ.1 t 2))) (by omega) (by omega) l2
        rw [ui_s] at e1 e2
        refine ⟨μ2, e1, e2, fun c j hc => ?_, e4⟩
        rw [e3 c j hc]
        by_cases e : c = t
        · subst e; exact ui_o (hc rfl)
        · exact ui_c e j
      · simp only [q, if_false]
        obtain ⟨μ2, e1, e2, e3, e4⟩ := ih n (i + 1) (l - 1) (w + -1) (r ||| (1 <<< (nI i &&& 31))) (ui μ t 2 (lotS (μ.1 t 2))) (by omega) (by omega) l2
        rw [ui_s] at e1 e2
        refine ⟨μ2, e1, e2, fun c j hc => ?_, e4⟩
        rw [e3 c j hc]
        by_cases e : c = t
        · subst e; exact ui_o (hc rfl)
        · exact ui_c e j
    · simp only [b, if_false, not_true_eq_false]
      exact ih n (i + 1) l w r μ (by omega) (by omega) (by rw [cnt_s _ i, if_neg b, h3, Nat.add_zero])
theorem tk_R {F : Nat} {d : Nat} (hd : d < 2 ^ 30) : ∀ (m n i l : Nat) (w r : Int32) (ρ : Mem), i + m = 30 → m < n → cnt (fun k => d.testBit k) 30 = cnt (fun k => d.testBit k) i + l → ∃ ρ2, f_X12_takes_b14 F n ρ (nI d) (nI l) w r (nI i) = some ((tkS d m i (ρ.1 0 26) l w r).1, ρ2) ∧ ρ2.1 0 26 = (tkS d m i (ρ.1 0 26) l w r).2 ∧ (∀ c j, (c = 0 → j ≠ 26) → ρ2.1 c j = ρ.1 c j) ∧ ρ2.2 = ρ.2 := by
  intro m
  induction m with
  | zero =>
    intro n i l w r ρ h1 h2 h3
    obtain ⟨n, rfl⟩ : ∃ a, n = a + 1 := ⟨n - 1, by omega⟩
    have : i = 30 := by omega
    subst this
    unfold f_X12_takes_b14 tkS
    rw [if_pos (by decide)]
    exact ⟨ρ, rfl, rfl, fun _ _ _ => rfl, rfl⟩
  | succ m ih =>
    intro n i l w r ρ h1 h2 h3
    obtain ⟨n, rfl⟩ : ∃ a, n = a + 1 := ⟨n - 1, by omega⟩
    have cl := cnt_le (fun k => d.testBit k) 30
    unfold f_X12_takes_b14 f_X12_takes_b53 f_X12_takes_b56 tkS
    simp (disch := omega) only [i_30, br_le_f, sh_bit, b1', ite_not, nI_1]
    by_cases b : d.testBit i = true
    · obtain ⟨l1, l2⟩ := cnt_30 d (by omega) h3 b
      simp (disch := omega) only [b, if_true, cl_R F ρ l1 (show l < 2 ^ 31 by omega), xca, sb_m1, xbn]
      by_cases q : w ≤ lotV (lotS (ρ.1 0 26)) (nI l)
      · simp only [q, if_true]
        obtain ⟨ρ2, e1, e2, e3, e4⟩ := ih n (i + 1) (l - 1) w r (ui ρ 0 26 (lotS (ρ.1 0 26))) (by omega) (by omega) l2
        rw [ui_s] at e1 e2
        refine ⟨ρ2, e1, e2, fun c j hc => ?_, e4⟩
        rw [e3 c j hc]
        by_cases e : c = 0
        · subst e; exact ui_o (hc rfl)
        · exact ui_c e j
      · simp only [q, if_false]
        obtain ⟨ρ2, e1, e2, e3, e4⟩ := ih n (i + 1) (l - 1) (w + -1) (r ||| (1 <<< (nI i &&& 31))) (ui ρ 0 26 (lotS (ρ.1 0 26))) (by omega) (by omega) l2
        rw [ui_s] at e1 e2
        refine ⟨ρ2, e1, e2, fun c j hc => ?_, e4⟩
        rw [e3 c j hc]
        by_cases e : c = 0
        · subst e; exact ui_o (hc rfl)
        · exact ui_c e j
    · simp only [b, if_false]
      exact ih n (i + 1) l w r ρ (by omega) (by omega) (by rw [cnt_s _ i, if_neg b, h3, Nat.add_zero])
/-- a memory of the class in which way t's seed alone is another -/
def SD (t : Nat) (μ μ2 : Mem) : Prop := (∀ c j, (c = t → j ≠ 2) → μ2.1 c j = μ.1 c j) ∧ μ2.2 = μ.2
def SE (ρ ρ2 : Mem) : Prop := (∀ c j, (c = 0 → j ≠ 26) → ρ2.1 c j = ρ.1 c j) ∧ ρ2.2 = ρ.2
theorem SD.rf (t : Nat) (μ : Mem) : SD t μ μ := ⟨fun _ _ _ => rfl, rfl⟩
theorem SD.tr {t : Nat} {a b c : Mem} (h : SD t a b) (g : SD t b c) : SD t a c := ⟨fun x j hx => (g.1 x j hx).trans (h.1 x j hx), g.2.trans h.2⟩
theorem SE.rf (ρ : Mem) : SE ρ ρ := ⟨fun _ _ _ => rfl, rfl⟩
theorem SE.tr {a b c : Mem} (h : SE a b) (g : SE b c) : SE a c := ⟨fun x j hx => (g.1 x j hx).trans (h.1 x j hx), g.2.trans h.2⟩
theorem SD.sm {W : Mem} {k : Nat} {w : Nat → Nat} {t : Nat} {μ μ2 : Mem} (h : WY W k w t μ) (g : SD t μ μ2) : SmC μ μ2 := by
  obtain ⟨_, p, hp, ht, _, k1, k5⟩ := h
  obtain ⟨g1, g2⟩ := g
  have f : ∀ c, c ≠ t → μ2.1 c = μ.1 c := fun c hc => by funext j; exact g1 c j (fun e => absurd e hc)
  refine ⟨g1 0 8 (by omega), fun c hc => f c (by omega), fun q hq => ⟨f _ (by omega), f _ (by omega), f _ (by omega), by rw [g2]⟩, fun q hq m m3 m6 j hj => g1 _ j (fun _ => by omega)⟩
theorem SE.ry {W : Mem} {k : Nat} {w : Nat → Nat} {ρ ρ2 : Mem} (h : R2 W k w ρ) (g : SE ρ ρ2) : R2 W k w ρ2 := by
  obtain ⟨⟨h1, h2, h3, h4, h5⟩, h6⟩ := h
  obtain ⟨g1, g2⟩ := g
  have f : ∀ c, c ≠ 0 → ρ2.1 c = ρ.1 c := fun c hc => by funext j; exact g1 c j (fun e => absurd e hc)
  refine ⟨⟨h1.tr ⟨fun c hc => f c (by omega), g1 0 4 (by omega), g1 0 5 (by omega), g1 0 10 (by omega), g1 0 14 (by omega)⟩, by rw [g1 0 17 (by omega)]; exact h2, fun j hj => by rw [f 14 (by omega)]; exact h3 j hj, fun q => by rw [g1 0 20 (by omega)]; exact h4 q, h5⟩, ?_⟩
  rw [g1 0 21 (by omega), f 15 (by omega)]
  exact h6
theorem tb_C {F : Nat} (hF : 2000 ≤ F) (μ : Mem) (t : Nat) {d : Nat} (hd : d < 2 ^ 30) (w : Int32) : ∃ μ2, f_X9_takeByLots F μ t (nI d) w = some ((TK d w (μ.1 t 2)).1, μ2) ∧ μ2.1 t 2 = (TK d w (μ.1 t 2)).2 ∧ SD t μ μ2 := by
  have e : cnt (fun k => d.testBit k) 30 = cnt (fun k => d.testBit k) 0 + pcn 32 d := by
    rw [cnt_b, cnt_to (n := 30) (m := 32) (by omega) (fun k hk => bit_hi hd hk)]
    exact (Nat.zero_add _).symm
  obtain ⟨μ2, e1, e2, e3, e4⟩ := tk_C (F := F) (t := t) hd 30 F 0 (pcn 32 d) w 0 μ (by omega) (by omega) e
  refine ⟨μ2, ?_, e2, e3, e4⟩
  unfold f_X9_takeByLots
  rw [bc_eq F (by omega)]
  exact e1
theorem tb_R {F : Nat} (hF : 2000 ≤ F) (ρ : Mem) {d : Nat} (hd : d < 2 ^ 30) (w : Int32) : ∃ ρ2, f_X12_takes F ρ (nI d) w = some ((TK d w (ρ.1 0 26)).1, ρ2) ∧ ρ2.1 0 26 = (TK d w (ρ.1 0 26)).2 ∧ SE ρ ρ2 := by
  have e : cnt (fun k => d.testBit k) 30 = cnt (fun k => d.testBit k) 0 + pcn 32 d := by
    rw [cnt_b, cnt_to (n := 30) (m := 32) (by omega) (fun k hk => bit_hi hd hk)]
    exact (Nat.zero_add _).symm
  obtain ⟨ρ2, e1, e2, e3, e4⟩ := tk_R (F := F) hd 30 F 0 (pcn 32 d) w 0 ρ (by omega) (by omega) e
  refine ⟨ρ2, ?_, e2, e3, e4⟩
  unfold f_X12_takes
  rw [on_eq (F := F) (by omega) (by omega)]
  exact e1
/-- the draw and the seed behind g groups, from seed s -/
def lgG (W : Mem) (k : Nat) (w : Nat → Nat) (s : Int32) : Nat → Int32 × Int32
  | 0 => (0, s)
  | g + 1 => ((lgG W k w s g).1 ||| (TK (msk (gf W k g) (nm W)) (nI (w g)) (lgG W k w s g).2).1, (TK (msk (gf W k g) (nm W)) (nI (w g)) (lgG W k w s g).2).2)
/-- t: the clusters taken, then names of each -/
def lsC (W : Mem) (w : Nat → Nat) (s : Int32) : Int32 × Int32 := TK (msk (fun c => hasC W c (nm W)) 8) (nI (w 0)) s
def ltG (W : Mem) (w : Nat → Nat) (s : Int32) : Nat → Int32 × Int32
  | 0 => (0, (lsC W w s).2)
  | c + 1 => if (((lsC W w s).1 >>> (nI c &&& 31)) &&& 1) = 1 then ((ltG W w s c).1 ||| (TK (msk (fun k => decide (cu W k = c)) (nm W)) (nI (tC W w c)) (ltG W w s c).2).1, (TK (msk (fun k => decide (cu W k = c)) (nm W)) (nI (tC W w c)) (ltG W w s c).2).2) else ltG W w s c
def lotN (s : Int32) (k : Nat) : Nat := (lotS s).toBitVec.toNat / 65536 % k
theorem lotV_n (s : Int32) {k : Nat} (h0 : 0 < k) (hk : k < 2 ^ 31) : lotV (lotS s) (nI k) = nI (lotN s k) := by
  unfold lotV lotN
  have e := pk_ushr (lotS s) 16 16 (by decide)
  have e2 : ((lotS s).toUInt32 >>> ((16 : Int32).toUInt32 &&& Int32.toUInt32 31)).toInt32 = nI ((lotS s).toBitVec.toNat / 2 ^ 16) := by
    apply Int32.toBitVec_inj.mp
    apply BitVec.eq_of_toNat_eq
    rw [e, pk_tn]
    have := (lotS s).toBitVec.isLt
    omega
  rw [e2, pk_rem (by have := (lotS s).toBitVec.isLt; omega) h0 hk]
def LO (W : Mem) (k : Nat) (w : Nat → Nat) (s : Int32) : Int32 := if k = 1 then (lgG W 1 w s 1).1 else if k = 2 then (lgG W 2 w s 4).1 else if k = 5 then (ltG W w s 8).1 else nI (DA W k w (lotN s (PT W k w)))
theorem lG_C {F : Nat} (hF : 2000 ≤ F) {W : Mem} {k : Nat} {w : Nat → Nat} {t : Nat} {μ : Mem} (h : WY W k w t μ) (hk : k = 1 ∨ k = 2) : ∃ μ2, f_X2_drawByLots F μ t = some ((lgG W k w (μ.1 t 2) (cntOf k)).1, μ2) ∧ SD t μ μ2 := by
  have hc4 : cntOf k ≤ 4 := by rcases hk with rfl | rfl <;> decide
  have hN := rw_N h.1.1
  unfold f_X2_drawByLots
  refine run_rel (N := cntOf k) (fun n i μ' => f_X2_drawByLots_b4 F n μ' t (lgG W k w (μ.1 t 2) i).1 (nI i)) (fun i μ' => SD t μ μ' ∧ μ'.1 t 2 = (lgG W k w (μ.1 t 2) i).2) (fun o => ∃ μ2, o = some ((lgG W k w (μ.1 t 2) (cntOf k)).1, μ2) ∧ SD t μ μ2) (fun n i μ' hi hI => Or.inl ?_) (fun n μ' hI => ?_) F 0 μ (Nat.zero_le _) (by omega) ⟨SD.rf t μ, rfl⟩
  · obtain ⟨i1, i2⟩ := hI
    have hy := h.sm (SD.sm h i1)
    obtain ⟨μ2, e1, e2, e3⟩ := tb_C hF μ' t (d := msk (gf W k i) (nm W)) (msk_b hN) (nI (w i))
    rw [i2] at e1 e2
    refine ⟨μ2, ⟨i1.tr e3, e2⟩, fun y hy2 => ?_⟩
    unfold f_X2_drawByLots_b4
    simp (disch := omega) only [xbn, (hy.k12 hk).2.2, br_le_f, mb_eq F hy hk hi, xca, ck_in, nI_clamp, hy.num hi, e1, nI_1]
    exact hy2
  · obtain ⟨i1, i2⟩ := hI
    have hy := h.sm (SD.sm h i1)
    unfold f_X2_drawByLots_b4
    simp (disch := omega) only [xbn, (hy.k12 hk).2.2, br_le_t]
    exact ⟨μ', rfl, i1⟩
theorem lL_R {F : Nat} (hF : 2000 ≤ F) {W : Mem} (hw : WF W) {w : Nat → Nat} {ρ : Mem} (h : R2 W 2 w ρ) : ∃ ρ2, f_X12_lotsNow_b63 F F ρ 0 0 = some ((lgG W 2 w (ρ.1 0 26) 4).1, ρ2) ∧ SE ρ ρ2 := by
  have hN := rw_N hw
  refine run_rel (N := 4) (fun n i ρ' => f_X12_lotsNow_b63 F n ρ' (lgG W 2 w (ρ.1 0 26) i).1 (nI i)) (fun i ρ' => SE ρ ρ' ∧ ρ'.1 0 26 = (lgG W 2 w (ρ.1 0 26) i).2) (fun o => ∃ ρ2, o = some ((lgG W 2 w (ρ.1 0 26) 4).1, ρ2) ∧ SE ρ ρ2) (fun n i ρ' hi hI => Or.inl ?_) (fun n ρ' hI => ?_) F 0 ρ (Nat.zero_le _) (by omega) ⟨SE.rf ρ, rfl⟩
  · obtain ⟨i1, i2⟩ := hI
    have hy := SE.ry h i1
    have eg : msk (gf W 2 i) (nm W) = msk (fun k => decide (ly W k = i)) (nm W) := by unfold gf; rw [if_neg (by decide)]
    obtain ⟨ρ2, e1, e2, e3⟩ := tb_R hF ρ' (d := msk (gf W 2 i) (nm W)) (msk_b hN) (nI (w i))
    rw [i2] at e1 e2
    refine ⟨ρ2, ⟨i1.tr e3, e2⟩, fun y hy2 => ?_⟩
    rw [eg] at e1
    unfold f_X12_lotsNow_b63
    simp (disch := omega) only [xbn, i_4, br_le_f, bo_l hF hw hy.1.1 (show i < 30 by omega), xca, ck_in, nI_clamp, hy.1.2.2.1 i hi, e1, nI_1]
    rw [lgG, eg] at hy2
    exact hy2
  · obtain ⟨i1, i2⟩ := hI
    unfold f_X12_lotsNow_b63
    simp (disch := omega) only [i_4, br_le_t]
    exact ⟨ρ', rfl, i1⟩
theorem ii_x (F : Nat) (x : Int32) (c : Nat) : f_X11_isIn F x (nI c) = some (if ((x >>> (nI c &&& 31)) &&& 1) = 1 then 1 else 0) := by
  unfold f_X11_isIn
  by_cases q : ((x >>> (nI c &&& 31)) &&& 1) = 1
  · rw [if_neg (fun z => z q), if_pos q]
  · rw [if_pos q, if_neg q]
theorem lT_C {F : Nat} (hF : 2000 ≤ F) {W : Mem} {w : Nat → Nat} {t : Nat} {μ : Mem} (h : WY W 5 w t μ) (b1 : w 1 ≤ 99) : ∃ μ2, f_X8_drawByLots F μ t = some ((ltG W w (μ.1 t 2) 8).1, μ2) ∧ SD t μ μ2 := by
  have hN := rw_N h.1.1
  obtain ⟨μ1, a1, a2, a3⟩ := tb_C hF μ t (d := msk (fun c => hasC W c (nm W)) 8) (msk_b (by omega)) (nI (w 0))
  unfold f_X8_drawByLots
  simp only [xbn, cw_cs h.1, ck_0 (show 0 < 4 by decide), cl_0, h.num (show 0 < cntOf 5 by decide), a1, xca]
  refine run_rel (N := 8) (fun n i μ' => f_X8_drawByLots_b22 F n μ' t (lsC W w (μ.1 t 2)).1 (ltG W w (μ.1 t 2) i).1 (nI i)) (fun i μ' => SD t μ μ' ∧ μ'.1 t 2 = (ltG W w (μ.1 t 2) i).2) (fun o => ∃ μ2, o = some ((ltG W w (μ.1 t 2) 8).1, μ2) ∧ SD t μ μ2) (fun n i μ' hi hI => Or.inl ?_) (fun n μ' hI => ?_) F 0 μ1 (Nat.zero_le _) (by omega) ⟨a3, a2⟩
  · obtain ⟨i1, i2⟩ := hI
    have hy := h.sm (SD.sm h i1)
    by_cases q : (((lsC W w (μ.1 t 2)).1 >>> (nI i &&& 31)) &&& 1) = 1
    · obtain ⟨μ2, e1, e2, e3⟩ := tb_C hF μ' t (d := msk (fun k => decide (cu W k = i)) (nm W)) (msk_b hN) (nI (tC W w i))
      rw [i2] at e1 e2
      refine ⟨μ2, ⟨i1.tr e3, by rw [ltG, if_pos q]; exact e2⟩, fun y hy2 => ?_⟩
      unfold f_X8_drawByLots_b22 f_X8_drawByLots_b57
      simp (disch := omega) only [xbn, i_8, br_le_f, ii_x, q, if_true, xcp, show ¬ (1 : Int32) = 0 by decide, if_false, ck_in, nI_clamp, cw_cb hy.1 hi, to_eq F hy b1 hi, xca, e1, nI_1]
      rw [ltG, if_pos q] at hy2
      exact hy2
    · refine ⟨μ', ⟨i1, by rw [ltG, if_neg q]; exact i2⟩, fun y hy2 => ?_⟩
      unfold f_X8_drawByLots_b22 f_X8_drawByLots_b57
      simp (disch := omega) only [xbn, i_8, br_le_f, ii_x, q, if_true, xcp, if_false, nI_1]
      rw [ltG, if_neg q] at hy2
      exact hy2
  · obtain ⟨i1, i2⟩ := hI
    unfold f_X8_drawByLots_b22
    simp (disch := omega) only [i_8, br_le_t]
    exact ⟨μ', rfl, i1⟩
theorem lT_R {F : Nat} (hF : 2000 ≤ F) {W : Mem} (hw : WF W) {w : Nat → Nat} {ρ : Mem} (h : R2 W 5 w ρ) (b1 : w 1 ≤ 99) : ∃ ρ2, f_X12_lotsNow_b100 F F ρ 0 0 0 = some ((ltG W w (ρ.1 0 26) 8).1, ρ2) ∧ SE ρ ρ2 := by
  have hN := rw_N hw
  obtain ⟨ρ1, a1, a2, a3⟩ := tb_R hF ρ (d := msk (fun c => hasC W c (nm W)) 8) (msk_b (by omega)) (nI (w 0))
  have e : f_X12_lotsNow_b100 F F ρ 0 0 0 = f_X12_lotsNow_b150 F F ρ1 0 (lsC W w (ρ.1 0 26)).1 0 := by
    refine run_up (N := 8) (fun n i => f_X12_lotsNow_b100 F n ρ 0 (nI (msk (fun c => hasC W c (nm W)) i)) (nI i)) (fun n i hi y hy => ?_) (fun n => ?_) F 0 (Nat.zero_le _) (by omega)
    · have l := nC_le W hw i
      unfold f_X12_lotsNow_b100 f_X12_lotsNow_b126
      simp (disch := omega) only [i_8, br_le_f, mo_c hF hw h.1.1, xca, xbn, one_shl, nI_1]
      rw [msk_s] at hy
      by_cases q : nC W i = 0
      · rw [br_le0_t q, show (0 : Int32) = nI 0 from rfl, nI_or, Nat.or_zero]
        rw [if_neg (by rw [hasC_cnt]; simp; exact q)] at hy
        exact hy
      · rw [br_le0_f (by omega) (by omega), nI_or, msk_or]
        rw [if_pos (by rw [hasC_cnt]; simp; exact Nat.pos_of_ne_zero q)] at hy
        exact hy
    · unfold f_X12_lotsNow_b100
      simp (disch := omega) only [i_8, br_le_t, ck_0, cl_0, h.1.2.2.1 0 (show 0 < cntOf 5 by decide), xbn, a1, xca]
      rfl
  rw [e]
  refine run_rel (N := 8) (fun n i ρ' => f_X12_lotsNow_b150 F n ρ' (ltG W w (ρ.1 0 26) i).1 (lsC W w (ρ.1 0 26)).1 (nI i)) (fun i ρ' => SE ρ ρ' ∧ ρ'.1 0 26 = (ltG W w (ρ.1 0 26) i).2) (fun o => ∃ ρ2, o = some ((ltG W w (ρ.1 0 26) 8).1, ρ2) ∧ SE ρ ρ2) (fun n i ρ' hi hI => Or.inl ?_) (fun n ρ' hI => ?_) F 0 ρ1 (Nat.zero_le _) (by omega) ⟨a3, a2⟩
  · obtain ⟨i1, i2⟩ := hI
    have hy := SE.ry h i1
    by_cases q : (((lsC W w (ρ.1 0 26)).1 >>> (nI i &&& 31)) &&& 1) = 1
    · obtain ⟨ρ2, e1, e2, e3⟩ := tb_R hF ρ' (d := msk (fun k => decide (cu W k = i)) (nm W)) (msk_b hN) (nI (tC W w i))
      rw [i2] at e1 e2
      refine ⟨ρ2, ⟨i1.tr e3, by rw [ltG, if_pos q]; exact e2⟩, fun y hy2 => ?_⟩
      unfold f_X12_lotsNow_b150 f_X12_lotsNow_b190
      simp (disch := omega) only [xbn, i_8, br_le_f, q, not_true_eq_false, if_false, bo_c hF hw hy.1.1 (show i < 30 by omega), oc_eq hF hw hy.1 b1 hi, xca, e1, nI_1]
      rw [ltG, if_pos q] at hy2
      exact hy2
    · refine ⟨ρ', ⟨i1, by rw [ltG, if_neg q]; exact i2⟩, fun y hy2 => ?_⟩
      unfold f_X12_lotsNow_b150 f_X12_lotsNow_b190
      simp (disch := omega) only [xbn, i_8, br_le_f, q, not_false_eq_true, if_true, Int32.or_zero, nI_1]
      rw [ltG, if_neg q] at hy2
      exact hy2
  · obtain ⟨i1, i2⟩ := hI
    unfold f_X12_lotsNow_b150
    simp (disch := omega) only [i_8, br_le_t]
    exact ⟨ρ', rfl, i1⟩
theorem SD.u (t : Nat) (μ : Mem) (v : Int32) : SD t μ (ui μ t 2 v) := ⟨fun c j hc => by
  by_cases e : c = t
  · subst e; exact ui_o (hc rfl)
  · exact ui_c e j, rfl⟩
theorem SE.u (ρ : Mem) (v : Int32) : SE ρ (ui ρ 0 26 v) := ⟨fun c j hc => by
  by_cases e : c = 0
  · subst e; exact ui_o (hc rfl)
  · exact ui_c e j, rfl⟩
theorem lo_C {F : Nat} (hF : 2000 ≤ F) {W : Mem} {k : Nat} {w : Nat → Nat} {t : Nat} {μ : Mem} (h : WY W k w t μ) (ho : OK W k w) (s : Int32) : ∃ μ2, vdis t (f_X2_drawByLots F (ui μ t 2 s) t) (f_X4_drawByLots F (ui μ t 2 s) t) (f_X8_drawByLots F (ui μ t 2 s) t) = some (LO W k w s, μ2) ∧ SmC μ μ2 := by
  obtain ⟨h1, h2, h3, h4⟩ := id ho
  have hu := SD.u t μ s
  have hy := h.sm (SD.sm h hu)
  have es : (ui μ t 2 s).1 t 2 = s := ui_s _ _ _ _
  rcases (show k = 1 ∨ k = 2 ∨ k = 3 ∨ k = 4 ∨ k = 5 by omega) with rfl | rfl | rfl | rfl | rfl
  · obtain ⟨μ2, e1, e2⟩ := lG_C hF hy (Or.inl rfl)
    rw [es] at e1
    rw [vd_1 (h.k12 (Or.inl rfl)).1]
    exact ⟨μ2, e1, SD.sm h (hu.tr e2)⟩
  · obtain ⟨μ2, e1, e2⟩ := lG_C hF hy (Or.inr rfl)
    rw [es] at e1
    rw [vd_1 (h.k12 (Or.inr rfl)).1]
    exact ⟨μ2, e1, SD.sm h (hu.tr e2)⟩
  · have hp := ho.pk (Or.inl rfl)
    have hp0 := hp.pos
    have hP := PT_le h.1.1 hp
    have hu2 := hu.tr (SD.u t _ (lotS ((ui μ t 2 s).1 t 2)))
    have hy2 := h.sm (SD.sm h hu2)
    rw [vd_2 (h.k34 (Or.inl rfl)).1]
    unfold f_X4_drawByLots
    simp only [pt_C F hy hp, xca, cl_C F (ui μ t 2 s) t (show 0 < PT W 3 w by omega) (show PT W 3 w < 2 ^ 31 by omega)]
    rw [es, lotV_n s (by omega) (by omega)]
    rw [es] at hy2 hu2
    have hl : lotN s (PT W 3 w) < PT W 3 w := Nat.mod_lt _ (by omega)
    rw [da_eq hF hy2 hp hl]
    exact ⟨_, rfl, SD.sm h hu2⟩
  · have hp := ho.pk (Or.inr rfl)
    have hp0 := hp.pos
    have hP := PT_le h.1.1 hp
    have hu2 := hu.tr (SD.u t _ (lotS ((ui μ t 2 s).1 t 2)))
    have hy2 := h.sm (SD.sm h hu2)
    rw [vd_2 (h.k34 (Or.inr rfl)).1]
    unfold f_X4_drawByLots
    simp only [pt_C F hy hp, xca, cl_C F (ui μ t 2 s) t (show 0 < PT W 4 w by omega) (show PT W 4 w < 2 ^ 31 by omega)]
    rw [es, lotV_n s (by omega) (by omega)]
    rw [es] at hy2 hu2
    have hl : lotN s (PT W 4 w) < PT W 4 w := Nat.mod_lt _ (by omega)
    rw [da_eq hF hy2 hp hl]
    exact ⟨_, rfl, SD.sm h hu2⟩
  · obtain ⟨μ2, e1, e2⟩ := lT_C hF hy (h4 1 (by decide))
    rw [es] at e1
    rw [vd_3 (h.k5 rfl)]
    exact ⟨μ2, e1, SD.sm h (hu.tr e2)⟩
theorem lo_R {F : Nat} (hF : 2000 ≤ F) {W : Mem} (hw : WF W) {k : Nat} {w : Nat → Nat} {ρ : Mem} (h : R2 W k w ρ) (ho : OK W k w) (s : Int32) : ∃ ρ2, f_X12_lotsNow F ρ s = some (LO W k w s, ρ2) ∧ R2 W k w ρ2 := by
  obtain ⟨h1, h2, h3, h4⟩ := id ho
  have hu := SE.u ρ s
  have hy := SE.ry h hu
  have es : (ui ρ 0 26 s).1 0 26 = s := ui_s _ _ _ _
  have hN := rw_N hw
  have hr2 := hy.1.2.1
  unfold f_X12_lotsNow
  simp only [xbn, gr_R hy.1, xca]
  rcases (show k = 1 ∨ k = 2 ∨ k = 3 ∨ k = 4 ∨ k = 5 by omega) with rfl | rfl | rfl | rfl | rfl
  · obtain ⟨ρ2, e1, e2, e3⟩ := tb_R hF (ui ρ 0 26 s) (d := msk (fun _ => true) (nm W)) (msk_b hN) (nI (w 0))
    rw [es] at e1 e2
    have ea : f_X12_allBits F (ui ρ 0 26 s) = some (nI (msk (fun _ => true) (nm W)), ui ρ 0 26 s) := by rw [msk_all]; exact al_eq hF hw hy.1.1
    have n0 := hy.1.2.2.1 0 (show 0 < cntOf 1 by decide)
    simp only [show ¬ ((1 : Nat) = 3 ∨ (1 : Nat) = 4) by decide, if_false, if_true, hr2, kc, not_true_eq_false, ea, xca, ck_0 (show 0 < 4 by decide), cl_0, n0, e1]
    refine ⟨ρ2, ?_, SE.ry hy e3⟩
    show _ = some (0 ||| (TK (msk (gf W 1 0) (nm W)) (nI (w 0)) s).1, ρ2)
    rw [Int32.zero_or]
    rfl
  · obtain ⟨ρ2, e1, e2⟩ := lL_R hF hw hy
    rw [es] at e1
    simp only [show ¬ ((2 : Nat) = 3 ∨ (2 : Nat) = 4) by decide, if_false, if_true, hr2, kc, show ¬ (2 : Nat) = 1 by decide, show ¬ (108 : Int32) = 97 by decide, not_true_eq_false, not_false_eq_true, e1]
    exact ⟨ρ2, rfl, SE.ry hy e2⟩
  · have hp := ho.pk (Or.inl rfl)
    have hp0 := hp.pos
    have hP := PT_le hw hp
    have hu2 := hu.tr (SE.u _ (lotS ((ui ρ 0 26 s).1 0 26)))
    have hy2 := SE.ry h hu2
    rw [es] at hy2
    have hl : lotN s (PT W 3 w) < PT W 3 w := Nat.mod_lt _ (by omega)
    simp only [show ((3 : Nat) = 3 ∨ (3 : Nat) = 4) by decide, if_true, show ¬ (1 : Int32) = 0 by decide, if_false, pt_R hF hw hy.1 hp, xca, lN_i, cl_R F (ui ρ 0 26 s) (show 0 < PT W 3 w by omega) (show PT W 3 w < 2 ^ 31 by omega), es, lotV_n s (show 0 < PT W 3 w by omega) (show PT W 3 w < 2 ^ 31 by omega)]
    rw [do_eq hF hw hy2.1 hp (by omega)]
    exact ⟨_, rfl, hy2⟩
  · have hp := ho.pk (Or.inr rfl)
    have hp0 := hp.pos
    have hP := PT_le hw hp
    have hu2 := hu.tr (SE.u _ (lotS ((ui ρ 0 26 s).1 0 26)))
    have hy2 := SE.ry h hu2
    rw [es] at hy2
    have hl : lotN s (PT W 4 w) < PT W 4 w := Nat.mod_lt _ (by omega)
    simp only [show ((4 : Nat) = 3 ∨ (4 : Nat) = 4) by decide, if_true, show ¬ (1 : Int32) = 0 by decide, if_false, pt_R hF hw hy.1 hp, xca, lN_i, cl_R F (ui ρ 0 26 s) (show 0 < PT W 4 w by omega) (show PT W 4 w < 2 ^ 31 by omega), es, lotV_n s (show 0 < PT W 4 w by omega) (show PT W 4 w < 2 ^ 31 by omega)]
    rw [do_eq hF hw hy2.1 hp (by omega)]
    exact ⟨_, rfl, hy2⟩
  · obtain ⟨ρ2, e1, e2⟩ := lT_R hF hw hy (h4 1 (by decide))
    rw [es] at e1
    simp only [show ¬ ((5 : Nat) = 3 ∨ (5 : Nat) = 4) by decide, if_false, if_true, hr2, kc, show ¬ (5 : Nat) = 1 by decide, show ¬ (5 : Nat) = 2 by decide, show ¬ (5 : Nat) = 3 by decide, show ¬ (5 : Nat) = 4 by decide, show ¬ (116 : Int32) = 97 by decide, show ¬ (116 : Int32) = 108 by decide, not_false_eq_true, e1]
    exact ⟨ρ2, rfl, SE.ry hy e2⟩
theorem isW_k {α : Type} {W : Mem} {k : Nat} {w : Nat → Nat} {t : Nat} {μ : Mem} (h : WY W k w t μ) (x : Option α) : isW t x = x := by
  obtain ⟨_, p, hp, ht, _, k1, k5⟩ := id h
  unfold isW
  rcases (show k = 1 ∨ k = 2 ∨ k = 3 ∨ k = 4 ∨ k = 5 by omega) with rfl | rfl | rfl | rfl | rfl
  · exact vd_1 (h.k12 (Or.inl rfl)).1 _ _ _
  · exact vd_1 (h.k12 (Or.inr rfl)).1 _ _ _
  · exact vd_2 (h.k34 (Or.inl rfl)).1 _ _ _
  · exact vd_2 (h.k34 (Or.inr rfl)).1 _ _ _
  · exact vd_3 (h.k5 rfl) _ _ _
theorem sim_lots {F : Nat} (hF : 2000 ≤ F) (μ ρ : Mem) (a1 a2 : Int32) (h : Rel μ ρ) : ∃ (r : Int32) (μ2 ρ2 : Mem), f_X11_lots F μ a1 a2 = some (r, μ2) ∧ f_X12_lots F ρ a1 a2 = some (r, ρ2) ∧ SmC μ μ2 ∧ SmR ρ ρ2 := by
  unfold f_X11_lots f_X12_lots
  rw [pl_C, pl_R]
  by_cases w1 : wi a1 0 3 = true
  · obtain ⟨p, hp, rfl⟩ := wi_pl w1
    rw [w1]
    by_cases c : CB ρ p
    · obtain ⟨c1, c2, c3⟩ := q_C hF h hp c
      obtain ⟨ρ1, r1, r2⟩ := q_R hF h.1 (SmR.rf ρ) hp c
      obtain ⟨μ2, e1, e2⟩ := lo_C hF c2 c3 a2
      obtain ⟨ρ2, d1, d2⟩ := lo_R hF h.1 r2 c3 a2
      refine ⟨LO ρ (kp ρ p) (wq ρ p) a2, μ2, ρ2, ?_, ?_, e2, d2.1.1⟩
      · simp (disch := omega) only [xcp, xca, xbn, if_true, show ¬ (1 : Int32) = 0 by decide, if_false, not_false_eq_true, ck_in, nI_clamp, c1, onul, isW_k c2, e1]
      · simp only [xcp, xca, xbn, if_true, show ¬ (1 : Int32) = 0 by decide, if_false, not_false_eq_true, r1, d1]
    · obtain ⟨ρ2, r1, r2⟩ := (cr_eq hF h.1 (SmR.rf ρ) hp).2 c
      refine ⟨-3, μ, ρ2, ?_, ?_, SmC.rf μ, r2⟩
      · simp (disch := omega) only [xcp, xca, xbn, if_true, show ¬ (1 : Int32) = 0 by decide, if_false, not_false_eq_true, ck_in, nI_clamp, pw_f hF h hp c, onul]
      · simp (disch := omega) only [xcp, xca, xbn, if_true, show ¬ (1 : Int32) = 0 by decide, if_false, not_false_eq_true, r1]
  · rw [Bool.not_eq_true] at w1
    rw [w1]
    exact ⟨-2, μ, ρ, rfl, rfl, SmC.rf μ, SmR.rf ρ⟩
