/-! branches decided by what is known of the numbers -/
theorem br_le_t {α : Type} {a b : Nat} {x y : α} (h : a ≤ b) (hb : b < 2 ^ 31) : (if nI a ≤ nI b then x else y) = x := if_pos (nI_le h hb)
theorem br_le_f {α : Type} {a b : Nat} {x y : α} (h : b < a) (ha : a < 2 ^ 31) : (if nI a ≤ nI b then x else y) = y := if_neg (nI_ge h ha)
theorem br_lt_t {α : Type} {a b : Nat} {x y : α} (h : a < b) (hb : b < 2 ^ 31) : (if nI a < nI b then x else y) = x := if_pos (nI_lt h hb)
theorem br_lt_f {α : Type} {a b : Nat} {x y : α} (h : b ≤ a) (ha : a < 2 ^ 31) : (if nI a < nI b then x else y) = y := if_neg (nI_nlt h ha)
theorem br_eq_t {α : Type} {a b : Nat} {x y : α} (h : a = b) : (if nI a = nI b then x else y) = x := if_pos (by rw [h])
theorem br_eq_f {α : Type} {a b : Nat} {x y : α} (h : a ≠ b) (ha : a < 2 ^ 31) (hb : b < 2 ^ 31) : (if nI a = nI b then x else y) = y := if_neg (fun q => h ((nI_eq ha hb).mp q))
theorem br_le0_t {α : Type} {a : Nat} {x y : α} (h : a = 0) : (if nI a ≤ 0 then x else y) = x := by subst h; exact if_pos (by decide)
theorem br_le0_f {α : Type} {a : Nat} {x y : α} (h : 0 < a) (ha : a < 2 ^ 31) : (if nI a ≤ 0 then x else y) = y := if_neg (nI_nle h ha)
theorem br_lt1_t {α : Type} {a : Nat} {x y : α} (h : a = 0) : (if nI a < 1 then x else y) = x := by subst h; exact if_pos (by decide)
theorem br_lt1_f {α : Type} {a : Nat} {x y : α} (h : 0 < a) (ha : a < 2 ^ 31) : (if nI a < 1 then x else y) = y := if_neg (nI_nlt (show 1 ≤ a from h) ha)
theorem br_1le_t {α : Type} {a : Nat} {x y : α} (h : 0 < a) (ha : a < 2 ^ 31) : (if 1 ≤ nI a then x else y) = x := if_pos (nI_le (show 1 ≤ a from h) ha)
theorem br_1le_f {α : Type} {a : Nat} {x y : α} (h : a = 0) : (if 1 ≤ nI a then x else y) = y := by subst h; exact if_neg (by decide)
theorem br_eq0_t {α : Type} {a : Nat} {x y : α} (h : a = 0) : (if nI a = 0 then x else y) = x := by subst h; exact if_pos rfl
theorem br_eq0_f {α : Type} {a : Nat} {x y : α} (h : 0 < a) (ha : a < 2 ^ 31) : (if nI a = 0 then x else y) = y := if_neg (nI_ne0 h ha)
theorem br_eq1_t {α : Type} {a : Nat} {x y : α} (h : a = 1) : (if nI a = 1 then x else y) = x := by subst h; exact if_pos rfl
theorem br_eq1_f {α : Type} {a : Nat} {x y : α} (h : a ≠ 1) (ha : a < 2 ^ 31) : (if nI a = 1 then x else y) = y := if_neg (fun q => h ((nI_eq (b := 1) ha (by omega)).mp q))
theorem br_0le {α : Type} {a : Nat} {x y : α} (ha : a < 2 ^ 31) : (if 0 ≤ nI a then x else y) = x := if_pos (nI_pos' ha)
theorem br_lt0 {α : Type} {a : Nat} {x y : α} (ha : a < 2 ^ 31) : (if nI a < 0 then x else y) = y := if_neg (nI_pos ha)
theorem br_0lt_t {α : Type} {a : Nat} {x y : α} (h : 0 < a) (ha : a < 2 ^ 31) : (if 0 < nI a then x else y) = x := if_pos (nI_lt h ha)
theorem br_0lt_f {α : Type} {a : Nat} {x y : α} (h : a = 0) : (if 0 < nI a then x else y) = y := by subst h; exact if_neg (by decide)
theorem nI_nm1 {a : Nat} (ha : a < 2 ^ 31) : ¬ nI a = -1 := by
  intro q
  have h1 : (nI a).toInt = -1 := by rw [q]; rfl
  rw [nI_toInt ha] at h1
  omega
theorem br_m1 {α : Type} {a : Nat} {x y : α} (ha : a < 2 ^ 31) : (if nI a = -1 then x else y) = y := if_neg (nI_nm1 ha)
theorem nI_s1 {a : Nat} (h : 1 ≤ a) : nI a - 1 = nI (a - 1) := pk_sub (b := 1) h
theorem iof (n : Nat) : Int32.ofNat n = nI n := rfl
theorem cl_0 : (0 : Int32).toNatClampNeg = 0 := rfl
theorem cl_1 : (1 : Int32).toNatClampNeg = 1 := rfl
theorem cl_2 : (2 : Int32).toNatClampNeg = 2 := rfl
theorem cl_3 : (3 : Int32).toNatClampNeg = 3 := rfl
theorem ck_0 {α : Type} {n : Nat} {k : Option α} (h : 0 < n) : ck 0 n k = k := by
  unfold ck
  rw [if_neg]
  rw [cl_0]
  rintro (q | q)
  · exact absurd q (by decide)
  · omega
theorem ck_1 {α : Type} {n : Nat} {k : Option α} (h : 1 < n) : ck 1 n k = k := by
  unfold ck
  rw [if_neg]
  rw [cl_1]
  rintro (q | q)
  · exact absurd q (by decide)
  · omega
theorem i_2 : (2 : Int32) = nI 2 := rfl
theorem i_3 : (3 : Int32) = nI 3 := rfl
theorem i_4 : (4 : Int32) = nI 4 := rfl
theorem i_8 : (8 : Int32) = nI 8 := rfl
theorem i_9 : (9 : Int32) = nI 9 := rfl
theorem i_10 : (10 : Int32) = nI 10 := rfl
theorem i_20 : (20 : Int32) = nI 20 := rfl
theorem i_30 : (30 : Int32) = nI 30 := rfl
theorem i_31 : (31 : Int32) = nI 31 := rfl
theorem i_90 : (90 : Int32) = nI 90 := rfl
theorem i_120 : (120 : Int32) = nI 120 := rfl
theorem i_256 : (256 : Int32) = nI 256 := rfl
/-! longs -/
theorem lgle (x y : Int64) : lg_cmp x y ≤ 0 ↔ x ≤ y := by
  rw [← Int32.not_lt, lgg, Int64.not_lt]
theorem lgge (x y : Int64) : 0 ≤ lg_cmp x y ↔ y ≤ x := by
  rw [← Int32.not_lt, lgl, Int64.not_lt]
theorem lge (x y : Int64) : lg_cmp x y = 0 ↔ x = y := by
  unfold lg_cmp
  by_cases h1 : x > y
  · rw [if_pos h1]
    refine ⟨fun h => absurd h (by decide), fun h => ?_⟩
    subst h; exact absurd h1 Int64.lt_irrefl
  · rw [if_neg h1]
    by_cases h2 : x = y
    · rw [if_pos h2]; exact ⟨fun _ => h2, fun _ => rfl⟩
    · rw [if_neg h2]; exact ⟨fun h => absurd h (by decide), fun h => absurd h h2⟩
theorem bl_le_t {α : Type} {a b : Nat} {x y : α} (h : a ≤ b) (hb : b < 2 ^ 63) : (if lN a ≤ lN b then x else y) = x := if_pos ((pk_lLE (by omega) hb).mpr h)
theorem bl_le_f {α : Type} {a b : Nat} {x y : α} (h : b < a) (ha : a < 2 ^ 63) : (if lN a ≤ lN b then x else y) = y := if_neg (fun q => absurd ((pk_lLE ha (by omega)).mp q) (by omega))
theorem bl_lt_t {α : Type} {a b : Nat} {x y : α} (h : a < b) (hb : b < 2 ^ 63) : (if lN a < lN b then x else y) = x := if_pos ((pk_lLT (by omega) hb).mpr h)
theorem bl_lt_f {α : Type} {a b : Nat} {x y : α} (h : b ≤ a) (ha : a < 2 ^ 63) : (if lN a < lN b then x else y) = y := if_neg (fun q => absurd ((pk_lLT ha (by omega)).mp q) (by omega))
theorem bl_eq_t {α : Type} {a b : Nat} {x y : α} (h : a = b) : (if lN a = lN b then x else y) = x := if_pos (by rw [h])
theorem bl_eq_f {α : Type} {a b : Nat} {x y : α} (h : a ≠ b) (ha : a < 2 ^ 63) (hb : b < 2 ^ 63) : (if lN a = lN b then x else y) = y := if_neg (fun q => h ((pk_lEQ ha hb).mp q))
theorem l_0 : (0 : Int64) = lN 0 := rfl
theorem l_1 : (1 : Int64) = lN 1 := rfl
theorem l_1000 : (1000 : Int64) = lN 1000 := rfl
theorem dvl_n {α : Type} {a : Nat} {k : Option α} (h : 0 < a) (ha : a < 2 ^ 63) : dvl (lN a) k = k := by
  unfold dvl
  rw [if_neg]
  intro q
  exact absurd ((pk_lEQ (b := 0) ha (by omega)).mp q) (by omega)
theorem dvi_n {α : Type} {a : Nat} {k : Option α} (h : 0 < a) (ha : a < 2 ^ 31) : dvi (nI a) k = k := by
  unfold dvi
  rw [if_neg (nI_ne0 h ha)]
/-! memories -/
theorem ui_s (μ : Mem) (k j : Nat) (v : Int32) : (ui μ k j v).1 k j = v := by rw [ui_at, if_pos rfl]
theorem ui_o {μ : Mem} {k j : Nat} {v : Int32} {i : Nat} (h : i ≠ j) : (ui μ k j v).1 k i = μ.1 k i := by rw [ui_at, if_neg h]
theorem ui_2 (μ : Mem) (k j : Nat) (v : Int32) : (ui μ k j v).2 = μ.2 := rfl
theorem ul_1 (μ : Mem) (k j : Nat) (v : Int64) : (ul μ k j v).1 = μ.1 := rfl
theorem ul_22 (μ : Mem) (k j : Nat) (v : Int64) : (ul μ k j v).2.2 = μ.2.2 := rfl
theorem ul_s (μ : Mem) (k j : Nat) (v : Int64) : (ul μ k j v).2.1 k j = v := by rw [ul_eq]; exact if_pos rfl
theorem ul_o {μ : Mem} {k j : Nat} {v : Int64} {i : Nat} (h : i ≠ j) : (ul μ k j v).2.1 k i = μ.2.1 k i := by rw [ul_eq]; exact if_neg h
theorem ul_c {μ : Mem} {k j : Nat} {v : Int64} {c : Nat} (h : c ≠ k) (i : Nat) : (ul μ k j v).2.1 c i = μ.2.1 c i := by rw [ul_ne h]
theorem ur_1 (μ : Mem) (k j : Nat) (v : Option Nat) : (ur μ k j v).1 = μ.1 := rfl
theorem ur_21 (μ : Mem) (k j : Nat) (v : Option Nat) : (ur μ k j v).2.1 = μ.2.1 := rfl
theorem ur_s (μ : Mem) (k j : Nat) (v : Option Nat) : (ur μ k j v).2.2 k j = v := by rw [ur_eq]; exact if_pos rfl
/-- the reference's memory may change so: scratch -/
theorem smr_l (ρ : Mem) (k j : Nat) (v : Int64) : SmR ρ (ul ρ k j v) := ⟨fun _ _ => rfl, rfl, rfl, rfl, rfl⟩
theorem smr_i {k : Nat} (hk : k = 4 ∨ k = 14 ∨ k = 15 ∨ k = 20) (ρ : Mem) (j : Nat) (v : Int32) : SmR ρ (ui ρ k j v) :=
  ⟨fun c hc => ui_ne (by omega), ui_c (by omega) _, ui_c (by omega) _, ui_c (by omega) _, ui_c (by omega) _⟩
theorem smr_0 {j : Nat} (hj : 17 ≤ j) (ρ : Mem) (v : Int32) : SmR ρ (ui ρ 0 j v) :=
  ⟨fun c hc => ui_ne (by omega), ui_o (by omega), ui_o (by omega), ui_o (by omega), ui_o (by omega)⟩
theorem smc_l (μ : Mem) (k j : Nat) (v : Int64) : SmC μ (ul μ k j v) := ⟨rfl, fun _ _ => rfl, fun _ _ => ⟨rfl, rfl, rfl, rfl⟩, fun _ _ _ _ _ _ _ => rfl⟩
theorem smc_i {k : Nat} (hk : k = 66 ∨ k = 69 ∨ k = 71) (μ : Mem) (j : Nat) (v : Int32) : SmC μ (ui μ k j v) :=
  ⟨ui_c (by omega) _, fun c hc => ui_ne (by omega), fun p hp => ⟨ui_ne (by omega), ui_ne (by omega), ui_ne (by omega), rfl⟩, fun p hp m h1 h2 j2 h3 => ui_c (by omega) _⟩
theorem smc_s {p m : Nat} (hp : p < 4) (h3 : 3 ≤ m) (h7 : m ≤ 7) (μ : Mem) (v : Int32) : SmC μ (ui μ (18 + 9 * p + m) 2 v) :=
  ⟨ui_c (by omega) _, fun c hc => ui_ne (by omega), fun p2 hp2 => ⟨ui_ne (by omega), ui_ne (by omega), ui_ne (by omega), rfl⟩, fun p2 hp2 m2 h1 h2 j2 hj => by
    by_cases e : 18 + 9 * p2 + m2 = 18 + 9 * p + m
    · rw [e, ui_o (by omega)]
    · exact ui_c e _⟩
/-! the world: the reference's memory W at a call's beginning; ρ, μ: memories on the way, that agree with it -/
def WF (ρ : Mem) : Prop := WFn ρ ∧ WFa ρ ∧ WFp ρ ∧ WFs ρ ∧ WFk ρ
theorem rw_n {W ρ : Mem} (hw : WF W) (hs : SmR W ρ) : ρ.1 0 5 = nI (nm W) := by rw [hs.2.2.1]; exact hw.1.1
theorem rw_N {W : Mem} (hw : WF W) : nm W ≤ 30 := hw.1.2.1
theorem rw_l {W ρ : Mem} (hw : WF W) (hs : SmR W ρ) {k : Nat} (hk : k < nm W) : ρ.1 5 k = nI (ly W k) ∧ ly W k < 4 := by rw [hs.c (by omega)]; exact (hw.1.2.2 k hk).1
theorem rw_c {W ρ : Mem} (hw : WF W) (hs : SmR W ρ) {k : Nat} (hk : k < nm W) : ρ.1 6 k = nI (cu W k) ∧ cu W k < 8 := by rw [hs.c (by omega)]; exact (hw.1.2.2 k hk).2.1
theorem rw_s {W ρ : Mem} (hw : WF W) (hs : SmR W ρ) {k : Nat} (hk : k < nm W) : ρ.1 7 k = nI (sz W k) ∧ 1 ≤ sz W k ∧ sz W k ≤ 20 := by rw [hs.c (by omega)]; exact (hw.1.2.2 k hk).2.2.1
theorem rw_m {W ρ : Mem} (hw : WF W) (hs : SmR W ρ) {k : Nat} (hk : k < nm W) : ρ.1 8 k = nI (mk W k) ∧ mk W k < 3 := by rw [hs.c (by omega)]; exact (hw.1.2.2 k hk).2.2.2
theorem cw_n {W μ : Mem} (h : Rel μ W) : μ.1 1 10 = nI (nm W) := h.2.1.1.trans h.1.1.1
theorem cw_l {W μ : Mem} (h : Rel μ W) {k : Nat} (hk : k < nm W) : μ.1 2 k = nI (ly W k) := (h.2.1.2.1 k hk).1.trans (h.1.1.2.2 k hk).1.1
theorem cw_c {W μ : Mem} (h : Rel μ W) {k : Nat} (hk : k < nm W) : μ.1 3 k = nI (cu W k) := (h.2.1.2.1 k hk).2.1.trans (h.1.1.2.2 k hk).2.1.1
theorem cw_s {W μ : Mem} (h : Rel μ W) {k : Nat} (hk : k < nm W) : μ.1 4 k = nI (sz W k) := (h.2.1.2.1 k hk).2.2.1.trans (h.1.1.2.2 k hk).2.2.1.1
theorem cw_m {W μ : Mem} (h : Rel μ W) {k : Nat} (hk : k < nm W) : μ.1 5 k = nI (mk W k) := (h.2.1.2.1 k hk).2.2.2.1.trans (h.1.1.2.2 k hk).2.2.2.1
theorem cw_v {W μ : Mem} (h : Rel μ W) {k : Nat} (hk : k < nm W) : μ.1 6 k = vl W k := (h.2.1.2.1 k hk).2.2.2.2.1
theorem cw_b {W μ : Mem} (h : Rel μ W) {k : Nat} (hk : k < nm W) : μ.1 10 k = nI (ssz W k) := (h.2.1.2.1 k hk).2.2.2.2.2.1
theorem cw_o {W μ : Mem} (h : Rel μ W) {k : Nat} (hk : k < nm W) {x : Nat} (hx : x < sz W k) : μ.1 11 (ssz W k + x) = nI k := (h.2.1.2.1 k hk).2.2.2.2.2.2 x hx
theorem cw_lb {W μ : Mem} (h : Rel μ W) {l : Nat} (hl : l < 4) : μ.1 7 l = nI (msk (fun k => decide (ly W k = l)) (nm W)) := h.2.1.2.2.1 l hl
theorem cw_cb {W μ : Mem} (h : Rel μ W) {c : Nat} (hc : c < 8) : μ.1 8 c = nI (msk (fun k => decide (cu W k = c)) (nm W)) := h.2.1.2.2.2.1 c hc
theorem cw_mb {W μ : Mem} (h : Rel μ W) {m : Nat} (hm : m < 3) : μ.1 9 m = nI (msk (fun k => decide (mk W k = m)) (nm W)) := h.2.1.2.2.2.2.1 m hm
theorem cw_e {W μ : Mem} (h : Rel μ W) : μ.1 1 11 = nI (2 ^ nm W - 1) := by rw [← msk_all]; exact h.2.1.2.2.2.2.2.1
theorem cw_cs {W μ : Mem} (h : Rel μ W) : μ.1 1 12 = nI (msk (fun c => hasC W c (nm W)) 8) := h.2.1.2.2.2.2.2.2.1
theorem cw_ll {W μ : Mem} (h : Rel μ W) : μ.1 1 13 = nI (ssz W (nm W)) := h.2.1.2.2.2.2.2.2.2.1
theorem cw_vb {W μ : Mem} (h : Rel μ W) : μ.1 1 14 = nI (msk (fun k => decide (¬ vl W k = -1)) (nm W)) := h.2.1.2.2.2.2.2.2.2.2
theorem rel_c {W μ μ2 : Mem} (h : Rel μ W) (hc : SmC μ μ2) : Rel μ2 W := rel_same h hc (SmR.rf W)
/-- how a query ends -/
theorem q_end {W μ μ2 ρ ρ2 : Mem} (h : Rel μ W) (hc : SmC μ μ2) (hr : SmR W ρ2) : Rel μ2 ρ2 := rel_same h hc hr
theorem ssz_le (W : Mem) (hw : WF W) : ∀ n, n ≤ nm W → ssz W n ≤ 20 * n
  | 0, _ => Nat.le_refl _
  | n + 1, h => by
    have h1 := ssz_le W hw n (by omega)
    have h2 := (rw_s hw (SmR.rf W) (k := n) (by omega)).2.2
    unfold ssz
    omega
