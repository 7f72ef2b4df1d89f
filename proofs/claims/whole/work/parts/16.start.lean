def iC0 : List (Nat → Int32) := [(fun _ => 0), (fun _ => 0), ((fun _ => 0)), ((fun _ => 0)), ((fun _ => 0)), ((fun _ => 0)), ((fun _ => 0)), ((fun _ => 0)), ((fun _ => 0)), ((fun _ => 0)), ((fun _ => 0)), ((fun _ => 0)), (fun j => [0, 0, 0, 0, 0, 0, 399].getD j 0), ((fun _ => 0)), ((fun _ => 0)), ((fun _ => 0)), ((fun _ => 0)), (fun _ => 0), (fun _ => 0), ((fun _ => 0)), ((fun _ => 0)), (fun j => [0, 0, 0, 0, 1].getD j 0), (fun j => [0, 0, 0, 1, 4].getD j 0), (fun _ => 0), (fun j => [0, 0, 0, 1].getD j 0), (fun _ => 0), (fun _ => 0), (fun _ => 0), ((fun _ => 0)), ((fun _ => 0)), (fun j => [0, 0, 0, 0, 1].getD j 0), (fun j => [0, 0, 0, 1, 4].getD j 0), (fun _ => 0), (fun j => [0, 0, 0, 1].getD j 0), (fun _ => 0), (fun _ => 0), (fun _ => 0), ((fun _ => 0)), ((fun _ => 0)), (fun j => [0, 0, 0, 0, 1].getD j 0), (fun j => [0, 0, 0, 1, 4].getD j 0), (fun _ => 0), (fun j => [0, 0, 0, 1].getD j 0), (fun _ => 0), (fun _ => 0), (fun _ => 0), ((fun _ => 0)), ((fun _ => 0)), (fun j => [0, 0, 0, 0, 1].getD j 0), (fun j => [0, 0, 0, 1, 4].getD j 0), (fun _ => 0), (fun j => [0, 0, 0, 1].getD j 0), (fun _ => 0), (fun _ => 0), (fun _ => 0), (fun j => [0, 1, 0, 0].getD j 0), ((fun _ => 0)), (fun j => [0, 1, 0, 0].getD j 0), ((fun _ => 0)), (fun j => [0, 1, 0, 0].getD j 0), ((fun _ => 0)), (fun j => [0, 1, 0, 0].getD j 0), ((fun _ => 0)), (fun _ => 0), ((fun _ => 0)), ((fun _ => 0)), ((fun _ => 0)), (fun _ => 0), (fun _ => 0), (fun _ => 0), ((upd (upd (upd (upd (upd (upd (upd (upd (fun _ => 0) (0 : Int32).toNatClampNeg 5) (1 : Int32).toNatClampNeg 5) (2 : Int32).toNatClampNeg 5) (3 : Int32).toNatClampNeg 5) (4 : Int32).toNatClampNeg 5) (5 : Int32).toNatClampNeg 5) (6 : Int32).toNatClampNeg 5) (7 : Int32).toNatClampNeg 5)), ((fun _ => 0)), (fun _ => 0), (fun _ => 0), (fun _ => 0)]
def jC0 : List (Nat → Int64) := [(fun _ => 0), (fun _ => 0), (fun _ => 0), (fun _ => 0), (fun _ => 0), (fun _ => 0), (fun _ => 0), (fun _ => 0), (fun _ => 0), (fun _ => 0), (fun _ => 0), (fun _ => 0), (fun _ => 0), (fun _ => 0), (fun _ => 0), (fun _ => 0), (fun _ => 0), (fun _ => 0), (fun _ => 0), (fun _ => 0), (fun _ => 0), (fun _ => 0), (fun _ => 0), (fun _ => 0), (fun _ => 0), (fun _ => 0), (fun _ => 0), (fun _ => 0), (fun _ => 0), (fun _ => 0), (fun _ => 0), (fun _ => 0), (fun _ => 0), (fun _ => 0), (fun _ => 0), (fun _ => 0), (fun _ => 0), (fun _ => 0), (fun _ => 0), (fun _ => 0), (fun _ => 0), (fun _ => 0), (fun _ => 0), (fun _ => 0), (fun _ => 0), (fun _ => 0), (fun _ => 0), (fun _ => 0), (fun _ => 0), (fun _ => 0), (fun _ => 0), (fun _ => 0), (fun _ => 0), (fun _ => 0), (fun _ => 0), (fun _ => 0), (fun _ => 0), (fun _ => 0), (fun _ => 0), (fun _ => 0), (fun _ => 0), (fun _ => 0), (fun _ => 0), (fun _ => 0), (fun _ => 0), (fun _ => 0), (fun _ => 0), (fun _ => 0), (fun j => [0, 1].getD j 0), (fun _ => 0), (fun _ => 0), (fun _ => 0), (fun j => [0, 1].getD j 0), (fun j => [0, 1].getD j 0), (fun j => [0, 1].getD j 0)]
def iR0 : List (Nat → Int32) := [(fun j => [0, 0, 0, 0, 0, 0, 0, 0, 0, 0, 0, 0, 0, 0, 399, 0, 0, 0, 0, 0, 0, 0, 0, 0, 0, 0, 0, 0, 0, 0, 0, 0, 0, 0, 0, 0].getD j 0), ((upd (upd (upd (upd (fun _ => 0) (0 : Int32).toNatClampNeg (-1)) (1 : Int32).toNatClampNeg (-1)) (2 : Int32).toNatClampNeg (-1)) (3 : Int32).toNatClampNeg (-1))), ((fun _ => 0)), ((fun _ => 0)), ((fun _ => 0)), ((fun _ => 0)), ((fun _ => 0)), ((fun _ => 0)), ((fun _ => 0)), ((fun _ => 0)), ((fun _ => 0)), ((fun _ => 0)), ((fun _ => 0)), ((fun _ => 0)), ((fun _ => 0)), ((fun _ => 0)), (fun _ => 0), ((fun _ => 0)), ((fun _ => 0)), (fun _ => 0), ((fun _ => 0)), (fun _ => 0), ((upd (upd (upd (upd (upd (upd (upd (upd (fun _ => 0) (0 : Int32).toNatClampNeg 5) (1 : Int32).toNatClampNeg 5) (2 : Int32).toNatClampNeg 5) (3 : Int32).toNatClampNeg 5) (4 : Int32).toNatClampNeg 5) (5 : Int32).toNatClampNeg 5) (6 : Int32).toNatClampNeg 5) (7 : Int32).toNatClampNeg 5)), (fun _ => 0)]
def jR0 : List (Nat → Int64) := [(fun _ => 0), (fun _ => 0), (fun _ => 0), (fun _ => 0), (fun _ => 0), (fun _ => 0), (fun _ => 0), (fun _ => 0), (fun _ => 0), (fun _ => 0), (fun _ => 0), (fun _ => 0), (fun _ => 0), (fun _ => 0), (fun _ => 0), (fun _ => 0), (fun _ => 0), (fun _ => 0), (fun _ => 0), (fun _ => 0), (fun _ => 0), (fun _ => 0), (fun _ => 0), (fun _ => 0)]
/-- the memories behind both constructors -/
def μC0 : Mem := (fun a => iC0.getD a (fun _ => 0), fun a => jC0.getD a (fun _ => 0), fun _ _ => none)
def μR0 : Mem := (fun a => iR0.getD a (fun _ => 0), fun a => jR0.getD a (fun _ => 0), fun _ _ => none)
def ws1 (ks : Nat → ClassId) (h : Nat) (q : Nat → Nat) : va_W := [(h, .inr (10, [.ref (q 0), .ref (q 11), .ref (q 16), .ref (q 17), .ref (q 18), .ref (q 24), .ref (q 28), .ref (q 29), .int 0])), ((q 0), .inr (6, [.ref (q 1), .ref (q 2), .ref (q 3), .ref (q 4), .ref (q 5), .ref (q 6), .ref (q 7), .ref (q 8), .ref (q 9), .ref (q 10), .int 0, .int 0, .int 0, .int 0, .int 0])), ((q 1), .inl (ks 0, 30, .inl (fun _ => 0))), ((q 2), .inl (ks 0, 30, .inl (fun _ => 0))), ((q 3), .inl (ks 0, 30, .inl (fun _ => 0))), ((q 4), .inl (ks 0, 30, .inl (fun _ => 0))), ((q 5), .inl (ks 0, 30, .inl (fun _ => 0))), ((q 6), .inl (ks 0, 4, .inl (fun _ => 0))), ((q 7), .inl (ks 0, 8, .inl (fun _ => 0))), ((q 8), .inl (ks 0, 3, .inl (fun _ => 0))), ((q 9), .inl (ks 0, 30, .inl (fun _ => 0))), ((q 10), .inl (ks 0, 600, .inl (fun _ => 0))), ((q 11), .inr (0, [.ref (q 0), .ref (q 12), .ref (q 13), .ref (q 14), .ref (q 15), .int 0, .int 399])), ((q 12), .inl (ks 0, 120, .inl (fun _ => 0))), ((q 13), .inl (ks 0, 120, .inl (fun _ => 0))), ((q 14), .inl (ks 0, 120, .inl (fun _ => 0))), ((q 15), .inl (ks 0, 30, .inl (fun _ => 0))), ((q 16), .inl (ks 3, 4, .inr (.inr (.inr (.inr (va_up (va_up (va_up (va_up (fun _ => none) (0 : Int32).toNatClampNeg (some (q 30))) (1 : Int32).toNatClampNeg (some (q 39))) (2 : Int32).toNatClampNeg (some (q 48))) (3 : Int32).toNatClampNeg (some (q 57)))))))), ((q 30), .inr (5, [.ref (q 31), .ref (q 32), .ref (q 33), .ref (q 34), .ref (q 35), .ref (q 36), .ref (q 37), .int 0, .int 0, .null])), ((q 31), .inl (ks 0, 20, .inl (fun _ => 0))), ((q 32), .inl (ks 0, 4, .inl (fun _ => 0))), ((q 33), .inr (2, [.ref (q 0), .ref (q 32), .int 0, .int 0, .int 1])), ((q 34), .inr (2, [.ref (q 0), .ref (q 32), .int 0, .int 1, .int 4])), ((q 35), .inr (4, [.ref (q 0), .ref (q 32), .int 0, .int 0])), ((q 36), .inr (4, [.ref (q 0), .ref (q 32), .int 0, .int 1])), ((q 37), .inr (8, [.ref (q 0), .ref (q 32), .int 0, .ref (q 38)])), ((q 38), .inl (ks 1, 9, .inr (.inl (fun _ => 0)))), ((q 39), .inr (5, [.ref (q 40), .ref (q 41), .ref (q 42), .ref (q 43), .ref (q 44), .ref (q 45), .ref (q 46), .int 0, .int 0, .null])), ((q 40), .inl (ks 0, 20, .inl (fun _ => 0))), ((q 41), .inl (ks 0, 4, .inl (fun _ => 0))), ((q 42), .inr (2, [.ref (q 0), .ref (q 41), .int 0, .int 0, .int 1])), ((q 43), .inr (2, [.ref (q 0), .ref (q 41), .int 0, .int 1, .int 4])), ((q 44), .inr (4, [.ref (q 0), .ref (q 41), .int 0, .int 0])), ((q 45), .inr (4, [.ref (q 0), .ref (q 41), .int 0, .int 1])), ((q 46), .inr (8, [.ref (q 0), .ref (q 41), .int 0, .ref (q 47)])), ((q 47), .inl (ks 1, 9, .inr (.inl (fun _ => 0)))), ((q 48), .inr (5, [.ref (q 49), .ref (q 50), .ref (q 51), .ref (q 52), .ref (q 53), .ref (q 54), .ref (q 55), .int 0, .int 0, .null])), ((q 49), .inl (ks 0, 20, .inl (fun _ => 0))), ((q 50), .inl (ks 0, 4, .inl (fun _ => 0))), ((q 51), .inr (2, [.ref (q 0), .ref (q 50), .int 0, .int 0, .int 1])), ((q 52), .inr (2, [.ref (q 0), .ref (q 50), .int 0, .int 1, .int 4])), ((q 53), .inr (4, [.ref (q 0), .ref (q 50), .int 0, .int 0])), ((q 54), .inr (4, [.ref (q 0), .ref (q 50), .int 0, .int 1])), ((q 55), .inr (8, [.ref (q 0), .ref (q 50), .int 0, .ref (q 56)])), ((q 56), .inl (ks 1, 9, .inr (.inl (fun _ => 0)))), ((q 57), .inr (5, [.ref (q 58), .ref (q 59), .ref (q 60), .ref (q 61), .ref (q 62), .ref (q 63), .ref (q 64), .int 0, .int 0, .null])), ((q 58), .inl (ks 0, 20, .inl (fun _ => 0))), ((q 59), .inl (ks 0, 4, .inl (fun _ => 0))), ((q 60), .inr (2, [.ref (q 0), .ref (q 59), .int 0, .int 0, .int 1])), ((q 61), .inr (2, [.ref (q 0), .ref (q 59), .int 0, .int 1, .int 4])), ((q 62), .inr (4, [.ref (q 0), .ref (q 59), .int 0, .int 0])), ((q 63), .inr (4, [.ref (q 0), .ref (q 59), .int 0, .int 1])), ((q 64), .inr (8, [.ref (q 0), .ref (q 59), .int 0, .ref (q 65)])), ((q 65), .inl (ks 1, 9, .inr (.inl (fun _ => 0)))), ((q 17), .inl (ks 4, 4, .inr (.inr (.inr (.inr (va_up (va_up (va_up (va_up (fun _ => none) (0 : Int32).toNatClampNeg (some (q 66))) (1 : Int32).toNatClampNeg (some (q 68))) (2 : Int32).toNatClampNeg (some (q 70))) (3 : Int32).toNatClampNeg (some (q 72)))))))), ((q 66), .inr (7, [.ref (q 67), .int 1, .int 0, .int 0])), ((q 67), .inl (ks 0, 90, .inl (fun _ => 0))), ((q 68), .inr (7, [.ref (q 69), .int 1, .int 0, .int 0])), ((q 69), .inl (ks 0, 90, .inl (fun _ => 0))), ((q 70), .inr (7, [.ref (q 71), .int 1, .int 0, .int 0])), ((q 71), .inl (ks 0, 90, .inl (fun _ => 0))), ((q 72), .inr (7, [.ref (q 73), .int 1, .int 0, .int 0])), ((q 73), .inl (ks 0, 90, .inl (fun _ => 0))), ((q 18), .inr (9, [.ref (q 0), .ref (q 19), .ref (q 20), .ref (q 21), .ref (q 22), .ref (q 23)])), ((q 19), .inl (ks 0, 4, .inl (fun _ => 0))), ((q 20), .inl (ks 0, 3, .inl (fun _ => 0))), ((q 21), .inl (ks 0, 30, .inl (fun _ => 0))), ((q 22), .inl (ks 1, 30, .inr (.inl (fun _ => 0)))), ((q 23), .inr (1, [.long 0, .long 1])), ((q 24), .inr (3, [.ref (q 0), .ref (q 25), .ref (q 26), .ref (q 27), .int 0, .int 0, .int 0])), ((q 25), .inl (ks 0, 8, .inl (upd (upd (upd (upd (upd (upd (upd (upd (fun _ => 0) (0 : Int32).toNatClampNeg 5) (1 : Int32).toNatClampNeg 5) (2 : Int32).toNatClampNeg 5) (3 : Int32).toNatClampNeg 5) (4 : Int32).toNatClampNeg 5) (5 : Int32).toNatClampNeg 5) (6 : Int32).toNatClampNeg 5) (7 : Int32).toNatClampNeg 5))), ((q 26), .inl (ks 0, 8, .inl (fun _ => 0))), ((q 27), .inr (1, [.long 0, .long 1])), ((q 28), .inr (1, [.long 0, .long 1])), ((q 29), .inr (1, [.long 0, .long 1]))]
def ws2 (ks : Nat → ClassId) (h : Nat) (q : Nat → Nat) : va_W := [(h, .inr (11, [.ref (q 0), .ref (q 1), .ref (q 2), .ref (q 3), .int 0, .int 0, .ref (q 4), .ref (q 5), .ref (q 6), .ref (q 7), .int 0, .ref (q 8), .ref (q 9), .ref (q 10), .int 399, .ref (q 11), .ref (q 12), .int 0, .ref (q 13), .int 0, .int 0, .int 0, .ref (q 14), .ref (q 15), .long 0, .long 0, .int 0, .long 0, .long 0, .ref (q 16), .ref (q 17), .ref (q 18), .ref (q 19), .ref (q 20), .ref (q 21), .ref (q 22)])), ((q 0), .inl (ks 0, 4, .inl (upd (upd (upd (upd (fun _ => 0) (0 : Int32).toNatClampNeg (-1)) (1 : Int32).toNatClampNeg (-1)) (2 : Int32).toNatClampNeg (-1)) (3 : Int32).toNatClampNeg (-1)))), ((q 1), .inl (ks 0, 4, .inl (fun _ => 0))), ((q 2), .inl (ks 0, 360, .inl (fun _ => 0))), ((q 3), .inl (ks 0, 90, .inl (fun _ => 0))), ((q 4), .inl (ks 0, 30, .inl (fun _ => 0))), ((q 5), .inl (ks 0, 30, .inl (fun _ => 0))), ((q 6), .inl (ks 0, 30, .inl (fun _ => 0))), ((q 7), .inl (ks 0, 30, .inl (fun _ => 0))), ((q 8), .inl (ks 0, 120, .inl (fun _ => 0))), ((q 9), .inl (ks 0, 120, .inl (fun _ => 0))), ((q 10), .inl (ks 0, 120, .inl (fun _ => 0))), ((q 11), .inl (ks 0, 80, .inl (fun _ => 0))), ((q 12), .inl (ks 0, 4, .inl (fun _ => 0))), ((q 13), .inl (ks 0, 4, .inl (fun _ => 0))), ((q 14), .inl (ks 0, 30, .inl (fun _ => 0))), ((q 15), .inl (ks 1, 9, .inr (.inl (fun _ => 0)))), ((q 16), .inl (ks 0, 4, .inl (fun _ => 0))), ((q 17), .inl (ks 0, 3, .inl (fun _ => 0))), ((q 18), .inl (ks 1, 30, .inr (.inl (fun _ => 0)))), ((q 19), .inl (ks 2, 30, .inl (fun _ => 0))), ((q 20), .inl (ks 1, 30, .inr (.inl (fun _ => 0)))), ((q 21), .inl (ks 0, 8, .inl (upd (upd (upd (upd (upd (upd (upd (upd (fun _ => 0) (0 : Int32).toNatClampNeg 5) (1 : Int32).toNatClampNeg 5) (2 : Int32).toNatClampNeg 5) (3 : Int32).toNatClampNeg 5) (4 : Int32).toNatClampNeg 5) (5 : Int32).toNatClampNeg 5) (6 : Int32).toNatClampNeg 5) (7 : Int32).toNatClampNeg 5))), ((q 22), .inl (ks 1, 8, .inr (.inl (fun _ => 0))))]
def adOf (w : va_W) (i : Nat) : Nat := ((w[i]?).map Prod.fst).getD 0
theorem adOf_at {w : va_W} {i : Nat} {q : Nat × va_E} (h : w[i]? = some q) : adOf w i = q.1 := by simp [adOf, h]
theorem ad_D {A : Nat → Prop} {w : va_W} {N : Nat} (hN : w.length = N) (hD : va_D A w) (sh : Sh) (μ : Mem) : va_D (fun q => ∃ i, i < N ∧ q = adOf w i) (wsM N (adOf w) sh μ) := by
  refine ⟨fun i j x y hi hj hxy => ?_, fun k q hk => ?_⟩
  · obtain ⟨a1, b1⟩ := wsM_inv hi
    obtain ⟨a2, b2⟩ := wsM_inv hj
    subst b1; subst b2
    have e1 : w[i]? = some (w[i]'(by omega)) := List.getElem?_eq_getElem (by omega)
    have e2 : w[j]? = some (w[j]'(by omega)) := List.getElem?_eq_getElem (by omega)
    exact hD.1 i j _ _ e1 e2 (by rw [← adOf_at e1, ← adOf_at e2]; exact hxy)
  · obtain ⟨a1, b1⟩ := wsM_inv hk
    subst b1
    exact ⟨k, a1, rfl⟩
theorem ad_A {A : Nat → Prop} {w : va_W} {N : Nat} (hN : w.length = N) (hD : va_D A w) (q : Nat) (h : ∃ i, i < N ∧ q = adOf w i) : A q := by
  obtain ⟨i, hi, rfl⟩ := h
  have e1 : w[i]? = some (w[i]'(by omega)) := List.getElem?_eq_getElem (by omega)
  rw [adOf_at e1]
  exact hD.2 i _ e1
theorem ad_apart {A : Nat → Prop} {w v : va_W} {N M : Nat} (hN : w.length = N) (hM : v.length = M) (hD : va_D A (w ++ v)) (q : Nat) (h : ∃ i, i < N ∧ q = adOf w i) : ¬ ∃ i, i < M ∧ q = adOf v i := by
  intro h2
  obtain ⟨i, hi, rfl⟩ := h
  obtain ⟨j, hj, he⟩ := h2
  have e1 : w[i]? = some (w[i]'(by omega)) := List.getElem?_eq_getElem (by omega)
  have e2 : v[j]? = some (v[j]'(by omega)) := List.getElem?_eq_getElem (by omega)
  have f1 : (w ++ v)[i]? = some (w[i]'(by omega)) := by rw [List.getElem?_append_left (by omega)]; exact e1
  have f2 : (w ++ v)[N + j]? = some (v[j]'(by omega)) := by rw [List.getElem?_append_right (by omega), hN, Nat.add_sub_cancel_left]; exact e2
  have := hD.1 i (N + j) _ _ f1 f2 (by rw [← adOf_at e1, ← adOf_at e2]; exact he)
  omega
theorem va_atQ {D : va_G} {cl : List vw_C} {ad n : Nat} {cA : ClassId} {f g : Nat → Option Nat} {H : Heap} (h : va_at D cl (ad, .inl (cA, n, .inr (.inr (.inr (.inr f))))) H) (hf : ∀ j, j < n → f j = g j) : va_at D cl (ad, .inl (cA, n, .inr (.inr (.inr (.inr g))))) H := by
  have e : arrV cA n (fun j => va_rf (f j)) = arrV cA n (fun j => va_rf (g j)) := by
    unfold arrV
    congr 1
    apply congrArg
    funext j
    show va_rf (f j.val) = va_rf (g j.val)
    rw [hf j.val j.isLt]
  have h2 : H[ad]? = some (arrV cA n (fun j => va_rf (f j))) := h
  rw [e] at h2
  exact h2
set_option maxRecDepth 100000 in
set_option maxHeartbeats 8000000 in
theorem st_P1 {D : va_G} {ks : Nat → ClassId} {h : Nat} {q : Nat → Nat} {H : Heap} (hP : va_P D vwCl (ws1 ks h q) H) : va_P D vwCl (wsM 75 (adOf (ws1 ks h q)) (shC ks (adOf (ws1 ks h q))) μC0) H := by
  have hall : ∀ k, k < 75 → va_at D vwCl (adOf (ws1 ks h q) k, shC ks (adOf (ws1 ks h q)) k (μC0.1 k) (μC0.2.1 k) (μC0.2.2 k)) H := by
    intro k hk
    match k, hk with
    | 0, _ => exact hP 0 _ rfl
    | 1, _ => exact hP 1 _ rfl
    | 2, _ => exact hP 2 _ rfl
    | 3, _ => exact hP 3 _ rfl
    | 4, _ => exact hP 4 _ rfl
    | 5, _ => exact hP 5 _ rfl
    | 6, _ => exact hP 6 _ rfl
    | 7, _ => exact hP 7 _ rfl
    | 8, _ => exact hP 8 _ rfl
    | 9, _ => exact hP 9 _ rfl
    | 10, _ => exact hP 10 _ rfl
    | 11, _ => exact hP 11 _ rfl
    | 12, _ => exact hP 12 _ rfl
    | 13, _ => exact hP 13 _ rfl
    | 14, _ => exact hP 14 _ rfl
    | 15, _ => exact hP 15 _ rfl
    | 16, _ => exact hP 16 _ rfl
    | 17, _ => exact va_atQ (hP 17 _ rfl) (fun j hj => by rcases (show j = 0 ∨ j = 1 ∨ j = 2 ∨ j = 3 by omega) with rfl | rfl | rfl | rfl <;> rfl)
    | 18, _ => exact hP 18 _ rfl
    | 19, _ => exact hP 19 _ rfl
    | 20, _ => exact hP 20 _ rfl
    | 21, _ => exact hP 21 _ rfl
    | 22, _ => exact hP 22 _ rfl
    | 23, _ => exact hP 23 _ rfl
    | 24, _ => exact hP 24 _ rfl
    | 25, _ => exact hP 25 _ rfl
    | 26, _ => exact hP 26 _ rfl
    | 27, _ => exact hP 27 _ rfl
    | 28, _ => exact hP 28 _ rfl
    | 29, _ => exact hP 29 _ rfl
    | 30, _ => exact hP 30 _ rfl
    | 31, _ => exact hP 31 _ rfl
    | 32, _ => exact hP 32 _ rfl
    | 33, _ => exact hP 33 _ rfl
    | 34, _ => exact hP 34 _ rfl
    | 35, _ => exact hP 35 _ rfl
    | 36, _ => exact hP 36 _ rfl
    | 37, _ => exact hP 37 _ rfl
    | 38, _ => exact hP 38 _ rfl
    | 39, _ => exact hP 39 _ rfl
    | 40, _ => exact hP 40 _ rfl
    | 41, _ => exact hP 41 _ rfl
    | 42, _ => exact hP 42 _ rfl
    | 43, _ => exact hP 43 _ rfl
    | 44, _ => exact hP 44 _ rfl
    | 45, _ => exact hP 45 _ rfl
    | 46, _ => exact hP 46 _ rfl
    | 47, _ => exact hP 47 _ rfl
    | 48, _ => exact hP 48 _ rfl
    | 49, _ => exact hP 49 _ rfl
    | 50, _ => exact hP 50 _ rfl
    | 51, _ => exact hP 51 _ rfl
    | 52, _ => exact hP 52 _ rfl
    | 53, _ => exact hP 53 _ rfl
    | 54, _ => exact va_atQ (hP 54 _ rfl) (fun j hj => by rcases (show j = 0 ∨ j = 1 ∨ j = 2 ∨ j = 3 by omega) with rfl | rfl | rfl | rfl <;> rfl)
    | 55, _ => exact hP 55 _ rfl
    | 56, _ => exact hP 56 _ rfl
    | 57, _ => exact hP 57 _ rfl
    | 58, _ => exact hP 58 _ rfl
    | 59, _ => exact hP 59 _ rfl
    | 60, _ => exact hP 60 _ rfl
    | 61, _ => exact hP 61 _ rfl
    | 62, _ => exact hP 62 _ rfl
    | 63, _ => exact hP 63 _ rfl
    | 64, _ => exact hP 64 _ rfl
    | 65, _ => exact hP 65 _ rfl
    | 66, _ => exact hP 66 _ rfl
    | 67, _ => exact hP 67 _ rfl
    | 68, _ => exact hP 68 _ rfl
    | 69, _ => exact hP 69 _ rfl
    | 70, _ => exact hP 70 _ rfl
    | 71, _ => exact hP 71 _ rfl
    | 72, _ => exact hP 72 _ rfl
    | 73, _ => exact hP 73 _ rfl
    | 74, _ => exact hP 74 _ rfl
    | k + 75, hk => exact absurd hk (by omega)
  intro k z hz
  obtain ⟨h1, rfl⟩ := wsM_inv hz
  exact hall k h1
set_option maxRecDepth 100000 in
set_option maxHeartbeats 8000000 in
theorem st_P2 {D : va_G} {ks : Nat → ClassId} {h : Nat} {q : Nat → Nat} {H : Heap} (hP : va_P D vwCl (ws2 ks h q) H) : va_P D vwCl (wsM 24 (adOf (ws2 ks h q)) (shR ks (adOf (ws2 ks h q))) μR0) H := by
  have hall : ∀ k, k < 24 → va_at D vwCl (adOf (ws2 ks h q) k, shR ks (adOf (ws2 ks h q)) k (μR0.1 k) (μR0.2.1 k) (μR0.2.2 k)) H := by
    intro k hk
    match k, hk with
    | 0, _ => exact hP 0 _ rfl
    | 1, _ => exact hP 1 _ rfl
    | 2, _ => exact hP 2 _ rfl
    | 3, _ => exact hP 3 _ rfl
    | 4, _ => exact hP 4 _ rfl
    | 5, _ => exact hP 5 _ rfl
    | 6, _ => exact hP 6 _ rfl
    | 7, _ => exact hP 7 _ rfl
    | 8, _ => exact hP 8 _ rfl
    | 9, _ => exact hP 9 _ rfl
    | 10, _ => exact hP 10 _ rfl
    | 11, _ => exact hP 11 _ rfl
    | 12, _ => exact hP 12 _ rfl
    | 13, _ => exact hP 13 _ rfl
    | 14, _ => exact hP 14 _ rfl
    | 15, _ => exact hP 15 _ rfl
    | 16, _ => exact hP 16 _ rfl
    | 17, _ => exact hP 17 _ rfl
    | 18, _ => exact hP 18 _ rfl
    | 19, _ => exact hP 19 _ rfl
    | 20, _ => exact hP 20 _ rfl
    | 21, _ => exact hP 21 _ rfl
    | 22, _ => exact hP 22 _ rfl
    | 23, _ => exact hP 23 _ rfl
    | k + 24, hk => exact absurd hk (by omega)
  intro k z hz
  obtain ⟨h1, rfl⟩ := wsM_inv hz
  exact hall k h1
