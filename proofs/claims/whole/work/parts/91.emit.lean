/-! ===== codes come out, on the reference's side ===== -/
theorem emit_x {cd ci cd' ci' : Nat → Int32} {c0 k : Nat} {kd x : Int32} (hx : xM cd ci c0 k) (hc : ∀ j, j ≠ c0 + k → cd' j = cd j ∧ ci' j = ci j) (h1 : cd' (c0 + k) = kd) (h2 : ci' (c0 + k) = x) (hok : ∀ v, okM kd x (m_run cd ci v c0 k)) : xM cd' ci' c0 (k + 1) ∧ ∀ v, m_run cd' ci' v c0 (k + 1) = m_step v kd x (m_run cd ci v c0 k) := by
  have hcg : ∀ j, c0 ≤ j → j < c0 + k → cd' j = cd j ∧ ci' j = ci j := fun j q1 q2 => hc j (by omega)
  refine ⟨fun v m hm => ?_, fun v => ?_⟩
  · by_cases e : m = k
    · subst e
      rw [h1, h2, m_cg hcg m (Nat.le_refl _)]
      exact hok v
    · exact xM_cg hcg hx v m (by omega)
  · rw [m_run, h1, h2, m_cg hcg k (Nat.le_refl _)]
/-- frame: codes only from c on -/
def cF (c : Nat) (b' b : am_S) : Prop := rw_on [58, 78, 79, 80] b' b ∧ (∀ i, i ≠ 11 → i ≠ 12 → i ≠ 13 → i ≠ 14 → i ≠ 32 → i ≠ 36 → b'.1 58 i = b.1 58 i) ∧ ∀ j, j < c ∨ c + 410 ≤ j → b'.1 78 j = b.1 78 j ∧ b'.1 79 j = b.1 79 j
theorem em_M {b : am_S} {c : Nat} (hc : c < 1000) (e : b.1 58 32 = nI c) (kd x : Int32) : ∃ b', f_X12_emit b kd x = some ((), b') ∧ b'.1 58 32 = nI (c + 1) ∧ (∀ i, i ≠ 32 → b'.1 58 i = b.1 58 i) ∧ (∀ j, b'.1 78 j = if j = c then kd else b.1 78 j) ∧ (∀ j, b'.1 79 j = if j = c then x else b.1 79 j) ∧ rw_on [58, 78, 79] b' b := by
  have d2 : am_in (nI c) 1000 = true := rl_nin (by decide) hc
  have d3 : (nI c).toNatClampNeg = c := nI_clamp (by omega)
  have d4 : nI c + 1 = nI (c + 1) := nI_1 c
  refine ⟨am_wI (am_wI (am_wI b 78 c kd) 79 c x) 58 32 (nI (c + 1)), ?_, by simp [rl_wI], fun i hi => by simp [rl_wI, hi], fun j => by simp [rl_wI], fun j => by simp [rl_wI], (((rw_on.refl _ _).w (by simp) _ _).w (by simp) _ _).w (by simp) _ _⟩
  rw [f_X12_emit, e, rl_gu d2, rl_gu d2, d3, d4]
section EMI
variable {tk vl : Nat → Int32} {i0 m c0 : Nat}
theorem co_pop {b : am_S} {x1 : Int32} {n c : Nat} {op : Int32} {rest : List Int32} (hlen : rest.length < 40) (hc : c < 1000) (e36 : b.1 58 36 = nI (op :: rest).length) (e32 : b.1 58 32 = nI c) (hp : pl (b.1 80) (op :: rest)) (hop : op = 8 ∨ op = 9 ∨ op = 10) (hx : x1 = 0 ∨ op = 10) : ∃ b', f_X12_comesOut_L0 (n + 1) x1 b = f_X12_comesOut_L0 n x1 b' ∧ b'.1 58 36 = nI rest.length ∧ b'.1 58 32 = nI (c + 1) ∧ (∀ i, i ≠ 32 → i ≠ 36 → b'.1 58 i = b.1 58 i) ∧ (∀ j, b'.1 78 j = if j = c then (if op = 8 then 2 else if op = 9 then 3 else 4) else b.1 78 j) ∧ (∀ j, b'.1 79 j = if j = c then 0 else b.1 79 j) ∧ rw_on [58, 78, 79] b' b := by
  have l1 : (op :: rest).length = rest.length + 1 := rfl
  rw [l1] at e36
  have d1 : (0 : Int32) < nI (rest.length + 1) := nI_lt (a := 0) (by omega) (by omega)
  have d2 : nI (rest.length + 1) - 1 = nI rest.length := nI_pred _
  have d3 : am_in (nI rest.length) 48 = true := rl_nin (by decide) (by omega)
  have d4 : (nI rest.length).toNatClampNeg = rest.length := nI_clamp (by omega)
  have d5 : b.1 80 rest.length = op := hp.1
  have n6 : ¬ op = 6 := by rcases hop with q | q | q <;> rw [q] <;> decide
  have em := em_M (b := am_wI b 58 36 (nI rest.length)) hc (by simp [rl_wI]; exact e32) (if op = 8 then 2 else if op = 9 then 3 else 4) 0
  obtain ⟨b', m1, m2, m3, m4, m5, m6⟩ := em
  refine ⟨b', ?_, ?_, m2, fun i q1 q2 => ?_, fun j => ?_, fun j => ?_, m6.trans ((rw_on.refl _ _).w (by simp) _ _)⟩
  · rw [f_X12_comesOut_L0, e36, if_pos d1, d2, rl_gu d3, d4, d5, if_neg n6]
    simp only [am_jn]
    have tail : (am_gu (am_in ((b.1 58 36) - 1) 48) (if (b.1 80 (Int32.toNatClampNeg ((b.1 58 36) - 1))) = 8 then (am_bd (f_X12_emit (am_wI b 58 36 ((b.1 58 36) - 1)) 2 (0)) (fun (_ : Unit) s86 => f_X12_comesOut_L0 n x1 s86)) else (if (b.1 80 (Int32.toNatClampNeg ((b.1 58 36) - 1))) = 9 then (am_bd (f_X12_emit (am_wI b 58 36 ((b.1 58 36) - 1)) 3 (0)) (fun (_ : Unit) s86 => f_X12_comesOut_L0 n x1 s86)) else (am_bd (f_X12_emit (am_wI b 58 36 ((b.1 58 36) - 1)) 4 (0)) (fun (_ : Unit) s86 => f_X12_comesOut_L0 n x1 s86))))) = f_X12_comesOut_L0 n x1 b' := by
      rw [e36, d2, rl_gu d3, d4, d5]
      rcases hop with q | q | q
      · subst q
        rw [if_pos rfl] at m1
        rw [if_pos rfl, bd_some m1]
      · subst q
        rw [if_neg (by decide), if_pos rfl] at m1
        rw [if_neg (by decide), if_pos rfl, bd_some m1]
      · subst q
        rw [if_neg (by decide), if_neg (by decide)] at m1
        rw [if_neg (by decide), if_neg (by decide), bd_some m1]
    rw [e36, d2, d4, d5] at tail
    by_cases q : x1 = 0
    · rw [if_pos q]
      rw [e36, d2, d4, d5]
      exact tail
    · have q2 := hx.resolve_left q
      rw [if_neg q, rl_gu d3, if_pos q2]
      rw [e36, d2, d4, d5]
      exact tail
  · rw [m3 36 (by decide)]; simp [rl_wI]
  · rw [m3 i q1]; simp [rl_wI, q2]
  · rw [m4]; simp [rl_wI]
  · rw [m5]; simp [rl_wI]
theorem co_stop {b : am_S} {x1 : Int32} {n : Nat} {w : List Int32} (hlen : w.length < 40) (e36 : b.1 58 36 = nI w.length) (hp : pl (b.1 80) w) (hw : w = [] ∨ (∃ r, w = 6 :: r) ∨ (x1 = 1 ∧ ∃ op r, w = op :: r ∧ (op = 8 ∨ op = 9))) : f_X12_comesOut_L0 (n + 1) x1 b = some (.inr ((), b)) := by
  cases w with
  | nil =>
    have d1 : ¬ (0 : Int32) < nI ([] : List Int32).length := by decide
    rw [f_X12_comesOut_L0, e36, if_neg d1]
  | cons op rest =>
    have l1 : (op :: rest).length = rest.length + 1 := rfl
    rw [l1] at e36 hlen
    have d1 : (0 : Int32) < nI (rest.length + 1) := nI_lt (a := 0) (by omega) (by omega)
    have d2 : nI (rest.length + 1) - 1 = nI rest.length := nI_pred _
    have d3 : am_in (nI rest.length) 48 = true := rl_nin (by decide) (by omega)
    have d4 : (nI rest.length).toNatClampNeg = rest.length := nI_clamp (by omega)
    have d5 : b.1 80 rest.length = op := hp.1
    rw [f_X12_comesOut_L0, e36, if_pos d1, d2, rl_gu d3, d4, d5]
    rcases hw with q | ⟨r, q⟩ | ⟨q, op', r, q2, q3⟩
    · cases q
    · have : op = 6 := (List.cons.inj q).1
      rw [if_pos this]
    · have e1 : op = op' := (List.cons.inj q2).1
      subst e1
      have n6 : ¬ op = 6 := by rcases q3 with z | z <;> rw [z] <;> decide
      have n10 : ¬ op = 10 := by rcases q3 with z | z <;> rw [z] <;> decide
      rw [if_neg n6]
      simp only [am_jn]
      rw [q, if_neg (by decide), rl_gu d3, if_neg n10]
/-- the operators of a frame that come out, and what is left -/
theorem fop1_len (f : FRm) : (fop1 f).length ≤ 1 := by
  unfold fop1
  split
  · simp
  · split <;> simp
def opn (f : FRm) : Nat := (fop2 f).length + (fop1 f).length
theorem pl_app {P : Nat → Int32} : ∀ (u w : List Int32), pl P (u ++ w) → pl P w := by
  intro u
  induction u with
  | nil => intro w h; exact h
  | cons x u ih => intro w h; exact ih w h.2
theorem co_times {b : am_S} {x1 : Int32} {n k : Nat} {f : FRm} {r : List FRm} {z : (Nat → Int32) → Int32} {rest : List Int32} (hl : rest.length < 30) (hk : c0 + k + 2 ≤ 1000) (hE : EB tk vl (b.1 78) (b.1 79) i0 m c0 k f r z (fun v => z v :: stk (f :: r) v)) (e36 : b.1 58 36 = nI (fop2 f ++ (fop1 f ++ rest)).length) (e32 : b.1 58 32 = nI (c0 + k)) (hp : pl (b.1 80) (fop2 f ++ (fop1 f ++ rest))) : ∃ (b' : am_S) (n' : Nat), f_X12_comesOut_L0 (n + 2) x1 b = f_X12_comesOut_L0 (n' + 1) x1 b' ∧ n ≤ n' ∧ EB tk vl (b'.1 78) (b'.1 79) i0 m c0 (k + (fop2 f).length) f r z (fun v => fz f z v :: (fst1 f v ++ stk r v)) ∧ b'.1 58 36 = nI (fop1 f ++ rest).length ∧ b'.1 58 32 = nI (c0 + (k + (fop2 f).length)) ∧ pl (b'.1 80) (fop1 f ++ rest) ∧ rw_on [58, 78, 79] b' b ∧ (∀ i, i ≠ 32 → i ≠ 36 → b'.1 58 i = b.1 58 i) ∧ ∀ j, j < c0 + k ∨ c0 + k + 1 ≤ j → b'.1 78 j = b.1 78 j ∧ b'.1 79 j = b.1 79 j := by
  have l1 := fop1_len f
  cases hb : f.2.1 with
  | false =>
    have o2 : fop2 f = [] := by unfold fop2; rw [hb]; rfl
    rw [o2] at e36 hp ⊢
    refine ⟨b, n + 1, rfl, by omega, ?_, e36, e32, hp, rw_on.refl _ _, fun _ _ _ => rfl, fun _ _ => ⟨rfl, rfl⟩⟩
    obtain ⟨h1, h2, h3, h4, h5⟩ := hE
    refine ⟨h1, h2, h3, h4, fun v => ⟨(h5 v).1, ?_⟩⟩
    rw [Nat.add_zero] at *
    have := (h5 v).2
    rw [show k + ([] : List Int32).length = k from rfl, this]
    simp [stk, fst2, fz, hb]
  | true =>
    have o2 : fop2 f = [10] := by unfold fop2; rw [hb]; rfl
    rw [o2] at e36 hp ⊢
    have hlen : (fop1 f ++ rest).length < 40 := by rw [List.length_append]; omega
    obtain ⟨b', g1, g2, g3, g4, g5, g6, g7⟩ := co_pop (n := n + 1) (x1 := x1) (op := 10) (rest := fop1 f ++ rest) hlen (show c0 + k < 1000 by omega) e36 e32 hp (by simp) (Or.inr rfl)
    obtain ⟨h1, h2, h3, h4, h5⟩ := hE
    have hst : ∀ v, m_run (b.1 78) (b.1 79) v c0 k = z v :: f.2.2.2 v :: (fst1 f v ++ stk r v) := fun v => by
      rw [(h5 v).2]; simp [stk, fst2, hb]
    have ex := emit_x (cd' := b'.1 78) (ci' := b'.1 79) (kd := 4) (x := 0) h3 (fun j hj => by rw [g5, g6, if_neg hj, if_neg hj]; exact ⟨rfl, rfl⟩) (by rw [g5, if_pos rfl]; rfl) (by rw [g6, if_pos rfl]) (fun v => Or.inr (Or.inr ⟨by simp, by rw [hst v]; simp⟩))
    refine ⟨b', n, g1, Nat.le_refl _, ⟨h1, h2, ex.1, h4, fun v => ⟨(h5 v).1, ?_⟩⟩, g2, g3, ?_, g7, g4, fun j hj => ?_⟩
    · show m_run (b'.1 78) (b'.1 79) v c0 (k + 1) = _
      rw [ex.2 v, hst v]
      simp [m_step, fz, hb]
    · rw [(g7 80 (by simp)).1]; exact hp.2
    · rw [g5, g6, if_neg (by omega), if_neg (by omega)]; exact ⟨rfl, rfl⟩
theorem co_plus {b : am_S} {n k : Nat} {f : FRm} {r : List FRm} {z : (Nat → Int32) → Int32} {rest : List Int32} (hl : rest.length < 30) (hk : c0 + k + 2 ≤ 1000) (hE : EB tk vl (b.1 78) (b.1 79) i0 m c0 k f r z (fun v => fz f z v :: (fst1 f v ++ stk r v))) (e36 : b.1 58 36 = nI (fop1 f ++ rest).length) (e32 : b.1 58 32 = nI (c0 + k)) (hp : pl (b.1 80) (fop1 f ++ rest)) : ∃ (b' : am_S) (n' : Nat), f_X12_comesOut_L0 (n + 2) 0 b = f_X12_comesOut_L0 (n' + 1) 0 b' ∧ EB tk vl (b'.1 78) (b'.1 79) i0 m c0 (k + (fop1 f).length) f r z (fun v => fw f z v :: stk r v) ∧ b'.1 58 36 = nI rest.length ∧ b'.1 58 32 = nI (c0 + (k + (fop1 f).length)) ∧ pl (b'.1 80) rest ∧ rw_on [58, 78, 79] b' b ∧ (∀ i, i ≠ 32 → i ≠ 36 → b'.1 58 i = b.1 58 i) ∧ ∀ j, j < c0 + k ∨ c0 + k + 1 ≤ j → b'.1 78 j = b.1 78 j ∧ b'.1 79 j = b.1 79 j := by
  obtain ⟨h1, h2, h3, h4, h5⟩ := hE
  have hf : f.1 = 0 ∨ f.1 = 1 ∨ f.1 = 2 := by have := h4 f (by simp); omega
  by_cases q0 : f.1 = 0
  · have o1 : fop1 f = [] := by unfold fop1; rw [if_pos q0]
    rw [o1] at e36 hp ⊢
    refine ⟨b, n + 1, rfl, ⟨h1, h2, h3, h4, fun v => ⟨(h5 v).1, ?_⟩⟩, e36, e32, hp, rw_on.refl _ _, fun _ _ _ => rfl, fun _ _ => ⟨rfl, rfl⟩⟩
    rw [show k + ([] : List Int32).length = k from rfl, (h5 v).2]
    simp [fw, fst1, q0]
  · have go : ∀ (op kd : Int32), fop1 f = [op] → (op = 8 ∧ kd = 2 ∧ f.1 = 1 ∨ op = 9 ∧ kd = 3 ∧ f.1 = 2) → ∃ (b' : am_S) (n' : Nat), f_X12_comesOut_L0 (n + 2) 0 b = f_X12_comesOut_L0 (n' + 1) 0 b' ∧ EB tk vl (b'.1 78) (b'.1 79) i0 m c0 (k + (fop1 f).length) f r z (fun v => fw f z v :: stk r v) ∧ b'.1 58 36 = nI rest.length ∧ b'.1 58 32 = nI (c0 + (k + (fop1 f).length)) ∧ pl (b'.1 80) rest ∧ rw_on [58, 78, 79] b' b ∧ (∀ i, i ≠ 32 → i ≠ 36 → b'.1 58 i = b.1 58 i) ∧ ∀ j, j < c0 + k ∨ c0 + k + 1 ≤ j → b'.1 78 j = b.1 78 j ∧ b'.1 79 j = b.1 79 j := by
      intro op kd o1 hop
      rw [o1] at e36 hp ⊢
      obtain ⟨b', g1, g2, g3, g4, g5, g6, g7⟩ := co_pop (n := n + 1) (x1 := 0) (op := op) (rest := rest) (by omega) (show c0 + k < 1000 by omega) e36 e32 hp (by rcases hop with ⟨q, -⟩ | ⟨q, -⟩ <;> simp [q]) (Or.inl rfl)
      have hst : ∀ v, m_run (b.1 78) (b.1 79) v c0 k = fz f z v :: f.2.2.1 v :: stk r v := fun v => by
        rw [(h5 v).2]; simp [fst1, q0]
      have ekd : (if op = 8 then (2 : Int32) else if op = 9 then 3 else 4) = kd := by
        rcases hop with ⟨q, q2, -⟩ | ⟨q, q2, -⟩ <;> rw [q, q2] <;> rfl
      have ex := emit_x (cd' := b'.1 78) (ci' := b'.1 79) (kd := kd) (x := 0) h3 (fun j hj => by rw [g5, g6, if_neg hj, if_neg hj]; exact ⟨rfl, rfl⟩) (by rw [g5, if_pos rfl, ekd]) (by rw [g6, if_pos rfl]) (fun v => Or.inr (Or.inr ⟨by rcases hop with ⟨-, q, -⟩ | ⟨-, q, -⟩ <;> simp [q], by rw [hst v]; simp⟩))
      refine ⟨b', n, g1, ⟨h1, h2, ex.1, h4, fun v => ⟨(h5 v).1, ?_⟩⟩, g2, g3, ?_, g7, g4, fun j hj => ?_⟩
      · show m_run (b'.1 78) (b'.1 79) v c0 (k + 1) = _
        rw [ex.2 v, hst v]
        rcases hop with ⟨-, q, q2⟩ | ⟨-, q, q2⟩
        · simp [m_step, q, fw, q2]
        · simp [m_step, q, fw, q2]
      · rw [(g7 80 (by simp)).1]; exact hp.2
      · rw [g5, g6, if_neg (by omega), if_neg (by omega)]; exact ⟨rfl, rfl⟩
    rcases hf with q | q | q
    · exact absurd q q0
    · exact go 8 2 (by simp [fop1, q]) (Or.inl ⟨rfl, rfl, q⟩)
    · exact go 9 3 (by simp [fop1, q]) (Or.inr ⟨rfl, rfl, q⟩)
/-- all that waits on this level comes out -/
theorem co_all {b : am_S} {k : Nat} {f : FRm} {r : List FRm} {z : (Nat → Int32) → Int32} {rest : List Int32} (hl : rest.length < 30) (hr : rest = [] ∨ ∃ w, rest = 6 :: w) (hk : c0 + k + 4 ≤ 1000) (hE : EB tk vl (b.1 78) (b.1 79) i0 m c0 k f r z (fun v => z v :: stk (f :: r) v)) (e36 : b.1 58 36 = nI (fop2 f ++ (fop1 f ++ rest)).length) (e32 : b.1 58 32 = nI (c0 + k)) (hp : pl (b.1 80) (fop2 f ++ (fop1 f ++ rest))) : ∃ b', f_X12_comesOut b 0 = some ((), b') ∧ EB tk vl (b'.1 78) (b'.1 79) i0 m c0 (k + opn f) f r z (fun v => fw f z v :: stk r v) ∧ b'.1 58 36 = nI rest.length ∧ b'.1 58 32 = nI (c0 + (k + opn f)) ∧ pl (b'.1 80) rest ∧ rw_on [58, 78, 79] b' b ∧ (∀ i, i ≠ 32 → i ≠ 36 → b'.1 58 i = b.1 58 i) ∧ ∀ j, j < c0 + k ∨ c0 + k + 2 ≤ j → b'.1 78 j = b.1 78 j ∧ b'.1 79 j = b.1 79 j := by
  have fu : am_FU = 4996 + 2 + 2 := rfl
  have l2 : (fop2 f).length ≤ 1 := by unfold fop2; split <;> simp
  obtain ⟨b1, n1, g1, g0, g2, g3, g4, g5, g6, g7, g8⟩ := co_times (n := 4996 + 2) (x1 := 0) hl (by omega) hE e36 e32 hp
  obtain ⟨n2, rfl⟩ : ∃ n2, n1 = n2 + 1 := ⟨n1 - 1, by omega⟩
  obtain ⟨b2, n3, k1, k2, k3, k4, k5, k6, k7, k8⟩ := co_plus (n := n2) hl (by omega) g2 g3 g4 g5
  have st := co_stop (n := n3) (x1 := 0) (w := rest) (by omega) k3 k5 (by rcases hr with q | q; exact Or.inl q; exact Or.inr (Or.inl q))
  have run : f_X12_comesOut_L0 am_FU 0 b = some (.inr ((), b2)) := by
    rw [fu]
    exact g1.trans (k1.trans st)
  rw [Nat.add_assoc] at k2 k4
  refine ⟨b2, by rw [f_X12_comesOut, lp_r run], k2, k3, k4, k5, k6.trans g6, fun i q1 q2 => (k7 i q1 q2).trans (g7 i q1 q2), fun j hj => ?_⟩
  have e1 := k8 j (by omega)
  have e2 := g8 j (by omega)
  exact ⟨e1.1.trans e2.1, e1.2.trans e2.2⟩
/-- only a times comes out -/
theorem co_one {b : am_S} {k : Nat} {f : FRm} {r : List FRm} {z : (Nat → Int32) → Int32} {rest : List Int32} (hl : rest.length < 30) (hr : rest = [] ∨ ∃ w, rest = 6 :: w) (hk : c0 + k + 4 ≤ 1000) (hE : EB tk vl (b.1 78) (b.1 79) i0 m c0 k f r z (fun v => z v :: stk (f :: r) v)) (e36 : b.1 58 36 = nI (fop2 f ++ (fop1 f ++ rest)).length) (e32 : b.1 58 32 = nI (c0 + k)) (hp : pl (b.1 80) (fop2 f ++ (fop1 f ++ rest))) : ∃ b', f_X12_comesOut b 1 = some ((), b') ∧ EB tk vl (b'.1 78) (b'.1 79) i0 m c0 (k + (fop2 f).length) f r z (fun v => fz f z v :: (fst1 f v ++ stk r v)) ∧ b'.1 58 36 = nI (fop1 f ++ rest).length ∧ b'.1 58 32 = nI (c0 + (k + (fop2 f).length)) ∧ pl (b'.1 80) (fop1 f ++ rest) ∧ rw_on [58, 78, 79] b' b ∧ (∀ i, i ≠ 32 → i ≠ 36 → b'.1 58 i = b.1 58 i) ∧ ∀ j, j < c0 + k ∨ c0 + k + 2 ≤ j → b'.1 78 j = b.1 78 j ∧ b'.1 79 j = b.1 79 j := by
  have fu : am_FU = 4998 + 2 := rfl
  have l1 := fop1_len f
  obtain ⟨b1, n1, g1, g0, g2, g3, g4, g5, g6, g7, g8⟩ := co_times (n := 4998) (x1 := 1) hl (by omega) hE e36 e32 hp
  have hw : fop1 f ++ rest = [] ∨ (∃ r, fop1 f ++ rest = 6 :: r) ∨ ((1 : Int32) = 1 ∧ ∃ op r, fop1 f ++ rest = op :: r ∧ (op = 8 ∨ op = 9)) := by
    unfold fop1
    split
    · rcases hr with q | ⟨w, q⟩
      · exact Or.inl (by simp [q])
      · exact Or.inr (Or.inl ⟨w, by simp [q]⟩)
    · split
      · exact Or.inr (Or.inr ⟨rfl, 8, rest, rfl, Or.inl rfl⟩)
      · exact Or.inr (Or.inr ⟨rfl, 9, rest, rfl, Or.inr rfl⟩)
  have st := co_stop (n := n1) (x1 := 1) (w := fop1 f ++ rest) (by rw [List.length_append]; omega) g3 g5 hw
  have run : f_X12_comesOut_L0 am_FU 1 b = some (.inr ((), b1)) := by
    rw [fu]
    exact g1.trans st
  exact ⟨b1, by rw [f_X12_comesOut, lp_r run], g2, g3, g4, g5, g6, g7, fun j hj => g8 j (by omega)⟩
end EMI
