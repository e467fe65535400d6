/-! ===== read and putDraftInForce: the two sets of rules change places ===== -/
section AMZ
variable {β : Type} {tb : Nat → Option am_O} {own : Nat} {ini : Bool} {sc : Option (Nat × (Nat → Int32))} {rt : Option FieldType} {d : Nat} {post : β → Option Value → am_H → Prop} {X : Option β} {pc : Nat} {al st : List Value} {h : am_H}
theorem am_Ex.call {r : Option Value} {h' : am_H} {mno : Nat} {As rest : List Value} {v : Option Value} {h1 h2 : am_H} (hc : am_cs tb own pc st h = some (mno, As, rest)) (hf : am_Run d mno As h v h1) (h01 : h.1 ≤ h1.1) (h02 : h1.1 ≤ h'.1) (hx : am_Ex tb own ini sc rt d r h' (pc + 3) al (v.toList ++ rest) h1) : am_Ex tb own ini sc rt d r h' pc al st h := by
  obtain ⟨n, hn⟩ := hx
  obtain ⟨o, kd, idx, w, nst, M, g1, g2, g3, g4, g5, g6, g7, g8, g9⟩ := am_cs_ok hc
  exact ⟨n + 1, o, g1, Or.inr (Or.inl ⟨kd, idx, mno, w, nst, M, As, rest, v, h1, g2, g3, g4, g5, g6, g7, g8, hf, ⟨h01, h02⟩, g9, hn⟩)⟩
theorem am_Ex.ret {h' : am_H} {v : Option Value} (hr : (match tb pc with | some o => am_rt o.1 rt st | none => none) = some v) : am_Ex tb own ini sc rt d v h' pc al st h' := by
  split at hr
  · rename_i o ho
    exact ⟨1, o, ho, Or.inr (Or.inr ⟨hr, rfl⟩)⟩
  · cases hr
/-- a call that may change the heap's references -/
theorem sm_callR (k : Nat) (pc' : Nat) (al' st' : List Value) (h0 h1 : am_H) (mno : Nat) (As rest : List Value) (v : Option Value) (hq : ∀ lim, am_nxs tb lim own ini sc k (pc, al, st, h) = some (pc', al', st', h0)) (hc : am_cs tb own pc' st' h0 = some (mno, As, rest)) (hf : am_Run d mno As h0 v h1) (h01 : h0.1 ≤ h1.1) (h20 : ∀ y r h', post y r h' → h1.1 ≤ h'.1) (kk : am_Sm tb own ini sc rt d post X (pc' + 3) al' (v.toList ++ rest) h1) : am_Sm tb own ini sc rt d post X pc al st h :=
  fun y e r h' hp => am_Ex.nxs (q := (pc, al, st, h)) k (hq _) (am_Ex.call (h2 := h1) hc hf h01 (h20 y r h' hp) (kk y e r h' hp))
end AMZ
theorem am_beq_no {a b : Nat} (h : ¬ a = b) : Nat.beq a b = false := by
  cases hb : Nat.beq a b with
  | false => rfl
  | true => exact absurd (Nat.eq_of_beq_eq_true hb) h
theorem am_swap (sw : Bool) : am_up (am_up (am_RT sw) 0 2 (am_dr sw + 1)) 0 3 (am_ru sw + 1) = am_RT (!sw) := by
  funext c k
  by_cases hc : c = 0
  · subst hc
    by_cases h3 : k = 3
    · subst h3
      cases sw <;> rfl
    · by_cases h2 : k = 2
      · subst h2
        cases sw <;> rfl
      · simp only [am_up, if_neg h3, if_neg h2, am_RT, am_beq_no h2, am_beq_no h3]
        simp
  · simp only [am_up, if_neg hc, am_RT, am_beq_no hc]
    simp
theorem r_X11_putDraft (d : Nat) (sw : Bool) (s : am_S) : am_Run (d + 1) 125 [.ref 0] (am_hp sw s) none (am_hp (!sw) s) := by
  refine ⟨mt_X11_putDraftInForce, rfl, Nat.le_refl _, Or.inr (Or.inr ⟨by decide, mo_X11_putDraftInForce, by decide, by simp, ?_⟩)⟩
  have key : ∀ (a b : Nat), am_dr sw = a → am_ru sw = b → (120, s.1, s.2, am_up (am_up (am_RT sw) 0 2 (a + 1)) 0 3 (b + 1)) = am_hp (!sw) s := by
    intro a b ha hb
    rw [← ha, ← hb, am_swap]
    rfl
  cases sw with
  | false =>
    rw [← key 11 5 rfl rfl]
    exact am_Ex.nxs (q := (0, [.ref 0, .null], [], am_hp false s)) (q' := (18, [.ref 0, .ref 5], [], (120, s.1, s.2, am_up (am_up (am_RT false) 0 2 (11 + 1)) 0 3 (5 + 1)))) 10 rfl (am_Ex.ret rfl)
  | true =>
    rw [← key 5 11 rfl rfl]
    exact am_Ex.nxs (q := (0, [.ref 0, .null], [], am_hp true s)) (q' := (18, [.ref 0, .ref 11], [], (120, s.1, s.2, am_up (am_up (am_RT true) 0 2 (5 + 1)) 0 3 (11 + 1)))) 10 rfl (am_Ex.ret rfl)
def f_X11_read (sw : Bool) (s : am_S) : Option ((Int32 × Bool) × am_S) :=
  am_bd (f_X6_parseInto (am_dr sw) s) (fun v8 s8 => if v8 = 0 then some ((v8, !sw), am_wI (am_wI s8 1 1 0) 0 4 (-1)) else am_bd (f_X6_reached (am_wI s8 1 1 0)) (fun v41 s41 => some ((v8, sw), am_wI s41 0 4 v41)))
def am_pr : (Int32 × Bool) × am_S → Option Value → am_H → Prop := fun y r h' => r = some (.int y.1.1) ∧ h' = am_hp y.1.2 y.2
theorem am_pr20 : ∀ (y : (Int32 × Bool) × am_S) (r : Option Value) (h' : am_H), am_pr y r h' → 120 ≤ h'.1 := fun y r h' h => by
  rw [h.2]
  exact Nat.le_refl _
theorem r_X11_read (d : Nat) (sw sw' : Bool) (s s' : am_S) (v : Int32) (e : f_X11_read sw s = some ((v, sw'), s')) : am_Run (d + 9) 96 [.ref 0] (am_hp sw s) (some (.int v)) (am_hp sw' s') := by
  have hs : am_Sm tb_X11_read 11 false none (some .int) (d + 8) am_pr (f_X11_read sw s) 0 [.ref 0, .null] [] (am_hp sw s) := by
    unfold f_X11_read
    cases sw with
    | false =>
      refine sm_call (cvf := am_cI) 4 8 [.ref 0, .null] [.ref 11, .ref 3] false s 52 [.ref 3, .ref 11] [] (fun _ => rfl) rfl (fun _ _ e9 => r_X6_parseInto_11 (d + 0) false _ _ _ e9) am_pr20 (fun v8 s8 => ?_)
      refine sm_br 7 24 36 [.ref 0, .int v8] [] (am_hp false (am_wI s8 1 1 0)) (fun _ => rfl) (fun _ => ?_) (fun _ => ?_)
      · refine sm_callR 1 25 [.ref 0, .int v8] [.ref 0] (am_hp false (am_wI s8 1 1 0)) (am_hp true (am_wI s8 1 1 0)) 125 [.ref 0] [] none (fun _ => rfl) rfl (r_X11_putDraft (d + 7) false _) (Nat.le_refl _) am_pr20 ?_
        exact sm_ret 5 48 [.ref 0, .int v8] [.int v8] (am_hp true (am_wI (am_wI s8 1 1 0) 0 4 (-1))) (some (.int v8)) (fun _ => rfl) rfl (fun _ _ h => h)
      · refine sm_call (cvf := am_cI) 3 41 [.ref 0, .int v8] [.ref 3, .ref 0] false (am_wI s8 1 1 0) 53 [.ref 3] [.ref 0] (fun _ => rfl) rfl (fun _ _ e9 => r_X6_reached (d + 7) false _ _ _ e9) am_pr20 (fun v41 s41 => ?_)
        exact sm_ret 2 48 [.ref 0, .int v8] [.int v8] (am_hp false (am_wI s41 0 4 v41)) (some (.int v8)) (fun _ => rfl) rfl (fun _ _ h => h)
    | true =>
      refine sm_call (cvf := am_cI) 4 8 [.ref 0, .null] [.ref 5, .ref 3] true s 52 [.ref 3, .ref 5] [] (fun _ => rfl) rfl (fun _ _ e9 => r_X6_parseInto_5 (d + 0) true _ _ _ e9) am_pr20 (fun v8 s8 => ?_)
      refine sm_br 7 24 36 [.ref 0, .int v8] [] (am_hp true (am_wI s8 1 1 0)) (fun _ => rfl) (fun _ => ?_) (fun _ => ?_)
      · refine sm_callR 1 25 [.ref 0, .int v8] [.ref 0] (am_hp true (am_wI s8 1 1 0)) (am_hp false (am_wI s8 1 1 0)) 125 [.ref 0] [] none (fun _ => rfl) rfl (r_X11_putDraft (d + 7) true _) (Nat.le_refl _) am_pr20 ?_
        exact sm_ret 5 48 [.ref 0, .int v8] [.int v8] (am_hp false (am_wI (am_wI s8 1 1 0) 0 4 (-1))) (some (.int v8)) (fun _ => rfl) rfl (fun _ _ h => h)
      · refine sm_call (cvf := am_cI) 3 41 [.ref 0, .int v8] [.ref 3, .ref 0] true (am_wI s8 1 1 0) 53 [.ref 3] [.ref 0] (fun _ => rfl) rfl (fun _ _ e9 => r_X6_reached (d + 7) true _ _ _ e9) am_pr20 (fun v41 s41 => ?_)
        exact sm_ret 2 48 [.ref 0, .int v8] [.int v8] (am_hp true (am_wI s41 0 4 v41)) (some (.int v8)) (fun _ => rfl) rfl (fun _ _ h => h)
  exact ⟨mt_X11_read, rfl, Nat.le_refl _, Or.inr (Or.inr ⟨by decide, mo_X11_read, by decide, by simp, hs _ e _ _ ⟨rfl, rfl⟩⟩)⟩
