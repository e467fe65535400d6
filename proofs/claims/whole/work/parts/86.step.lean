/-! ===== one token, on the side of the tokens ===== -/
section STP
variable {C : Nat → Nat} {n : Nat}
theorem vk_C {b0 : Nat} {a : am_S} (hb : b0 < 14) (Y : f_X9_spells b0 a = some (1, a)) (N : ∀ b, b < 14 → b ≠ b0 → f_X9_spells b a = some (0, a)) : (am_bd (f_X9_variable a) (fun v61 s61 => if v61 = (-1) then (am_bd (f_X9_keyword s61) (fun v71 s71 => some (v71, s71))) else (some ((19 + v61), s61)))) = some (nI (cm (kw b0)), a) := by
  have hb' : b0 = 0 ∨ b0 = 1 ∨ b0 = 2 ∨ b0 = 3 ∨ b0 = 4 ∨ b0 = 5 ∨ b0 = 6 ∨ b0 = 7 ∨ b0 = 8 ∨ b0 = 9 ∨ b0 = 10 ∨ b0 = 11 ∨ b0 = 12 ∨ b0 = 13 := by omega
  have z : ¬ (1 : Int32) = 0 := by decide
  rcases hb' with e | e | e | e | e | e | e | e | e | e | e | e | e | e <;> subst e
  · have e1 : f_X9_variable a = some (0, a) := by rw [f_X9_variable, bd_some Y, if_neg z]
    rw [bd_some e1, if_neg (by decide)]; rfl
  · have e1 : f_X9_variable a = some (1, a) := by rw [f_X9_variable, bd_some (N 0 (by decide) (by decide)), if_pos rfl, bd_some Y, if_neg z]
    rw [bd_some e1, if_neg (by decide)]; rfl
  · have e1 : f_X9_variable a = some (2, a) := by rw [f_X9_variable, bd_some (N 0 (by decide) (by decide)), if_pos rfl, bd_some (N 1 (by decide) (by decide)), if_pos rfl, bd_some Y, if_neg z]
    rw [bd_some e1, if_neg (by decide)]; rfl
  · have e1 : f_X9_variable a = some (3, a) := by rw [f_X9_variable, bd_some (N 0 (by decide) (by decide)), if_pos rfl, bd_some (N 1 (by decide) (by decide)), if_pos rfl, bd_some (N 2 (by decide) (by decide)), if_pos rfl, bd_some Y, if_neg z]
    rw [bd_some e1, if_neg (by decide)]; rfl
  · have e1 : f_X9_variable a = some (4, a) := by rw [f_X9_variable, bd_some (N 0 (by decide) (by decide)), if_pos rfl, bd_some (N 1 (by decide) (by decide)), if_pos rfl, bd_some (N 2 (by decide) (by decide)), if_pos rfl, bd_some (N 3 (by decide) (by decide)), if_pos rfl, bd_some Y, if_neg z]
    rw [bd_some e1, if_neg (by decide)]; rfl
  · have e1 : f_X9_variable a = some (5, a) := by rw [f_X9_variable, bd_some (N 0 (by decide) (by decide)), if_pos rfl, bd_some (N 1 (by decide) (by decide)), if_pos rfl, bd_some (N 2 (by decide) (by decide)), if_pos rfl, bd_some (N 3 (by decide) (by decide)), if_pos rfl, bd_some (N 4 (by decide) (by decide)), if_pos rfl, bd_some Y, if_neg z]
    rw [bd_some e1, if_neg (by decide)]; rfl
  · have e1 : f_X9_variable a = some (6, a) := by rw [f_X9_variable, bd_some (N 0 (by decide) (by decide)), if_pos rfl, bd_some (N 1 (by decide) (by decide)), if_pos rfl, bd_some (N 2 (by decide) (by decide)), if_pos rfl, bd_some (N 3 (by decide) (by decide)), if_pos rfl, bd_some (N 4 (by decide) (by decide)), if_pos rfl, bd_some (N 5 (by decide) (by decide)), if_pos rfl, bd_some Y, if_neg z]
    rw [bd_some e1, if_neg (by decide)]; rfl
  · have e1 : f_X9_variable a = some (7, a) := by rw [f_X9_variable, bd_some (N 0 (by decide) (by decide)), if_pos rfl, bd_some (N 1 (by decide) (by decide)), if_pos rfl, bd_some (N 2 (by decide) (by decide)), if_pos rfl, bd_some (N 3 (by decide) (by decide)), if_pos rfl, bd_some (N 4 (by decide) (by decide)), if_pos rfl, bd_some (N 5 (by decide) (by decide)), if_pos rfl, bd_some (N 6 (by decide) (by decide)), if_pos rfl, bd_some Y, if_neg z]
    rw [bd_some e1, if_neg (by decide)]; rfl
  · have e1 : f_X9_variable a = some (-1, a) := by rw [f_X9_variable, bd_some (N 0 (by decide) (by decide)), if_pos rfl, bd_some (N 1 (by decide) (by decide)), if_pos rfl, bd_some (N 2 (by decide) (by decide)), if_pos rfl, bd_some (N 3 (by decide) (by decide)), if_pos rfl, bd_some (N 4 (by decide) (by decide)), if_pos rfl, bd_some (N 5 (by decide) (by decide)), if_pos rfl, bd_some (N 6 (by decide) (by decide)), if_pos rfl, bd_some (N 7 (by decide) (by decide)), if_pos rfl]
    have e2 : f_X9_keyword a = some (3, a) := by rw [f_X9_keyword, bd_some Y, if_neg z]
    rw [bd_some e1, if_pos rfl, bd_some e2]; rfl
  · have e1 : f_X9_variable a = some (-1, a) := by rw [f_X9_variable, bd_some (N 0 (by decide) (by decide)), if_pos rfl, bd_some (N 1 (by decide) (by decide)), if_pos rfl, bd_some (N 2 (by decide) (by decide)), if_pos rfl, bd_some (N 3 (by decide) (by decide)), if_pos rfl, bd_some (N 4 (by decide) (by decide)), if_pos rfl, bd_some (N 5 (by decide) (by decide)), if_pos rfl, bd_some (N 6 (by decide) (by decide)), if_pos rfl, bd_some (N 7 (by decide) (by decide)), if_pos rfl]
    have e2 : f_X9_keyword a = some (4, a) := by rw [f_X9_keyword, bd_some (N 8 (by decide) (by decide)), if_pos rfl, bd_some Y, if_neg z]
    rw [bd_some e1, if_pos rfl, bd_some e2]; rfl
  · have e1 : f_X9_variable a = some (-1, a) := by rw [f_X9_variable, bd_some (N 0 (by decide) (by decide)), if_pos rfl, bd_some (N 1 (by decide) (by decide)), if_pos rfl, bd_some (N 2 (by decide) (by decide)), if_pos rfl, bd_some (N 3 (by decide) (by decide)), if_pos rfl, bd_some (N 4 (by decide) (by decide)), if_pos rfl, bd_some (N 5 (by decide) (by decide)), if_pos rfl, bd_some (N 6 (by decide) (by decide)), if_pos rfl, bd_some (N 7 (by decide) (by decide)), if_pos rfl]
    have e2 : f_X9_keyword a = some (5, a) := by rw [f_X9_keyword, bd_some (N 8 (by decide) (by decide)), if_pos rfl, bd_some (N 9 (by decide) (by decide)), if_pos rfl, bd_some Y, if_neg z]
    rw [bd_some e1, if_pos rfl, bd_some e2]; rfl
  · have e1 : f_X9_variable a = some (-1, a) := by rw [f_X9_variable, bd_some (N 0 (by decide) (by decide)), if_pos rfl, bd_some (N 1 (by decide) (by decide)), if_pos rfl, bd_some (N 2 (by decide) (by decide)), if_pos rfl, bd_some (N 3 (by decide) (by decide)), if_pos rfl, bd_some (N 4 (by decide) (by decide)), if_pos rfl, bd_some (N 5 (by decide) (by decide)), if_pos rfl, bd_some (N 6 (by decide) (by decide)), if_pos rfl, bd_some (N 7 (by decide) (by decide)), if_pos rfl]
    have e2 : f_X9_keyword a = some (6, a) := by rw [f_X9_keyword, bd_some (N 8 (by decide) (by decide)), if_pos rfl, bd_some (N 9 (by decide) (by decide)), if_pos rfl, bd_some (N 10 (by decide) (by decide)), if_pos rfl, bd_some Y, if_neg z]
    rw [bd_some e1, if_pos rfl, bd_some e2]; rfl
  · have e1 : f_X9_variable a = some (-1, a) := by rw [f_X9_variable, bd_some (N 0 (by decide) (by decide)), if_pos rfl, bd_some (N 1 (by decide) (by decide)), if_pos rfl, bd_some (N 2 (by decide) (by decide)), if_pos rfl, bd_some (N 3 (by decide) (by decide)), if_pos rfl, bd_some (N 4 (by decide) (by decide)), if_pos rfl, bd_some (N 5 (by decide) (by decide)), if_pos rfl, bd_some (N 6 (by decide) (by decide)), if_pos rfl, bd_some (N 7 (by decide) (by decide)), if_pos rfl]
    have e2 : f_X9_keyword a = some (7, a) := by rw [f_X9_keyword, bd_some (N 8 (by decide) (by decide)), if_pos rfl, bd_some (N 9 (by decide) (by decide)), if_pos rfl, bd_some (N 10 (by decide) (by decide)), if_pos rfl, bd_some (N 11 (by decide) (by decide)), if_pos rfl, bd_some Y, if_neg z]
    rw [bd_some e1, if_pos rfl, bd_some e2]; rfl
  · have e1 : f_X9_variable a = some (-1, a) := by rw [f_X9_variable, bd_some (N 0 (by decide) (by decide)), if_pos rfl, bd_some (N 1 (by decide) (by decide)), if_pos rfl, bd_some (N 2 (by decide) (by decide)), if_pos rfl, bd_some (N 3 (by decide) (by decide)), if_pos rfl, bd_some (N 4 (by decide) (by decide)), if_pos rfl, bd_some (N 5 (by decide) (by decide)), if_pos rfl, bd_some (N 6 (by decide) (by decide)), if_pos rfl, bd_some (N 7 (by decide) (by decide)), if_pos rfl]
    have e2 : f_X9_keyword a = some (8, a) := by rw [f_X9_keyword, bd_some (N 8 (by decide) (by decide)), if_pos rfl, bd_some (N 9 (by decide) (by decide)), if_pos rfl, bd_some (N 10 (by decide) (by decide)), if_pos rfl, bd_some (N 11 (by decide) (by decide)), if_pos rfl, bd_some (N 12 (by decide) (by decide)), if_pos rfl, bd_some Y, if_neg z]
    rw [bd_some e1, if_pos rfl, bd_some e2]; rfl
theorem vk_N {a : am_S} (N : ∀ b, b < 14 → f_X9_spells b a = some (0, a)) : (am_bd (f_X9_variable a) (fun v61 s61 => if v61 = (-1) then (am_bd (f_X9_keyword s61) (fun v71 s71 => some (v71, s71))) else (some ((19 + v61), s61)))) = some (1, a) := by
  have e1 : f_X9_variable a = some (-1, a) := by rw [f_X9_variable, bd_some (N 0 (by decide)), if_pos rfl, bd_some (N 1 (by decide)), if_pos rfl, bd_some (N 2 (by decide)), if_pos rfl, bd_some (N 3 (by decide)), if_pos rfl, bd_some (N 4 (by decide)), if_pos rfl, bd_some (N 5 (by decide)), if_pos rfl, bd_some (N 6 (by decide)), if_pos rfl, bd_some (N 7 (by decide)), if_pos rfl]
  have e2 : f_X9_keyword a = some (1, a) := by rw [f_X9_keyword, bd_some (N 8 (by decide)), if_pos rfl, bd_some (N 9 (by decide)), if_pos rfl, bd_some (N 10 (by decide)), if_pos rfl, bd_some (N 11 (by decide)), if_pos rfl, bd_some (N 12 (by decide)), if_pos rfl, bd_some (N 13 (by decide)), if_pos rfl]
  rw [bd_some e1, if_pos rfl, bd_some e2]
theorem wd_C {st p' k : Nat} {a : am_S} (h : tp a C n) (hp : st < p') (hp' : p' ≤ n) (hL : ∀ j, st ≤ j → j < p' → isL (C j) = true) (hE : p' < n → isL (C p') = false) (hW : WK C st (p' - st) k) (e1 : a.1 4 1 = nI st) (e2 : a.1 4 2 = nI st) : f_X9_word a = some (nI (cm k), am_wI a 4 2 (nI p')) := by
  have hn := h.2.1
  have g := wr_C hp' hE am_FU st a h e2 (by omega) hL (by unfold am_FU; omega)
  have h' : tp (am_wI a 4 2 (nI p')) C n := h.on (L := [4]) ((rw_on.refl _ _).w (by simp) _ _) (by simp) (by simp)
  have e1' : (am_wI a 4 2 (nI p')).1 4 1 = nI st := by simp [rl_wI]; exact e1
  have e2' : (am_wI a 4 2 (nI p')).1 4 2 = nI (st + (p' - st)) := by simp [rl_wI]; congr 1; omega
  have d5 : nI (st + (p' - st)) - nI st = nI (p' - st) := by rw [pk_sub (by omega)]; congr 1; omega
  rw [f_X9_word, lp_r g, e1', e2', d5]
  rcases hW with ⟨q1, q2⟩ | ⟨q1, ⟨b, b1, b2, b3⟩ | ⟨q2, q3⟩⟩
  · have d1 : (8 : Int32) < nI (p' - st) := nI_lt (a := 8) q1 (by omega)
    rw [if_pos d1, q2]; rfl
  · have d1 : ¬ (8 : Int32) < nI (p' - st) := nI_nlt (a := 8) (by omega) (by decide)
    rw [if_neg d1, b3]
    refine vk_C b1 ?_ (fun b' hb' hne => ?_)
    · rcases sp_C b1 (show st + (p' - st) ≤ n by omega) h' e1' e2' with ⟨-, g1⟩ | ⟨g0, -⟩
      · exact g1
      · exact absurd b2 g0
    · rcases sp_C hb' (show st + (p' - st) ≤ n by omega) h' e1' e2' with ⟨g0, -⟩ | ⟨-, g1⟩
      · exact absurd (wm_un hb' b1 g0 b2) hne
      · exact g1
  · have d1 : ¬ (8 : Int32) < nI (p' - st) := nI_nlt (a := 8) (by omega) (by decide)
    rw [if_neg d1, q3]
    refine vk_N (fun b' hb' => ?_)
    rcases sp_C hb' (show st + (p' - st) ≤ n by omega) h' e1' e2' with ⟨g0, -⟩ | ⟨-, g1⟩
    · exact absurd g0 (q2 b' hb')
    · exact g1
theorem te_C {a : am_S} {p : Nat} (h : tp a C n) (hp : p ≤ 2001) (e2 : a.1 4 2 = nI p) : (((if p < n then C p else 0) = 61) ∧ f_X9_tookEqualSign a = some (1, am_wI a 4 2 (nI (p + 1)))) ∨ (¬ ((if p < n then C p else 0) = 61) ∧ f_X9_tookEqualSign a = some (0, a)) := by
  have a1 := at_C h (show p ≤ 4000 by omega)
  have d4 : nI p + 1 = nI (p + 1) := nI_1 p
  have g1 : decide ((1 : Int32) &&& 1 = 1) = true := by decide
  have g0 : decide ((0 : Int32) &&& 1 = 0) = true := by decide
  have z : ¬ (1 : Int32) = 0 := by decide
  by_cases q : p < n
  · rw [if_pos q] at a1 ⊢
    have hc := (h.2.2 p q).2
    by_cases q2 : C p = 61
    · refine Or.inl ⟨q2, ?_⟩
      rw [q2] at a1
      have z61 : nI 61 = 61 := rfl
      rw [f_X9_tookEqualSign, e2, bd_some a1]
      simp only [am_jn]
      rw [if_pos z61, if_neg z, g1, e2, d4]
      rfl
    · have q3 : ¬ nI (C p) = 61 := nI_ne (m := 61) (by omega) (by decide) q2
      refine Or.inr ⟨q2, ?_⟩
      rw [f_X9_tookEqualSign, e2, bd_some a1]
      simp only [am_jn]
      rw [if_neg q3, if_pos trivial, g0]
      rfl
  · rw [if_neg q] at a1 ⊢
    refine Or.inr ⟨by decide, ?_⟩
    rw [f_X9_tookEqualSign, e2, bd_some a1]
    simp only [am_jn]
    rw [if_neg (by decide), if_pos trivial, g0]
    rfl
theorem sg_C {st : Nat} {a : am_S} (h : tp a C n) (hst : st < n) (e2 : a.1 4 2 = nI st) : ∃ a', f_X9_sign a (nI (C st)) = some (nI (cm (sgk (C st) (if st + 1 < n then C (st + 1) else 0))), a') ∧ a' = am_wI a 4 2 (nI (st + sgl (C st) (if st + 1 < n then C (st + 1) else 0))) := by
  have hn := h.2.1
  have hc := (h.2.2 st hst).2
  have d4 : nI st + 1 = nI (st + 1) := nI_1 st
  have h' : tp (am_wI a 4 2 (nI (st + 1))) C n := h.on (L := [4]) ((rw_on.refl _ _).w (by simp) _ _) (by simp) (by simp)
  have te := te_C (p := st + 1) h' (by omega) (by simp [rl_wI])
  rw [wI_two] at te
  generalize (if st + 1 < n then C (st + 1) else 0) = d at te ⊢
  refine ⟨_, ?_, rfl⟩
  have z : ¬ (1 : Int32) = 0 := by decide
  by_cases c33 : C st = 33
  · rw [c33]
    have e0 : f_X9_sign a (nI 33) = am_bd (f_X9_tookEqualSign (am_wI a 4 2 ((a.1 4 2) + 1))) (fun v s => if v = 0 then (some ((1), s)) else (some ((14), s))) := rfl
    rw [e0, e2, d4]
    rcases te with ⟨t1, t2⟩ | ⟨t1, t2⟩
    · have k1 : sgk 33 d = 12 := by rw [t1]; rfl
      have k2 : sgl 33 d = 2 := by rw [t1]; rfl
      rw [bd_some t2, if_neg z, k1, k2]; rfl
    · have k1 : sgk 33 d = 3 := by simp [sgk, t1]
      have k2 : sgl 33 d = 1 := by simp [sgl, t1]
      rw [bd_some t2, if_pos rfl, k1, k2]; rfl
  by_cases c60 : C st = 60
  · rw [c60]
    have e0 : f_X9_sign a (nI 60) = am_bd (f_X9_tookEqualSign (am_wI a 4 2 ((a.1 4 2) + 1))) (fun v s => if v = 0 then (some ((15), s)) else (some ((16), s))) := rfl
    rw [e0, e2, d4]
    rcases te with ⟨t1, t2⟩ | ⟨t1, t2⟩
    · have k1 : sgk 60 d = 14 := by rw [t1]; rfl
      have k2 : sgl 60 d = 2 := by rw [t1]; rfl
      rw [bd_some t2, if_neg z, k1, k2]; rfl
    · have k1 : sgk 60 d = 13 := by simp [sgk, t1]
      have k2 : sgl 60 d = 1 := by simp [sgl, t1]
      rw [bd_some t2, if_pos rfl, k1, k2]; rfl
  by_cases c61 : C st = 61
  · rw [c61]
    have e0 : f_X9_sign a (nI 61) = am_bd (f_X9_tookEqualSign (am_wI a 4 2 ((a.1 4 2) + 1))) (fun v s => if v = 0 then (some ((1), s)) else (some ((13), s))) := rfl
    rw [e0, e2, d4]
    rcases te with ⟨t1, t2⟩ | ⟨t1, t2⟩
    · have k1 : sgk 61 d = 11 := by rw [t1]; rfl
      have k2 : sgl 61 d = 2 := by rw [t1]; rfl
      rw [bd_some t2, if_neg z, k1, k2]; rfl
    · have k1 : sgk 61 d = 3 := by simp [sgk, t1]
      have k2 : sgl 61 d = 1 := by simp [sgl, t1]
      rw [bd_some t2, if_pos rfl, k1, k2]; rfl
  by_cases c59 : C st = 59
  · rw [c59]
    have e0 : f_X9_sign a (nI 59) = some (9, am_wI a 4 2 ((a.1 4 2) + 1)) := rfl
    have k1 : sgk 59 d = 4 := by simp [sgk]
    have k2 : sgl 59 d = 1 := by simp [sgl]
    rw [e0, e2, d4, k1, k2]; rfl
  by_cases c40 : C st = 40
  · rw [c40]
    have e0 : f_X9_sign a (nI 40) = some (17, am_wI a 4 2 ((a.1 4 2) + 1)) := rfl
    have k1 : sgk 40 d = 6 := by simp [sgk]
    have k2 : sgl 40 d = 1 := by simp [sgl]
    rw [e0, e2, d4, k1, k2]; rfl
  by_cases c41 : C st = 41
  · rw [c41]
    have e0 : f_X9_sign a (nI 41) = some (18, am_wI a 4 2 ((a.1 4 2) + 1)) := rfl
    have k1 : sgk 41 d = 7 := by simp [sgk]
    have k2 : sgl 41 d = 1 := by simp [sgl]
    rw [e0, e2, d4, k1, k2]; rfl
  by_cases c43 : C st = 43
  · rw [c43]
    have e0 : f_X9_sign a (nI 43) = some (10, am_wI a 4 2 ((a.1 4 2) + 1)) := rfl
    have k1 : sgk 43 d = 8 := by simp [sgk]
    have k2 : sgl 43 d = 1 := by simp [sgl]
    rw [e0, e2, d4, k1, k2]; rfl
  by_cases c45 : C st = 45
  · rw [c45]
    have e0 : f_X9_sign a (nI 45) = some (11, am_wI a 4 2 ((a.1 4 2) + 1)) := rfl
    have k1 : sgk 45 d = 9 := by simp [sgk]
    have k2 : sgl 45 d = 1 := by simp [sgl]
    rw [e0, e2, d4, k1, k2]; rfl
  by_cases c42 : C st = 42
  · rw [c42]
    have e0 : f_X9_sign a (nI 42) = some (12, am_wI a 4 2 ((a.1 4 2) + 1)) := rfl
    have k1 : sgk 42 d = 10 := by simp [sgk]
    have k2 : sgl 42 d = 1 := by simp [sgl]
    rw [e0, e2, d4, k1, k2]; rfl
  have x33 : ¬ nI (C st) = 33 := nI_ne (m := 33) (by omega) (by decide) c33
  have x60 : ¬ nI (C st) = 60 := nI_ne (m := 60) (by omega) (by decide) c60
  have x61 : ¬ nI (C st) = 61 := nI_ne (m := 61) (by omega) (by decide) c61
  have x59 : ¬ nI (C st) = 59 := nI_ne (m := 59) (by omega) (by decide) c59
  have x40 : ¬ nI (C st) = 40 := nI_ne (m := 40) (by omega) (by decide) c40
  have x41 : ¬ nI (C st) = 41 := nI_ne (m := 41) (by omega) (by decide) c41
  have x43 : ¬ nI (C st) = 43 := nI_ne (m := 43) (by omega) (by decide) c43
  have x45 : ¬ nI (C st) = 45 := nI_ne (m := 45) (by omega) (by decide) c45
  have x42 : ¬ nI (C st) = 42 := nI_ne (m := 42) (by omega) (by decide) c42
  have k1 : sgk (C st) d = 3 := by simp [sgk, c33, c60, c61, c59, c40, c41, c43, c45, c42]
  have k2 : sgl (C st) d = 1 := by simp [sgl, c33, c60, c61]
  rw [k1, k2, f_X9_sign]
  simp only [if_neg x33, if_neg x60, if_neg x61, if_neg x59, if_neg x40, if_neg x41, if_neg x43, if_neg x45, if_neg x42, ite_self, e2, d4]
  rfl
theorem sp_step {p k st p' : Nat} {v : Int32} {a : am_S} (h : tp a C n) (hT : TA C n p k v st p') (e2 : a.1 4 2 = nI p) : ∃ a', f_X9_step a = some ((), a') ∧ a'.1 4 1 = nI st ∧ a'.1 4 2 = nI p' ∧ a'.1 4 3 = nI (cm k) ∧ (k = 2 → a'.1 4 4 = v) ∧ rw_on [4] a' a := by
  have hn := h.2.1
  obtain ⟨t1, t2, t3, t4⟩ := hT
  have hs : st < n → isB (C st) = false := by
    intro q
    rcases t4 with ⟨u1, -⟩ | ⟨-, u2, -⟩
    · omega
    · exact u2
  have g := bl_C t2 hs am_FU p a h e2 t1 t3 (by unfold am_FU; omega)
  generalize ha1 : am_wI (am_wI (am_wI a 4 2 (nI st)) 4 1 (nI st)) 4 4 0 = a1
  have o1 : rw_on [4] a1 a := by rw [← ha1]; exact (((rw_on.refl _ _).w (by simp) _ _).w (by simp) _ _).w (by simp) _ _
  have h1 : tp a1 C n := h.on o1 (by simp) (by simp)
  have f1 : a1.1 4 1 = nI st := by rw [← ha1]; rfl
  have f2 : a1.1 4 2 = nI st := by rw [← ha1]; rfl
  have f4 : a1.1 4 4 = 0 := by rw [← ha1]; rfl
  have at1 := at_C h1 (show st ≤ 4000 by omega)
  have s1 : (am_wI a 4 2 (nI st)).1 4 2 = nI st := by simp [rl_wI]
  have hd : f_X9_step a = am_bd (f_X10_at a1 (nI st)) (fun v65 s65 => if v65 = (-1) then (some ((), (am_wI s65 4 3 (0)))) else (am_bd (f_X9_isLetter s65 v65) (fun v83 s83 => if v83 = 0 then (am_bd (f_X9_isDigit s83 v65) (fun v101 s101 => if v101 = 0 then (am_bd (f_X9_sign s101 v65) (fun v121 s121 => some ((), (am_wI s121 4 3 v121)))) else (am_bd (f_X9_number s101) (fun v109 s109 => some ((), (am_wI s109 4 3 v109)))))) else (am_bd (f_X9_word s83) (fun v91 s91 => some ((), (am_wI s91 4 3 v91))))))) := by
    rw [f_X9_step, lp_r g, s1, ha1]
  rw [hd]
  have fin : ∀ (x y : Int32) (a2 : am_S), rw_on [4] a2 a → a2.1 4 1 = nI st → a2.1 4 2 = nI p' → x = nI (cm k) → (k = 2 → a2.1 4 4 = v) → ∃ a', (some ((), am_wI a2 4 3 x) : Option (Unit × am_S)) = some ((), a') ∧ a'.1 4 1 = nI st ∧ a'.1 4 2 = nI p' ∧ a'.1 4 3 = nI (cm k) ∧ (k = 2 → a'.1 4 4 = v) ∧ rw_on [4] a' a := by
    intro x y a2 q1 q2 q3 q4 q5
    exact ⟨_, rfl, by simp [rl_wI]; exact q2, by simp [rl_wI]; exact q3, by simp [rl_wI]; exact q4, fun z => by simp [rl_wI]; exact q5 z, q1.w (by simp) _ _⟩
  rcases t4 with ⟨u1, u2, u3⟩ | ⟨u1, u2, u3, u4, u5⟩
  · subst u1 u2 u3
    rw [if_neg (by omega)] at at1
    rw [bd_some at1, if_pos rfl]
    exact fin 0 0 a1 o1 f1 f2 rfl (fun q => by cases q)
  · rw [if_pos u1] at at1
    have hc := (h1.2.2 st u1).2
    have l1 := lt_i a1 (C st) hc
    have dd := dg_i a1 (C st) hc
    rw [bd_some at1, if_neg (nI_nm1 (by omega)), bd_some l1]
    rcases u5 with ⟨v1, v2, v3, v4⟩ | ⟨v1, v2, v3, v4, v5, v6⟩ | ⟨v1, v2, v3, v4⟩
    · have w := wd_C h1 u3 u4 v2 v3 v4 f1 f2
      rw [v1, show mc_i true = 1 from rfl, if_neg (by decide), bd_some w]
      refine fin _ 0 (am_wI a1 4 2 (nI p')) (o1.w (by simp) _ _) (by simp [rl_wI]; exact f1) (by simp [rl_wI]) rfl (fun q => ?_)
      exfalso
      have kk : ∀ b, b < 14 → kw b ≠ 2 := by decide
      rcases v4 with ⟨-, z⟩ | ⟨-, ⟨b, z1, -, z2⟩ | ⟨-, z⟩⟩
      · omega
      · exact kk b z1 (z2.symm.trans q)
      · omega
    · rw [v1, show mc_i false = 0 from rfl, if_pos rfl, bd_some dd, v2, show mc_i true = 1 from rfl, if_neg (by decide)]
      have gn := nu_C (s0 := st) u4 v4 am_FU st a1 h1 f2 (Nat.le_refl _) (by rw [f4, Nat.sub_self]; rfl) (by omega) v3 (by unfold am_FU; omega)
      generalize ha2 : am_wI (am_wI a1 4 4 (nvI C st (p' - st))) 4 2 (nI p') = a2 at gn
      have o2 : rw_on [4] a2 a := by rw [← ha2]; exact (o1.w (by simp) _ _).w (by simp) _ _
      have k1 : a2.1 4 1 = nI st := by rw [← ha2]; simp [rl_wI]; exact f1
      have k2 : a2.1 4 2 = nI p' := by rw [← ha2]; simp [rl_wI]
      have k4 : a2.1 4 4 = nvI C st (p' - st) := by rw [← ha2]; simp [rl_wI]
      have d5 : nI p' - nI st = nI (p' - st) := pk_sub (by omega)
      by_cases q : 4 < p' - st
      · have d6 : (4 : Int32) < nI (p' - st) := nI_lt (a := 4) q (by omega)
        rw [if_pos q] at v5
        have fnum : f_X9_number a1 = some (1, a2) := by rw [f_X9_number, lp_r gn, k1, k2, d5, if_pos d6]
        rw [bd_some fnum]
        exact fin 1 0 a2 o2 k1 k2 (by rw [v5]; rfl) (fun z => by rw [v5] at z; cases z)
      · have d6 : ¬ (4 : Int32) < nI (p' - st) := nI_nlt (a := 4) (by omega) (by decide)
        rw [if_neg q] at v5
        have fnum : f_X9_number a1 = some (2, a2) := by rw [f_X9_number, lp_r gn, k1, k2, d5, if_neg d6]
        rw [bd_some fnum]
        exact fin 2 0 a2 o2 k1 k2 (by rw [v5]; rfl) (fun _ => by rw [k4, v6 (by omega)])
    · obtain ⟨a2, q1, q2⟩ := sg_C h1 u1 f2
      rw [← v3] at q2
      rw [← v4] at q1
      rw [v1, show mc_i false = 0 from rfl, if_pos rfl, bd_some dd, v2, show mc_i false = 0 from rfl, if_pos rfl, bd_some q1]
      refine fin _ 0 a2 (by rw [q2]; exact o1.w (by simp) _ _) (by rw [q2]; simp [rl_wI]; exact f1) (by rw [q2]; simp [rl_wI]) rfl (fun z => ?_)
      exfalso
      rw [v4] at z
      revert z
      unfold sgk
      repeat' split
      all_goals decide
end STP
