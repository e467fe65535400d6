/-! ===== box on both sides ===== -/
theorem nw_loop {N : Nat} (hN : N ≤ 400) (x1 : Int32) : ∀ (n i : Nat) (b : am_S), b.1 58 66 = nI N → i ≤ N → N < i + n → (∀ j, j < i → b.1 119 j = 0) → ∃ b', f_X12_box_L45 n x1 (nI i) b = some (.inr ((), b')) ∧ rw_on [119] b' b ∧ ∀ j, j < N → b'.1 119 j = 0 := by
  intro n
  induction n with
  | zero => intro i b h h1 h2; omega
  | succ n ih =>
    intro i b h h1 h2 hz
    have d4 : nI i + 1 = nI (i + 1) := nI_1 i
    by_cases hi : i < N
    · have d1 : nI i < nI N := nI_lt hi (by omega)
      have d2 : am_in (nI i) 400 = true := rl_nin (by decide) (by omega)
      have d3 : (nI i).toNatClampNeg = i := nI_clamp (by omega)
      have z : am_nar 3 0 = 0 := by decide
      obtain ⟨b', g1, g2, g3⟩ := ih (i + 1) (am_wI b 119 i 0) h (by omega) (by omega) (fun j hj => by
        rw [rl_ws]
        by_cases e : j = i
        · simp [e]
        · simp only [e, if_false]; exact hz j (by omega))
      exact ⟨b', by rw [f_X12_box_L45, h, if_pos d1, rl_gu d2, d3, d4, z]; exact g1, g2.trans ((rw_on.refl _ _).w (by simp) _ _), g3⟩
    · have d1 : ¬ nI i < nI N := nI_nlt (by omega) (by omega)
      exact ⟨b, by rw [f_X12_box_L45, h, if_neg d1], rw_on.refl _ _, fun j hj => hz j (by omega)⟩
def ff_t (a : am_S) (N F : Nat) : Prop := ∀ j, j < N → ∃ r g : Nat, r < 200 ∧ g < F ∧ a.1 40 j = nI r ∧ a.1 37 r = nI g
/-- who is new is in a box of the set -/
def FN (Z N : Nat) (a b : am_S) : Prop := ∀ f, f < N → (b.1 119 f = 1 ∧ ∃ o : Nat, o < 8 ∧ Z.testBit o = true ∧ a.1 43 f = nI o) ∨ (b.1 119 f = 0 ∧ (a.1 43 f = -1 ∨ ∃ o : Nat, o < 8 ∧ Z.testBit o = false ∧ a.1 43 f = nI o))
def pA (R : Nat) (a' a : am_S) : Prop := rw_on [24, 44, 57, R, R + 4, R + 5] a' a ∧ ∀ k, k ≠ 5 → a'.1 R k = a.1 R k
theorem pA.refl (R : Nat) (a : am_S) : pA R a a := ⟨rw_on.refl _ _, fun _ _ => rfl⟩
theorem pA.trans {R : Nat} {x y z : am_S} (h : pA R x y) (h' : pA R y z) : pA R x z := ⟨h.1.trans h'.1, fun k hk => (h.2 k hk).trans (h'.2 k hk)⟩
theorem pA.sc {R : Nat} {x y : am_S} (h : sc R x y) : pA R x y := ⟨h.1.mono (by simp), h.2⟩
theorem py_loop {sw : Bool} {Z N F e : Nat} (hZ : Z < 256) (hN : N ≤ 400) : ∀ (n f : Nat) (a b : am_S), GI (am_ru sw) a b F e → fg_t a N → ff_t a N F → a.1 39 1 = nI N → FN Z N a b → f ≤ N → N < f + n → ∃ a' b', f_X11_payFor_L2 sw n (nI Z) (nI f) a = some (.inr ((), a')) ∧ f_X12_box_L214 n (nI Z) (nI f) b = some (.inr ((), b')) ∧ GI (am_ru sw) a' b' F e ∧ pA (am_ru sw) a' a ∧ rw_on [86, 102, 103, 107] b' b := by
  have hR := ru_or sw
  have hR' : am_ru sw ≤ 11 := by omega
  intro n
  induction n with
  | zero => intro f a b h ht hf eN hn h1 h2; omega
  | succ n ih =>
    intro f a b h ht hf eN hn h1 h2
    obtain ⟨hr, hRR, za, zb, hl, eF, hF, e5, he⟩ := id h
    have em : b.1 58 66 = nI N := (hr.f (c := 39) (k := 1) (by decide)).trans eN
    have d4 : nI f + 1 = nI (f + 1) := nI_1 f
    have z10 : ¬ (1 : Int32) = 0 := by decide
    by_cases hlt : f < N
    · have d1 : nI f < nI N := nI_lt hlt (by omega)
      have d2 : am_in (nI f) 400 = true := rl_nin (by decide) (by omega)
      have d3 : (nI f).toNatClampNeg = f := nI_clamp (by omega)
      rcases hn f hlt with ⟨n1, o, o1, o2, o3⟩ | ⟨n1, n2⟩
      · have i1 := bs_in a hZ o1
        rw [o2] at i1
        obtain ⟨r, g, r1, r2, r3, r4⟩ := hf f hlt
        have r5 : am_in (nI r) 200 = true := rl_nin (by decide) r1
        have r6 : (nI r).toNatClampNeg = r := nI_clamp (by omega)
        have g5 : am_in (nI g) 8 = true := rl_nin (by decide) (by omega)
        have g6 : (nI g).toNatClampNeg = g := nI_clamp (by omega)
        have xf : f_X3_familyOf a (nI f) = some (nI g, a) := by rw [f_X3_familyOf, rl_gu d2, d3, r3, rl_gu r5, r6, r4]
        have xk := fx_kind ht hlt hN
        have yk := fy_kind hr (by simp) (by simp) ht hlt hN
        obtain ⟨t1, -, -, -⟩ := ht f hlt
        have y40 : b.1 104 f = nI r := by rw [hr.r (c := 40) (m := 104) (by decide) (by simp)]; exact r3
        have y37 : b.1 97 r = nI g := by rw [hr.r (c := 37) (m := 97) (by decide) (by simp)]; exact r4
        obtain ⟨gv, p, z, hA⟩ := AN.of hRR g (fk a f) e
        obtain ⟨a1, s1, s2, s3⟩ := fa_C (f := g) (k := fk a f) (by omega) t1 he e5 za
        have oo1 := sc.f hR' s3
        obtain ⟨-, ⟨a2, t2, t3⟩, -⟩ := hA.C hR' oo1 s2
        have oo2 := (sc.rs t3).trans oo1
        have v2 : a2.1 57 = fcs a g (fk a f) e := by rw [(t3.1 57 (by simp; omega)).1]; exact s2
        obtain ⟨-, ⟨b1, m1, m2, m3⟩, -⟩ := hA.M (a0 := a) (by omega) t1 he e5 rfl (Or.inl hr) zb rfl (fun _ _ _ => rfl)
        have hG := h.sc hR oo2 m2 (fun j hj => by rw [v2]; exact fcs_8 hj) m3
        have r24 : b1.1 86 g = a2.1 24 g := by rw [hG.1.r (c := 24) (m := 86) (by decide) (by simp)]
        have hr' : rl_x [] (am_wI (am_wI a2 44 f p) 24 g (a2.1 24 g + p)) (am_wI (am_wI b1 107 f p) 86 g (a2.1 24 g + p)) := (hG.1.w2 (c := 44) (m := 107) (by decide) _ _).w2 (c := 24) (m := 86) (by decide) _ _
        have oa : rw_on [24, 44] (am_wI (am_wI a2 44 f p) 24 g (a2.1 24 g + p)) a2 := ((rw_on.refl _ _).w (by simp) _ _).w (by simp) _ _
        have ob : rw_on [86, 107] (am_wI (am_wI b1 107 f p) 86 g (a2.1 24 g + p)) b1 := ((rw_on.refl _ _).w (by simp) _ _).w (by simp) _ _
        have hG' : GI (am_ru sw) (am_wI (am_wI a2 44 f p) 24 g (a2.1 24 g + p)) (am_wI (am_wI b1 107 f p) 86 g (a2.1 24 g + p)) F e := by
          obtain ⟨-, q2, q3, q4, q5, q6, q7, q8, q9⟩ := hG
          refine ⟨hr', q2.fr (fun i y1 y2 => (oa (am_ru sw + i) (by simp; omega)).1) (congrFun (oa (am_ru sw) (by simp; omega)).1 2) (congrFun (oa (am_ru sw) (by simp; omega)).1 0) (congrFun (ob 58 (by simp)).1 18) (fun c y1 y2 => (ob c (by simp; omega)).1), q3, q4, lent_on q5 oa ob (by simp) (by simp) (by simp) (by simp) (by simp) (by simp), q6, q7, q8, q9⟩
        have oA : pA (am_ru sw) (am_wI (am_wI a2 44 f p) 24 g (a2.1 24 g + p)) a := pA.trans (y := a2) ⟨oa.mono (by simp), fun k _ => by rw [(oa (am_ru sw) (by simp; omega)).1]⟩ (pA.sc oo2)
        have oB : rw_on [86, 102, 103, 107] (am_wI (am_wI b1 107 f p) 86 g (a2.1 24 g + p)) b := (ob.mono (by simp)).trans (m2.mono (by simp))
        have nn : ∀ c, c = 36 ∨ c = 37 ∨ c = 39 ∨ c = 40 ∨ c = 42 ∨ c = 43 ∨ c = 45 → (am_wI (am_wI a2 44 f p) 24 g (a2.1 24 g + p)).1 c = a.1 c := fun c q => (oA.1 c (by simp; omega)).1
        obtain ⟨a', b', k1, k2, k3, k4, k5⟩ := ih (f + 1) _ _ hG' (fg_cg (nn 36 (by simp)) (nn 40 (by simp)) (nn 42 (by simp)) (nn 45 (by simp)) ht) (fun j hj => by rw [nn 40 (by simp), nn 37 (by simp)]; exact hf j hj) (by rw [nn 39 (by simp)]; exact eN) (fun j hj => by rw [nn 43 (by simp), (oB 119 (by simp)).1]; exact hn j hj) (by omega) (by omega)
        refine ⟨a', b', ?_, ?_, k3, k4.trans oA, k5.trans oB⟩
        · rw [f_X11_payFor_L2, eN, if_pos d1, rl_gu d2, d3, o3, bd_some i1]
          simp only [am_jn]
          rw [show mc_i true = 1 from rfl, if_neg z10, bd_some xf, bd_some xk, bd_some s1, bd_some t2, rl_gu d2, rl_gu g5, rl_gu g5, g6, d4]
          exact k1
        · have w107 : (am_wI b1 107 f p).1 107 f = p := by simp [rl_wI]
          rw [f_X12_box_L214, em, if_pos d1, rl_gu d2, d3, n1]
          simp only [am_jn]
          rw [if_neg z10, rl_gu d2, y40, rl_gu r5, bd_some yk, r6, y37, bd_some m1, rl_gu d2, rl_gu g5, rl_gu d2, rl_gu g5, g6, w107, r24, d4]
          exact k2
      · have i1 : f_X5_isIn a (nI Z) (a.1 43 f) = some (0, a) := by
          rcases n2 with q | ⟨o, o1, o2, o3⟩
          · rw [q, f_X5_isIn, if_pos (by decide)]
          · have := bs_in a hZ o1
            rw [o2] at this
            rw [o3]
            exact this
        obtain ⟨a', b', k1, k2, k3⟩ := ih (f + 1) a b h ht hf eN hn (by omega) (by omega)
        refine ⟨a', b', ?_, ?_, k3⟩
        · rw [f_X11_payFor_L2, eN, if_pos d1, rl_gu d2, d3, bd_some i1]
          simp only [am_jn]
          rw [if_pos trivial, d4]
          exact k1
        · rw [f_X12_box_L214, em, if_pos d1, rl_gu d2, d3, n1]
          simp only [am_jn]
          rw [if_pos trivial, d4]
          exact k2
    · have d1 : ¬ nI f < nI N := nI_nlt (by omega) (by omega)
      exact ⟨a, b, by rw [f_X11_payFor_L2, eN, if_neg d1], by rw [f_X12_box_L214, em, if_neg d1], h, pA.refl _ _, rw_on.refl _ _⟩
def bA (R : Nat) (a' a : am_S) : Prop := rw_on [24, 43, 44, 48, 49, 55, 56, 57, R, R + 4, R + 5] a' a ∧ ∀ k, k ≠ 5 → a'.1 R k = a.1 R k
theorem m_box (sw : Bool) {F e : Nat} (a b : am_S) (h : GI (am_ru sw) a b F e) (hk : ri_kinds a) (hg : ri_rings a) (hf : ri_figs a) (ho : ri_ords a) : ∃ v a' b', f_X11_box sw a = some (v, a') ∧ f_X12_box b = some (v, b') ∧ GI (am_ru sw) a' b' F e ∧ ri_figs a' ∧ ri_ords a' ∧ bA (am_ru sw) a' a ∧ rw_on [86, 102, 103, 106, 107, 111, 112, 117, 118, 119] b' b := by
  have hR := ru_or sw
  have hR' : am_ru sw ≤ 11 := by omega
  obtain ⟨hr, hRR, za, zb, hl, eF, hF, e5, he⟩ := id h
  obtain ⟨O, O1, O2⟩ := ho.1
  obtain ⟨N, N1, N2⟩ := hf.1
  have hfg := fg_tof hf hg hk N2 N1
  have hnd := nd_of ho hk O2 O1
  have hw : ∀ o, o < O → ∃ w : Nat, w ≤ 1000 ∧ a.1 47 o = nI w := fun o q => (ho.2 o (by rw [O2, nI_clamp (by omega)]; exact q)).1
  have hff : ff_t a N F := by
    intro j hj
    obtain ⟨⟨r, g, q1, q2, q3, q4⟩, -⟩ := hf.2.2.2 j (by rw [N2, nI_clamp (by omega)]; exact hj)
    obtain ⟨Q, Q1, Q2⟩ := hg.2.2.1
    rw [Q2, nI_clamp (by omega)] at q1
    rw [eF, nI_clamp (by omega)] at q2
    exact ⟨r, g, by omega, q2, q3, q4⟩
  obtain ⟨Z, a1, b0, b1, k1, k2, k3, k4, k5, k6, k7⟩ := bs_all O1 N1 O2 N2 hw hnd hfg hr
  have nn1 : ∀ c, c ≠ 55 → c ≠ 56 → a1.1 c = a.1 c := fun c q1 q2 => (k4 c (by simp; omega)).1
  obtain ⟨a2, m1, m2, m3⟩ := mk_C (e := e) O1 k6 am_FU 0 a1 (by rw [nn1 46 (by decide) (by decide)]; exact O2) (by omega) (by unfold am_FU; omega)
  have m1 : f_X5_markBoxed_L2 am_FU (nI Z) (nI e) 0 a1 = _ := m1
  have o2 : rw_on [48, 49, 55, 56] a2 a := (m2.mono (by simp)).trans (k4.mono (by simp))
  have em1 : b1.1 58 66 = nI N := by rw [(k5 58 (by simp)).1]; exact (hr.f (c := 39) (k := 1) (by decide)).trans N2
  obtain ⟨b2, p1, p2, p3⟩ := nw_loop N1 (nI Z) am_FU 0 b1 em1 (by omega) (by unfold am_FU; omega) (fun j hj => by omega)
  have p1 : f_X12_box_L45 am_FU (nI Z) 0 b1 = _ := p1
  have ob2 : rw_on [117, 118, 119] b2 b := (p2.mono (by simp)).trans (k5.mono (by simp))
  have hx2 : rl_x [48, 49] a2 b2 := (hr.mono (by simp)).on o2 ob2 (by decide) (by decide) (by decide)
  have hJ : FJ (fun o => a.1 48 o = 1) Z O N a2 b2 := by
    refine ⟨⟨hx2, fun f hlt => Or.inr ⟨p3 f hlt, ?_⟩⟩, fg_cg (o2 36 (by simp)).1 (o2 40 (by simp)).1 (o2 42 (by simp)).1 (o2 45 (by simp)).1 hfg, by rw [(o2 39 (by simp)).1]; exact N2, by rw [(o2 46 (by simp)).1]; exact O2, nd_cg (o2 50 (by simp)).1 (o2 51 (by simp)).1 (o2 52 (by simp)).1 (o2 53 (by simp)).1 hnd⟩
    rw [(o2 43 (by simp)).1]
    obtain ⟨-, -, q⟩ := hf.2.2.2 f (by rw [N2, nI_clamp (by omega)]; exact hlt)
    rcases q with q | ⟨o, q1, q2, q3⟩
    · exact Or.inl q
    · rw [O2, nI_clamp (by omega)] at q1
      refine Or.inr ⟨o, q1, ?_, q2, q3⟩
      cases hb : Z.testBit o with
      | false => rfl
      | true =>
        have := k7 o q1 hb
        rw [this] at q3
        exact absurd q3 (by decide)
  obtain ⟨a3, b3, f1, f2, f3, f4, f5⟩ := ff_all O1 N1 k6 hJ
  have o3 : rw_on [43, 48, 49, 55, 56] a3 a := (f4.mono (by simp)).trans (o2.mono (by simp))
  have ob3 : rw_on [106, 117, 118, 119] b3 b := (f5.mono (by simp)).trans (ob2.mono (by simp))
  have e74 : b3.1 58 74 = nI O := by rw [(ob3 58 (by simp)).1]; exact (hr.f (c := 46) (k := 0) (by decide)).trans O2
  have e51 : b3.1 58 51 = nI e := by rw [(ob3 58 (by simp)).1]; exact (hr.f (c := 0) (k := 5) (by decide)).trans e5
  obtain ⟨b4, g1, g2, g3⟩ := mk_M (e := e) O1 k6 am_FU 0 b3 e74 e51 (by omega) (by unfold am_FU; omega)
  have g1 : f_X12_box_L170 am_FU (nI Z) 0 b3 = _ := g1
  have ob4 : rw_on [106, 111, 112, 117, 118, 119] b4 b := (g2.mono (by simp)).trans (ob3.mono (by simp))
  have r48 : b3.1 111 = a1.1 48 := by rw [(ob3 111 (by simp)).1, nn1 48 (by decide) (by decide)]; exact hr.r (by decide) (by simp)
  have r49 : b3.1 112 = a1.1 49 := by rw [(ob3 112 (by simp)).1, nn1 49 (by decide) (by decide)]; exact hr.r (by decide) (by simp)
  have A48 : a3.1 48 = a2.1 48 := (f4 48 (by simp)).1
  have A49 : a3.1 49 = a2.1 49 := (f4 49 (by simp)).1
  have hx4 : rl_x [] a3 b4 := by
    have q0 : rl_x [48, 49] a3 b4 := f3.1.1.on (rw_on.refl [] _) g2 (by decide) (by decide) (by decide)
    refine rl_x.add (c := 49) (m := 112) (rl_x.add (c := 48) (m := 111) q0 (by decide) ?_) (by decide) ?_
    · rw [A48]; funext j; rw [(m3 j).1, (g3 j).1, r48]
    · rw [A49]; funext j; rw [(m3 j).2, (g3 j).2, r49]
  have hG4 : GI (am_ru sw) a3 b4 F e := by
    refine ⟨hx4, hRR.fr (fun i y1 y2 => (o3 (am_ru sw + i) (by simp; omega)).1) (congrFun (o3 (am_ru sw) (by simp; omega)).1 2) (congrFun (o3 (am_ru sw) (by simp; omega)).1 0) (congrFun (ob4 58 (by simp)).1 18) (fun c y1 y2 => (ob4 c (by simp; omega)).1), ?_, ?_, lent_on hl o3 ob4 (by simp) (by simp) (by simp) (by simp) (by simp) (by simp), ?_, hF, ?_, he⟩
    · rw [(o3 57 (by simp)).1]; exact za
    · rw [(ob4 102 (by simp)).1]; exact zb
    · rw [(o3 21 (by simp)).1]; exact eF
    · rw [(o3 0 (by simp)).1]; exact e5
  have hFN : FN Z N a3 b4 := by
    intro f hlt
    rw [(g2 119 (by simp)).1]
    rcases f3.1.2 f hlt with ⟨q1, o, q2, q3, q4⟩ | ⟨q1, q2⟩
    · exact Or.inl ⟨q1, o, by omega, q3, q4⟩
    · refine Or.inr ⟨q1, ?_⟩
      rcases q2 with q2 | ⟨o, q2, q3, q4, -⟩
      · exact Or.inl q2
      · exact Or.inr ⟨o, by omega, q3, q4⟩
  obtain ⟨a5, b5, y1, y2, y3, y4, y5⟩ := py_loop (sw := sw) (F := F) (e := e) k6 N1 am_FU 0 a3 b4 hG4 f3.2.1 (fun j hj => by rw [(o3 40 (by simp)).1, (o3 37 (by simp)).1]; exact hff j hj) (by rw [(o3 39 (by simp)).1]; exact N2) hFN (by omega) (by unfold am_FU; omega)
  have y1 : f_X11_payFor_L2 sw am_FU (nI Z) 0 a3 = _ := y1
  have y2 : f_X12_box_L214 am_FU (nI Z) 0 b4 = _ := y2
  have oA : bA (am_ru sw) a5 a := ⟨(y4.1.mono (by simp)).trans (o3.mono (by simp)), fun k hk => (y4.2 k hk).trans (by rw [(o3 (am_ru sw) (by simp; omega)).1])⟩
  have oB : rw_on [86, 102, 103, 106, 107, 111, 112, 117, 118, 119] b5 b := (y5.mono (by simp)).trans (ob4.mono (by simp))
  have n5 : ∀ c, 12 ≤ c → c ≤ 56 → c ≠ 15 → c ≠ 16 → c ≠ 24 → c ≠ 44 → a5.1 c = a3.1 c := fun c q1 q2 q3 q4 q5 q6 => (y4.1 c (by simp; omega)).1
  have E46 : a5.1 46 = a.1 46 := (n5 46 (by decide) (by decide) (by decide) (by decide) (by decide) (by decide)).trans (o3 46 (by simp)).1
  have E47 : a5.1 47 = a.1 47 := (n5 47 (by decide) (by decide) (by decide) (by decide) (by decide) (by decide)).trans (o3 47 (by simp)).1
  have E48 : a5.1 48 = a2.1 48 := (n5 48 (by decide) (by decide) (by decide) (by decide) (by decide) (by decide)).trans A48
  have E43 : a5.1 43 = a3.1 43 := n5 43 (by decide) (by decide) (by decide) (by decide) (by decide) (by decide)
  have wC := wo_Ca (a := a5) (S := Z) O1 k6 (by rw [E46]; exact O2) (fun o q => by rw [E47]; exact hw o q)
  have wM := wo_Ma (a := a5) (b := b5) (S := Z) O1 k6 y3.1 (by simp) (by rw [E46]; exact O2) (fun o q => by rw [E47]; exact hw o q)
  have e05 : a1.1 0 5 = nI e := by rw [nn1 0 (by decide) (by decide)]; exact e5
  have fm : f_X5_markBoxed a1 (nI Z) (nI e) = some ((), a2) := by rw [f_X5_markBoxed, lp_r m1]
  have fp : f_X11_payFor sw a3 (nI Z) = some ((), a5) := by rw [f_X11_payFor, lp_r y1]
  refine ⟨nI (wo a5 Z O), a5, b5, ?_, ?_, y3, ?_, ?_, oA, oB⟩
  · rw [f_X11_box, bd_some k1, e05, bd_some fm, bd_some f1, bd_some fp, bd_some wC]
  · rw [f_X12_box, bd_some k2, lp_r k3, lp_r p1, lp_r f2, lp_r g1, lp_r y2, bd_some wM]
  · have z48 : ∀ o, o < O → a.1 48 o = 1 ∨ Z.testBit o = true → a5.1 48 o = 1 := by
      intro o q1 q2
      rw [E48, (m3 o).1]
      by_cases hb : Z.testBit o = true
      · rw [if_pos ⟨by omega, q1, hb⟩]
      · rw [if_neg (fun q => hb q.2.2), nn1 48 (by decide) (by decide)]
        exact q2.resolve_right hb
    unfold ri_figs
    have c : ∀ c, c = 39 ∨ c = 45 ∨ c = 32 ∨ c = 21 ∨ c = 40 ∨ c = 37 ∨ c = 42 ∨ c = 46 → a5.1 c = a.1 c := fun c q => (oA.1 c (by simp; omega)).1
    rw [c 39 (by simp), c 45 (by simp), c 32 (by simp), c 21 (by simp), c 40 (by simp), c 37 (by simp), c 42 (by simp), c 46 (by simp)]
    refine ⟨hf.1, hf.2.1, hf.2.2.1, fun j hj => ?_⟩
    obtain ⟨q1, q2, q3⟩ := hf.2.2.2 j hj
    refine ⟨q1, q2, ?_⟩
    rw [N2, nI_clamp (by omega)] at hj
    rw [E43, O2, nI_clamp (by omega)]
    rcases f3.1.2 j hj with ⟨-, o, w1, w2, w3⟩ | ⟨-, w⟩
    · exact Or.inr ⟨o, w1, w3, z48 o w1 (Or.inr w2)⟩
    · rcases w with w | ⟨o, w1, w2, w3, w4⟩
      · exact Or.inl w
      · exact Or.inr ⟨o, w1, w3, z48 o w1 (Or.inl w4)⟩
  · unfold ri_ords
    have c : ∀ c, c = 46 ∨ c = 47 ∨ c = 50 ∨ c = 51 ∨ c = 17 ∨ c = 52 ∨ c = 53 → a5.1 c = a.1 c := fun c q => (oA.1 c (by simp; omega)).1
    rw [c 46 (by simp), c 47 (by simp), c 50 (by simp), c 51 (by simp), c 17 (by simp), c 52 (by simp), c 53 (by simp)]
    refine ⟨ho.1, fun o q => ?_⟩
    obtain ⟨q1, q2, q3⟩ := ho.2 o q
    refine ⟨q1, ?_, q3⟩
    rw [E48, (m3 o).1]
    by_cases hb : 0 ≤ o ∧ o < O ∧ Z.testBit o = true
    · rw [if_pos hb]; exact Or.inr (Or.inl rfl)
    · rw [if_neg hb, nn1 48 (by decide) (by decide)]; exact q2
