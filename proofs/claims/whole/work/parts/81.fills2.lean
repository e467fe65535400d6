/-! ===== fills: every need of a set, on the reference's side ===== -/
def mo (b a : am_S) (O : Nat) : Prop := b.1 58 74 = nI O ∧ b.1 111 = a.1 48 ∧ b.1 113 = a.1 50 ∧ b.1 114 = a.1 51 ∧ b.1 115 = a.1 52 ∧ b.1 116 = a.1 53
theorem mo.on {b b' a : am_S} {O : Nat} {L : List Nat} (h : mo b a O) (ho : rw_on L b' b) (hL : ∀ c ∈ [58, 111, 113, 114, 115, 116], c ∉ L) : mo b' a O := by
  obtain ⟨h1, h2, h3, h4, h5, h6⟩ := h
  exact ⟨by rw [(ho 58 (hL _ (by simp))).1]; exact h1, by rw [(ho 111 (hL _ (by simp))).1]; exact h2, by rw [(ho 113 (hL _ (by simp))).1]; exact h3, by rw [(ho 114 (hL _ (by simp))).1]; exact h4, by rw [(ho 115 (hL _ (by simp))).1]; exact h5, by rw [(ho 116 (hL _ (by simp))).1]; exact h6⟩
section FIL
variable {a : am_S} {O S N : Nat} {g : Nat → Nat → Nat}
/-- after a part of the needs of a colour: g what was there -/
def P0 (a : am_S) (S : Nat) (g lf : Nat → Nat → Nat) (o i : Nat) : Prop := ∀ k, k < 8 → (∀ d, 1 ≤ d → d < 6 → lf k (d - 1) + (dmO a S k d o + dmI a o k d i) = g k d) ∧ lf k 5 = g k 0
def P1 (a : am_S) (S O : Nat) (g lf : Nat → Nat → Nat) (o i : Nat) : Prop := ∀ k, k < 8 → s6 (lf k) + (dmO a S k 0 o + dmI a o k 0 i) + (dmO a S k 1 O + dmO a S k 2 O + dmO a S k 3 O + dmO a S k 4 O + dmO a S k 5 O) = g k 0 + g k 1 + g k 2 + g k 3 + g k 4 + g k 5
def CA (a : am_S) (S O : Nat) (g : Nat → Nat → Nat) : Prop := ∀ k, k < 8 → CF (g k) (fun c => dmO a S k c O)
theorem dm_part {o i k d : Nat} (ho : o < O) (hb : S.testBit o = true) (hi : i ≤ ndn a o) : dmO a S k d o + dmI a o k d i ≤ dmO a S k d O := by
  have h1 := dmO_mono a S k d (show o + 1 ≤ O by omega)
  rw [dmO, hb] at h1
  have h2 := dmI_mono a o k d hi
  simp only [if_true] at h1
  omega
theorem f70_0 {o : Nat} (hO : O ≤ 8) (ht : nd_t a O) (ho : o < O) (hb : S.testBit o = true) : ∀ (n i : Nat) (b : am_S) (lf : Nat → Nat → Nat), mo b a O → lh b lf → P0 a S g lf o i → i ≤ ndn a o → ndn a o < i + n → ∃ b', rw_on [118] b' b ∧ ((f_X12_fills_L70 n (nI S) 0 (nI o) (nI (o * 4 + i)) b = some (.inl (0, b')) ∧ ¬ CA a S O g) ∨ (∃ lf', f_X12_fills_L70 n (nI S) 0 (nI o) (nI (o * 4 + i)) b = some (.inr ((), b')) ∧ lh b' lf' ∧ P0 a S g lf' o (ndn a o))) := by
  obtain ⟨t1, t2, t3⟩ := ht o ho
  intro n
  induction n with
  | zero => intro i b lf h hl hp h1 h2; omega
  | succ n ih =>
    intro i b lf h hl hp h1 h2
    have o2 : am_in (nI o) 8 = true := rl_nin (by decide) (by omega)
    have o3 : (nI o).toNatClampNeg = o := nI_clamp (by omega)
    have e50 : b.1 113 o = nI (ndn a o) := by rw [h.2.2.1]; exact t2
    have j4 : 4 * nI o + nI (ndn a o) = nI (o * 4 + ndn a o) := rl_ix3 (w := 4)
    have d4 : nI (o * 4 + i) + 1 = nI (o * 4 + (i + 1)) := nI_1 _
    have z01 : ¬ (0 : Int32) = 1 := by decide
    have z10 : ¬ (1 : Int32) = 0 := by decide
    by_cases hi : i < ndn a o
    · have d1 : nI (o * 4 + i) < nI (o * 4 + ndn a o) := nI_lt (by omega) (by omega)
      have j2 : am_in (nI (o * 4 + i)) 32 = true := rl_nin (by decide) (by omega)
      have j3 : (nI (o * 4 + i)).toNatClampNeg = o * 4 + i := nI_clamp (by omega)
      obtain ⟨u1, u2, u3, u4, u5, u6, u7⟩ := t3 i hi
      have e51 : b.1 114 (o * 4 + i) = nI (ndm a (o * 4 + i)) := by rw [h.2.2.2.1]; exact u1
      have e52 : b.1 115 (o * 4 + i) = nI (ndk a (o * 4 + i)) := by rw [h.2.2.2.2.1]; exact u4
      have e53 : b.1 116 (o * 4 + i) = cI (ndd a (o * 4 + i)) := by rw [h.2.2.2.2.2]; exact u6
      have hIs : ∀ k d, dmI a o k d (i + 1) = dmI a o k d i + (if ndk a (o * 4 + i) = k ∧ ndd a (o * 4 + i) = d then ndm a (o * 4 + i) else 0) := fun _ _ => rfl
      by_cases hd : ndd a (o * 4 + i) = 0
      · have c1 : cI (ndd a (o * 4 + i)) = -1 := by rw [hd]; rfl
        have hp' : P0 a S g lf o (i + 1) := by
          intro k hk
          refine ⟨fun d q1 q2 => ?_, (hp k hk).2⟩
          rw [hIs, if_neg (by omega)]
          exact (hp k hk).1 d q1 q2
        obtain ⟨b', g1, g2⟩ := ih (i + 1) b lf h hl hp' (by omega) (by omega)
        refine ⟨b', g1, ?_⟩
        have st : f_X12_fills_L70 (n + 1) (nI S) 0 (nI o) (nI (o * 4 + i)) b = f_X12_fills_L70 n (nI S) 0 (nI o) (nI (o * 4 + (i + 1))) b := by
          simp only [f_X12_fills_L70, rl_gu o2, o3, e50, j4, if_pos d1, rl_gu j2, j3, e53, c1, am_jn, if_true, if_neg z01, if_neg z10, d4]
        rw [st]
        exact g2
      · have c1 : ¬ cI (ndd a (o * 4 + i)) = -1 := fun q => hd ((cI_n1 (by omega)).mp q)
        have c2 : cI (ndd a (o * 4 + i)) = nI (ndd a (o * 4 + i) - 1) := by unfold cI; rw [if_neg hd]
        have c3 : ¬ nI (ndd a (o * 4 + i) - 1) = -1 := nI_nm1 (by omega)
        rw [c2] at e53
        rcases to_ca (k := ndk a (o * 4 + i)) (c := ndd a (o * 4 + i) - 1) (m := ndm a (o * 4 + i)) u5 (by omega) u3 hl with ⟨q, b1, k1, k2, k3⟩ | ⟨q, b1, k1, k2⟩
        · have hp' : P0 a S g (up2 lf (ndk a (o * 4 + i)) (ndd a (o * 4 + i) - 1) (lf (ndk a (o * 4 + i)) (ndd a (o * 4 + i) - 1) - ndm a (o * 4 + i))) o (i + 1) := by
            intro k hk
            obtain ⟨p1, p2⟩ := hp k hk
            refine ⟨fun d q1 q2 => ?_, ?_⟩
            · have p3 := p1 d q1 q2
              rw [hIs]
              unfold up2
              by_cases w : ndk a (o * 4 + i) = k ∧ ndd a (o * 4 + i) = d
              · rw [if_pos w, if_pos ⟨w.1.symm, by omega⟩, w.1, w.2]
                rw [w.1, w.2] at q
                omega
              · rw [if_neg w, if_neg (fun y => w ⟨y.1.symm, by omega⟩)]
                exact p3
            · unfold up2
              rw [if_neg (by omega)]
              exact p2
          obtain ⟨b', g1, g2⟩ := ih (i + 1) b1 _ (h.on k3 (by decide)) k2 hp' (by omega) (by omega)
          refine ⟨b', g1.trans k3, ?_⟩
          have st : f_X12_fills_L70 (n + 1) (nI S) 0 (nI o) (nI (o * 4 + i)) b = f_X12_fills_L70 n (nI S) 0 (nI o) (nI (o * 4 + (i + 1))) b1 := by
            simp only [f_X12_fills_L70, rl_gu o2, o3, e50, j4, if_pos d1, rl_gu j2, j3, e53, if_neg c3, am_jn, if_true, if_neg z01, e52, e51, bd_some k1, if_neg z10, d4]
          rw [st]
          exact g2
        · refine ⟨b1, k2, Or.inl ⟨?_, fun hCA => ?_⟩⟩
          · simp only [f_X12_fills_L70, rl_gu o2, o3, e50, j4, if_pos d1, rl_gu j2, j3, e53, if_neg c3, am_jn, if_true, if_neg z01, e52, e51, bd_some k1]
          · have p3 := (hp _ u5).1 (ndd a (o * 4 + i)) (by omega) u7
            have p4 := (hCA _ u5).1 (ndd a (o * 4 + i)) (by omega) u7
            have p5 := dm_part (a := a) (k := ndk a (o * 4 + i)) (d := ndd a (o * 4 + i)) ho hb (show i + 1 ≤ ndn a o by omega)
            rw [hIs, if_pos ⟨rfl, rfl⟩] at p5
            simp only at p4
            omega
    · have d1 : ¬ nI (o * 4 + i) < nI (o * 4 + ndn a o) := nI_nlt (by omega) (by omega)
      have e : i = ndn a o := by omega
      refine ⟨b, rw_on.refl _ _, Or.inr ⟨lf, by simp only [f_X12_fills_L70, rl_gu o2, o3, e50, j4, if_neg d1], hl, ?_⟩⟩
      rw [← e]; exact hp
theorem f70_1 {o : Nat} (hO : O ≤ 8) (ht : nd_t a O) (ho : o < O) (hb : S.testBit o = true) : ∀ (n i : Nat) (b : am_S) (lf : Nat → Nat → Nat), mo b a O → lh b lf → P1 a S O g lf o i → i ≤ ndn a o → ndn a o < i + n → ∃ b', rw_on [118] b' b ∧ ((f_X12_fills_L70 n (nI S) 1 (nI o) (nI (o * 4 + i)) b = some (.inl (0, b')) ∧ ¬ CA a S O g) ∨ (∃ lf', f_X12_fills_L70 n (nI S) 1 (nI o) (nI (o * 4 + i)) b = some (.inr ((), b')) ∧ lh b' lf' ∧ P1 a S O g lf' o (ndn a o))) := by
  obtain ⟨t1, t2, t3⟩ := ht o ho
  intro n
  induction n with
  | zero => intro i b lf h hl hp h1 h2; omega
  | succ n ih =>
    intro i b lf h hl hp h1 h2
    have o2 : am_in (nI o) 8 = true := rl_nin (by decide) (by omega)
    have o3 : (nI o).toNatClampNeg = o := nI_clamp (by omega)
    have e50 : b.1 113 o = nI (ndn a o) := by rw [h.2.2.1]; exact t2
    have j4 : 4 * nI o + nI (ndn a o) = nI (o * 4 + ndn a o) := rl_ix3 (w := 4)
    have d4 : nI (o * 4 + i) + 1 = nI (o * 4 + (i + 1)) := nI_1 _
    have z01 : ¬ (0 : Int32) = 1 := by decide
    have z10 : ¬ (1 : Int32) = 0 := by decide
    by_cases hi : i < ndn a o
    · have d1 : nI (o * 4 + i) < nI (o * 4 + ndn a o) := nI_lt (by omega) (by omega)
      have j2 : am_in (nI (o * 4 + i)) 32 = true := rl_nin (by decide) (by omega)
      have j3 : (nI (o * 4 + i)).toNatClampNeg = o * 4 + i := nI_clamp (by omega)
      obtain ⟨u1, u2, u3, u4, u5, u6, u7⟩ := t3 i hi
      have e51 : b.1 114 (o * 4 + i) = nI (ndm a (o * 4 + i)) := by rw [h.2.2.2.1]; exact u1
      have e52 : b.1 115 (o * 4 + i) = nI (ndk a (o * 4 + i)) := by rw [h.2.2.2.2.1]; exact u4
      have e53 : b.1 116 (o * 4 + i) = cI (ndd a (o * 4 + i)) := by rw [h.2.2.2.2.2]; exact u6
      have hIs : ∀ k d, dmI a o k d (i + 1) = dmI a o k d i + (if ndk a (o * 4 + i) = k ∧ ndd a (o * 4 + i) = d then ndm a (o * 4 + i) else 0) := fun _ _ => rfl
      by_cases hd : ndd a (o * 4 + i) = 0
      · have c1 : cI (ndd a (o * 4 + i)) = -1 := by rw [hd]; rfl
        rcases to_aa (k := ndk a (o * 4 + i)) (m := ndm a (o * 4 + i)) u5 u3 hl with ⟨b1, lf1, k1, k2, k3, k4, k5⟩ | ⟨q, b1, k1, k2⟩
        · have hp' : P1 a S O g lf1 o (i + 1) := by
            intro k hk
            have p1 := hp k hk
            rw [hIs]
            by_cases w : ndk a (o * 4 + i) = k
            · rw [if_pos ⟨w, hd⟩]
              rw [w] at k4
              omega
            · have e1 : s6 (lf1 k) = s6 (lf k) := by unfold s6; rw [k5 k 0 (fun y => w y.symm), k5 k 1 (fun y => w y.symm), k5 k 2 (fun y => w y.symm), k5 k 3 (fun y => w y.symm), k5 k 4 (fun y => w y.symm), k5 k 5 (fun y => w y.symm)]
              rw [if_neg (fun y => w y.1), e1]
              exact p1
          obtain ⟨b', g1, g2⟩ := ih (i + 1) b1 _ (h.on k3 (by decide)) k2 hp' (by omega) (by omega)
          refine ⟨b', g1.trans k3, ?_⟩
          have st : f_X12_fills_L70 (n + 1) (nI S) 1 (nI o) (nI (o * 4 + i)) b = f_X12_fills_L70 n (nI S) 1 (nI o) (nI (o * 4 + (i + 1))) b1 := by
            simp only [f_X12_fills_L70, rl_gu o2, o3, e50, j4, if_pos d1, rl_gu j2, j3, e53, c1, am_jn, if_true, e52, e51, bd_some k1, if_neg z10, d4]
          rw [st]
          exact g2
        · refine ⟨b1, k2, Or.inl ⟨?_, fun hCA => ?_⟩⟩
          · simp only [f_X12_fills_L70, rl_gu o2, o3, e50, j4, if_pos d1, rl_gu j2, j3, e53, c1, am_jn, if_true, e52, e51, bd_some k1]
          · have p3 := hp _ u5
            have p4 := (hCA _ u5).2
            have p5 := dm_part (a := a) (k := ndk a (o * 4 + i)) (d := 0) ho hb (show i + 1 ≤ ndn a o by omega)
            rw [hIs, if_pos ⟨rfl, hd⟩] at p5
            simp only at p4
            omega
      · have c1 : ¬ cI (ndd a (o * 4 + i)) = -1 := fun q => hd ((cI_n1 (by omega)).mp q)
        have hp' : P1 a S O g lf o (i + 1) := by
          intro k hk
          rw [hIs, if_neg (fun y => hd y.2)]
          exact hp k hk
        obtain ⟨b', g1, g2⟩ := ih (i + 1) b lf h hl hp' (by omega) (by omega)
        refine ⟨b', g1, ?_⟩
        have st : f_X12_fills_L70 (n + 1) (nI S) 1 (nI o) (nI (o * 4 + i)) b = f_X12_fills_L70 n (nI S) 1 (nI o) (nI (o * 4 + (i + 1))) b := by
          simp only [f_X12_fills_L70, rl_gu o2, o3, e50, j4, if_pos d1, rl_gu j2, j3, e53, if_neg c1, am_jn, if_true, if_neg z01, d4]
        rw [st]
        exact g2
    · have d1 : ¬ nI (o * 4 + i) < nI (o * 4 + ndn a o) := nI_nlt (by omega) (by omega)
      have e : i = ndn a o := by omega
      refine ⟨b, rw_on.refl _ _, Or.inr ⟨lf, by simp only [f_X12_fills_L70, rl_gu o2, o3, e50, j4, if_neg d1], hl, ?_⟩⟩
      rw [← e]; exact hp
def OP (a : am_S) (S O : Nat) : Prop := ∀ o, o < O → S.testBit o = true → a.1 48 o = 0
theorem f35_0 (hO : O ≤ 8) (hS : S < 256) (ht : nd_t a O) : ∀ (n o : Nat) (b : am_S) (lf : Nat → Nat → Nat), mo b a O → lh b lf → P0 a S g lf o 0 → (∀ j, j < o → S.testBit j = true → a.1 48 j = 0) → o ≤ O → O < o + n → ∃ b', rw_on [118] b' b ∧ ((f_X12_fills_L35 n (nI S) 0 (nI o) b = some (.inl (0, b')) ∧ ¬ (OP a S O ∧ CA a S O g)) ∨ (∃ lf', f_X12_fills_L35 n (nI S) 0 (nI o) b = some (.inr ((), b')) ∧ lh b' lf' ∧ P0 a S g lf' O 0 ∧ OP a S O)) := by
  intro n
  induction n with
  | zero => intro o b lf h hl hp hop h1 h2; omega
  | succ n ih =>
    intro o b lf h hl hp hop h1 h2
    have d4 : nI o + 1 = nI (o + 1) := nI_1 o
    by_cases ho : o < O
    · have d1 : nI o < nI O := nI_lt ho (by omega)
      have o2 : am_in (nI o) 8 = true := rl_nin (by decide) (by omega)
      have o3 : (nI o).toNatClampNeg = o := nI_clamp (by omega)
      have i1 := bs_bit S hS o (by omega)
      cases hb : S.testBit o with
      | false =>
        rw [hb] at i1
        have i1 : ((nI S >>> (nI o &&& 31)) &&& 1) = 0 := i1
        have hp' : P0 a S g lf (o + 1) 0 := by
          intro k hk
          refine ⟨fun d q1 q2 => ?_, (hp k hk).2⟩
          have p := (hp k hk).1 d q1 q2
          rw [dmO, hb]
          exact p
        obtain ⟨b', g1, g2⟩ := ih (o + 1) b lf h hl hp' (fun j q1 q2 => by
          by_cases e : j = o
          · rw [e, hb] at q2; cases q2
          · exact hop j (by omega) q2) (by omega) (by omega)
        refine ⟨b', g1, ?_⟩
        have st : f_X12_fills_L35 (n + 1) (nI S) 0 (nI o) b = f_X12_fills_L35 n (nI S) 0 (nI (o + 1)) b := by
          simp only [f_X12_fills_L35, h.1, if_pos d1, am_jn, if_pos i1, d4]
        rw [st]
        exact g2
      | true =>
        rw [hb] at i1
        have i2 : ¬ ((nI S >>> (nI o &&& 31)) &&& 1) = 0 := by rw [i1]; decide
        have e48 : b.1 111 o = a.1 48 o := congrFun h.2.1 o
        by_cases q : a.1 48 o = 0
        · have j0 : 4 * nI o = nI (o * 4 + 0) := by rw [show (4 : Int32) = nI 4 from rfl, pk_mul, Nat.mul_comm]; rfl
          obtain ⟨b1, k1, k2⟩ := f70_0 (g := g) hO ht ho hb am_FU 0 b lf h hl hp (by omega) (by have := (ht o ho).1; unfold am_FU; omega)
          rcases k2 with ⟨k3, k4⟩ | ⟨lf1, k3, k4, k5⟩
          · refine ⟨b1, k1, Or.inl ⟨?_, fun z => k4 z.2⟩⟩
            simp only [f_X12_fills_L35, h.1, if_pos d1, am_jn, if_neg i2, rl_gu o2, o3, e48, if_pos q, j0, k3, am_lp]
          · have hp' : P0 a S g lf1 (o + 1) 0 := by
              intro k hk
              refine ⟨fun d q1 q2 => ?_, (k5 k hk).2⟩
              have p := (k5 k hk).1 d q1 q2
              rw [dmO, hb]
              exact p
            obtain ⟨b', g1, g2⟩ := ih (o + 1) b1 lf1 (h.on k1 (by decide)) k4 hp' (fun j q1 q2 => by
              by_cases e : j = o
              · rw [e]; exact q
              · exact hop j (by omega) q2) (by omega) (by omega)
            refine ⟨b', g1.trans k1, ?_⟩
            have st : f_X12_fills_L35 (n + 1) (nI S) 0 (nI o) b = f_X12_fills_L35 n (nI S) 0 (nI (o + 1)) b1 := by
              simp only [f_X12_fills_L35, h.1, if_pos d1, am_jn, if_neg i2, rl_gu o2, o3, e48, if_pos q, j0, k3, am_lp, d4]
            rw [st]
            exact g2
        · refine ⟨b, rw_on.refl _ _, Or.inl ⟨?_, fun z => q (z.1 o ho hb)⟩⟩
          simp only [f_X12_fills_L35, h.1, if_pos d1, am_jn, if_neg i2, rl_gu o2, o3, e48, if_neg q]
    · have d1 : ¬ nI o < nI O := nI_nlt (by omega) (by omega)
      have e : o = O := by omega
      subst e
      exact ⟨b, rw_on.refl _ _, Or.inr ⟨lf, by simp only [f_X12_fills_L35, h.1, if_neg d1], hl, hp, hop⟩⟩
theorem f35_1 (hO : O ≤ 8) (hS : S < 256) (ht : nd_t a O) (hOP : OP a S O) : ∀ (n o : Nat) (b : am_S) (lf : Nat → Nat → Nat), mo b a O → lh b lf → P1 a S O g lf o 0 → o ≤ O → O < o + n → ∃ b', rw_on [118] b' b ∧ ((f_X12_fills_L35 n (nI S) 1 (nI o) b = some (.inl (0, b')) ∧ ¬ CA a S O g) ∨ (∃ lf', f_X12_fills_L35 n (nI S) 1 (nI o) b = some (.inr ((), b')) ∧ lh b' lf' ∧ P1 a S O g lf' O 0)) := by
  intro n
  induction n with
  | zero => intro o b lf h hl hp h1 h2; omega
  | succ n ih =>
    intro o b lf h hl hp h1 h2
    have d4 : nI o + 1 = nI (o + 1) := nI_1 o
    by_cases ho : o < O
    · have d1 : nI o < nI O := nI_lt ho (by omega)
      have o2 : am_in (nI o) 8 = true := rl_nin (by decide) (by omega)
      have o3 : (nI o).toNatClampNeg = o := nI_clamp (by omega)
      have i1 := bs_bit S hS o (by omega)
      cases hb : S.testBit o with
      | false =>
        rw [hb] at i1
        have i1 : ((nI S >>> (nI o &&& 31)) &&& 1) = 0 := i1
        have hp' : P1 a S O g lf (o + 1) 0 := by
          intro k hk
          have p := hp k hk
          rw [dmO, hb]
          exact p
        obtain ⟨b', g1, g2⟩ := ih (o + 1) b lf h hl hp' (by omega) (by omega)
        refine ⟨b', g1, ?_⟩
        have st : f_X12_fills_L35 (n + 1) (nI S) 1 (nI o) b = f_X12_fills_L35 n (nI S) 1 (nI (o + 1)) b := by
          simp only [f_X12_fills_L35, h.1, if_pos d1, am_jn, if_pos i1, d4]
        rw [st]
        exact g2
      | true =>
        rw [hb] at i1
        have i2 : ¬ ((nI S >>> (nI o &&& 31)) &&& 1) = 0 := by rw [i1]; decide
        have e48 : b.1 111 o = 0 := (congrFun h.2.1 o).trans (hOP o ho hb)
        have j0 : 4 * nI o = nI (o * 4 + 0) := by rw [show (4 : Int32) = nI 4 from rfl, pk_mul, Nat.mul_comm]; rfl
        obtain ⟨b1, k1, k2⟩ := f70_1 (g := g) hO ht ho hb am_FU 0 b lf h hl hp (by omega) (by have := (ht o ho).1; unfold am_FU; omega)
        rcases k2 with ⟨k3, k4⟩ | ⟨lf1, k3, k4, k5⟩
        · refine ⟨b1, k1, Or.inl ⟨?_, k4⟩⟩
          simp only [f_X12_fills_L35, h.1, if_pos d1, am_jn, if_neg i2, rl_gu o2, o3, e48, if_true, j0, k3, am_lp]
        · have hp' : P1 a S O g lf1 (o + 1) 0 := by
            intro k hk
            have p := k5 k hk
            rw [dmO, hb]
            exact p
          obtain ⟨b', g1, g2⟩ := ih (o + 1) b1 lf1 (h.on k1 (by decide)) k4 hp' (by omega) (by omega)
          refine ⟨b', g1.trans k1, ?_⟩
          have st : f_X12_fills_L35 (n + 1) (nI S) 1 (nI o) b = f_X12_fills_L35 n (nI S) 1 (nI (o + 1)) b1 := by
            simp only [f_X12_fills_L35, h.1, if_pos d1, am_jn, if_neg i2, rl_gu o2, o3, e48, if_true, j0, k3, am_lp, d4]
          rw [st]
          exact g2
    · have d1 : ¬ nI o < nI O := nI_nlt (by omega) (by omega)
      have e : o = O := by omega
      subst e
      exact ⟨b, rw_on.refl _ _, Or.inr ⟨lf, by simp only [f_X12_fills_L35, h.1, if_neg d1], hl, hp⟩⟩
theorem cp_row (x1 : Int32) : ∀ (n i : Nat) (b : am_S), i ≤ 48 → 48 < i + n → (∀ j, j < i → b.1 118 j = b.1 117 j) → ∃ b', f_X12_fills_L2 n x1 (nI i) b = some (.inr ((), b')) ∧ rw_on [118] b' b ∧ ∀ j, j < 48 → b'.1 118 j = b.1 117 j := by
  intro n
  induction n with
  | zero => intro i b h1 h2; omega
  | succ n ih =>
    intro i b h1 h2 hc
    have d4 : nI i + 1 = nI (i + 1) := nI_1 i
    by_cases hi : i < 48
    · have d1 : nI i < 48 := nI_lt (b := 48) (by omega) (by decide)
      have d2 : am_in (nI i) 48 = true := rl_nin (by decide) (by omega)
      have d3 : (nI i).toNatClampNeg = i := nI_clamp (by omega)
      obtain ⟨b', g1, g2, g3⟩ := ih (i + 1) (am_wI b 118 i (b.1 117 i)) (by omega) (by omega) (fun j hj => by
        rw [rl_ws, rl_wr _ _ (by decide)]
        by_cases e : j = i
        · simp [e]
        · simp only [e, if_false]; exact hc j (by omega))
      refine ⟨b', ?_, g2.trans ((rw_on.refl _ _).w (by simp) _ _), fun j hj => ?_⟩
      · simp only [f_X12_fills_L2, if_pos d1, rl_gu d2, d3, d4]
        exact g1
      · rw [g3 j hj, rl_wr _ _ (by decide)]
    · have d1 : ¬ nI i < 48 := nI_nlt (b := 48) (by omega) (by omega)
      exact ⟨b, by simp only [f_X12_fills_L2, if_neg d1], rw_on.refl _ _, fun j hj => hc j (by omega)⟩
def ds (i : Nat) : Nat := if i = 5 then 0 else i + 1
theorem sh_ds : ∀ i, i < 6 → sh (ds i) = i ∧ ds i < 6 := by decide
theorem lp_l {ρ σ β : Type} {inj : ρ × am_S → β} {x : Option ((ρ × am_S) ⊕ (σ × am_S))} {k : σ → am_S → Option β} {y : ρ × am_S} (h : x = some (.inl y)) : am_lp inj x k = some (inj y) := by rw [h]; rfl
theorem lp_r {ρ σ β : Type} {inj : ρ × am_S → β} {x : Option ((ρ × am_S) ⊕ (σ × am_S))} {k : σ → am_S → Option β} {v : σ} {s : am_S} (h : x = some (.inr (v, s))) : am_lp inj x k = k v s := by rw [h]; rfl
theorem f28_a {m : Nat} {x1 : Int32} {b1 : am_S} {y : Int32 × am_S} (h : f_X12_fills_L35 am_FU x1 0 0 b1 = some (.inl y)) : f_X12_fills_L28 (m + 1 + 1 + 1) x1 0 b1 = some (.inl y) := by
  rw [f_X12_fills_L28, if_pos (by decide), lp_l h]
theorem f28_b {m : Nat} {x1 : Int32} {b1 b2 : am_S} {y : Int32 × am_S} (h : f_X12_fills_L35 am_FU x1 0 0 b1 = some (.inr ((), b2))) (h2 : f_X12_fills_L35 am_FU x1 1 0 b2 = some (.inl y)) : f_X12_fills_L28 (m + 1 + 1 + 1) x1 0 b1 = some (.inl y) := by
  rw [f_X12_fills_L28, if_pos (by decide), lp_r h, show (0 : Int32) + 1 = 1 from rfl, f_X12_fills_L28, if_pos (by decide), lp_l h2]
theorem f28_c {m : Nat} {x1 : Int32} {b1 b2 b3 : am_S} (h : f_X12_fills_L35 am_FU x1 0 0 b1 = some (.inr ((), b2))) (h2 : f_X12_fills_L35 am_FU x1 1 0 b2 = some (.inr ((), b3))) : f_X12_fills_L28 (m + 1 + 1 + 1) x1 0 b1 = some (.inr ((), b3)) := by
  rw [f_X12_fills_L28, if_pos (by decide), lp_r h, show (0 : Int32) + 1 = 1 from rfl, f_X12_fills_L28, if_pos (by decide), lp_r h2, show (1 : Int32) + 1 = 2 from rfl, f_X12_fills_L28, if_neg (by decide)]
theorem fl_all (hO : O ≤ 8) (hS : S < 256) (ht : nd_t a O) {b : am_S} (h : mo b a O) (hg : ∀ k d, k < 8 → d < 6 → b.1 117 (6 * k + sh d) = nI (g k d) ∧ g k d ≤ 400) : ∃ (z : Bool) (b' : am_S), f_X12_fills b (nI S) = some (mc_i z, b') ∧ rw_on [118] b' b ∧ (z = true ↔ OP a S O ∧ CA a S O g) := by
  obtain ⟨b1, g1, g2, g3⟩ := cp_row (nI S) am_FU 0 b (by omega) (by unfold am_FU; omega) (fun j hj => by omega)
  have g1 : f_X12_fills_L2 am_FU (nI S) 0 b = _ := g1
  have hm1 : mo b1 a O := h.on g2 (by decide)
  have hl1 : lh b1 (fun k i => g k (ds i)) := by
    intro k i hk hi
    have q := sh_ds i hi
    rw [g3 (6 * k + i) (by omega)]
    have w := hg k (ds i) hk q.2
    rw [q.1] at w
    exact w
  have hp1 : P0 a S g (fun k i => g k (ds i)) 0 0 := by
    intro k hk
    refine ⟨fun d q1 q2 => ?_, rfl⟩
    have e : ds (d - 1) = d := by unfold ds; rw [if_neg (by omega)]; omega
    simp only [e, dmO, dmI]
    rfl
  obtain ⟨b2, k1, k2⟩ := f35_0 (g := g) hO hS ht am_FU 0 b1 _ hm1 hl1 hp1 (fun j hj => by omega) (by omega) (by unfold am_FU; omega)
  rcases k2 with ⟨k3, k4⟩ | ⟨lf2, k3, k4, k5, k6⟩
  · have k3 : f_X12_fills_L35 am_FU (nI S) 0 0 b1 = _ := k3
    have w : f_X12_fills_L28 am_FU (nI S) 0 b1 = some (.inl (0, b2)) := f28_a (m := 4997) k3
    exact ⟨false, b2, by rw [f_X12_fills, lp_r g1, lp_l w]; rfl, k1.trans g2, ⟨fun q => (by cases q), fun q => absurd q k4⟩⟩
  · have k3 : f_X12_fills_L35 am_FU (nI S) 0 0 b1 = _ := k3
    have hp2 : P1 a S O g lf2 0 0 := by
      intro k hk
      obtain ⟨p1, p2⟩ := k5 k hk
      have e1 := p1 1 (by omega) (by omega); have e2 := p1 2 (by omega) (by omega); have e3 := p1 3 (by omega) (by omega); have e4 := p1 4 (by omega) (by omega); have e5 := p1 5 (by omega) (by omega)
      simp only [dmI, Nat.add_zero, show 1 - 1 = 0 from rfl, show 2 - 1 = 1 from rfl, show 3 - 1 = 2 from rfl, show 4 - 1 = 3 from rfl, show 5 - 1 = 4 from rfl] at e1 e2 e3 e4 e5
      simp only [s6, dmO, dmI]
      omega
    obtain ⟨b3, m1, m2⟩ := f35_1 (g := g) hO hS ht k6 am_FU 0 b2 lf2 (hm1.on k1 (by decide)) k4 hp2 (by omega) (by unfold am_FU; omega)
    rcases m2 with ⟨m3, m4⟩ | ⟨lf3, m3, m4, m5⟩
    · have m3 : f_X12_fills_L35 am_FU (nI S) 1 0 b2 = _ := m3
      have w : f_X12_fills_L28 am_FU (nI S) 0 b1 = some (.inl (0, b3)) := f28_b (m := 4997) k3 m3
      exact ⟨false, b3, by rw [f_X12_fills, lp_r g1, lp_l w]; rfl, m1.trans (k1.trans g2), ⟨fun q => (by cases q), fun q => absurd q.2 m4⟩⟩
    · have m3 : f_X12_fills_L35 am_FU (nI S) 1 0 b2 = _ := m3
      have w : f_X12_fills_L28 am_FU (nI S) 0 b1 = some (.inr ((), b3)) := f28_c (m := 4997) k3 m3
      refine ⟨true, b3, by rw [f_X12_fills, lp_r g1, lp_r w]; rfl, m1.trans (k1.trans g2), ⟨fun _ => ⟨k6, fun k hk => ⟨fun c q1 q2 => ?_, ?_⟩⟩, fun _ => rfl⟩⟩
      · have p := (k5 k hk).1 c q1 q2
        simp only [dmI] at p
        show dmO a S k c O ≤ g k c
        omega
      · have p := m5 k hk
        simp only [dmI] at p
        simp only
        omega
end FIL
