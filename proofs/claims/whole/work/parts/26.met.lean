/-! ===== every run gives its method's contract ===== -/
theorem am_mt_ir {i : Instr} {len pc : Nat} {o : am_O} (hm : am_mt i len pc o = true) (ei : o.1 = .ireturn) : i = .ireturn ∧ len = 1 := by
  cases i <;> simp only [am_mt, Bool.and_eq_true, decide_eq_true_eq] at hm <;> first | (rw [hm.1] at ei; cases ei; done) | (rw [hm.1] at ei; cases ei; exact ⟨rfl, hm.2⟩)
theorem am_mt_lr {i : Instr} {len pc : Nat} {o : am_O} (hm : am_mt i len pc o = true) (ei : o.1 = .lreturn) : i = .lreturn ∧ len = 1 := by
  cases i <;> simp only [am_mt, Bool.and_eq_true, decide_eq_true_eq] at hm <;> first | (rw [hm.1] at ei; cases ei; done) | (rw [hm.1] at ei; cases ei; exact ⟨rfl, hm.2⟩)
theorem am_mt_vr {i : Instr} {len pc : Nat} {o : am_O} (hm : am_mt i len pc o = true) (ei : o.1 = .return_) : i = .return_ ∧ len = 1 := by
  cases i <;> simp only [am_mt, Bool.and_eq_true, decide_eq_true_eq] at hm <;> first | (rw [hm.1] at ei; cases ei; done) | (rw [hm.1] at ei; cases ei; exact ⟨rfl, hm.2⟩)
/-- which returns there are -/
theorem am_rt_ok {i : Instr} {rt : Option FieldType} {st : List Value} {r : Option Value} (h : am_rt i rt st = some r) :
    (∃ v, i = .ireturn ∧ rt = some .int ∧ st = [.int v] ∧ r = some (.int v)) ∨ (∃ v, i = .ireturn ∧ rt = some .boolean ∧ st = [.int v] ∧ r = some (.int v) ∧ v &&& 1 = v) ∨ (∃ v, i = .lreturn ∧ rt = some .long ∧ st = [.long v] ∧ r = some (.long v)) ∨ (i = .return_ ∧ rt = none ∧ st = [] ∧ r = none) := by
  cases i <;> simp only [am_rt] at h <;> try (cases h; done)
  · split at h
    · cases h
      exact Or.inl ⟨_, rfl, rfl, rfl, rfl⟩
    · rename_i v
      cases hb : decide (v &&& 1 = v) with
      | false => rw [hb] at h; cases h
      | true =>
        rw [hb] at h
        cases h
        exact Or.inr (Or.inl ⟨_, rfl, rfl, rfl, rfl, of_decide_eq_true hb⟩)
    · cases h
  · split at h
    · cases h
      exact Or.inr (Or.inr (Or.inl ⟨_, rfl, rfl, rfl, rfl⟩))
    · cases h
  · split at h
    · cases h
      exact Or.inr (Or.inr (Or.inr ⟨rfl, rfl, rfl, rfl⟩))
    · cases h
theorem am_met (l : Launch) (D : va_G) (cA : Nat → ClassId) (B scr : Nat) (adK adV : Nat → Nat) : ∀ (d mno : Nat) (As : List Value) (h : am_H) (r : Option Value) (h' : am_H) (M : am_M), am_Run d mno As h r h' → am_ms mno = some M → M.1 ≠ 98 →
    Met l M.2.2.1 (Cond.code M.2.2.1 M.2.2.2.1 M.2.2.2.2.1 M.2.2.2.2.2.1 :: am_wd) (am_rm d (h'.1 - h.1) (am_sl h'.1 - am_sl h.1)) (am_Pc D cA B scr adK adV As h) (am_Qc D cA B scr adK r h') (h'.1 - h.1) (am_sl h'.1 - am_sl h.1) (fun q => B ≤ q) := by
  intro d
  induction d with
  | zero => intro mno As h r h' M hx; exact hx.elim
  | succ d ih =>
    intro mno As h r h' M hx hM h98
    obtain ⟨M', hM', hle, z⟩ := hx
    cases hM.symm.trans hM'
    rcases z with ⟨z1, z2, rfl, j, hj, z⟩ | ⟨z1, -⟩ | ⟨z0, z2, z3, z4, n, z5⟩
    · rcases z with ⟨rfl, rfl, rfl⟩ | ⟨rfl, i, hi, rfl, rfl⟩
      · cases hM
        exact jd_length l D cA B adK adV h' (d + 1) scr (by omega) j hj
      · cases hM
        exact jd_charAt l D cA B adK adV h' (d + 1) scr (by omega) j hj i hi
    · exact absurd z1 h98
    · obtain ⟨m1, m2, m4, m5, m6, m7, m8, m9, m10⟩ := am_mw_all mno M hM
      obtain ⟨o0, o1, o2, o3, o4⟩ := z2
      have hsl := am_sl_le hle
      refine Met.ofW (cc := M.2.2.2.1) (maxL := M.2.2.2.2.1) (ret := M.2.2.2.2.2.1) o0 rfl ?_
      intro p e s m args below meth c s₁ BB hml hv
      obtain ⟨rfl, hsz, hP, hK, hsr⟩ := hv
      have hts := atoms_spec (ws := Cond.code M.2.2.1 M.2.2.2.1 M.2.2.2.2.1 M.2.2.2.2.2.1 :: am_wd) BB.pre
      have hlocks := BB.notSynchronized
      have hr := BB.returns
      have hC : am_C p (headSpec (Cond.code M.2.2.1 M.2.2.2.1 M.2.2.2.2.1 M.2.2.2.2.2.1 :: am_wd) (am_rm (d + 1) (h'.1 - h.1) (am_sl h'.1 - am_sl h.1))).room s m (As.map (am_cv (am_ad B scr adK))).toArray meth c M.2.2.2.1 M.2.2.2.2.1 M.1 M.2.1 none D cA B scr adK adV h'.1 h.1 (am_sl h.1) :=
        ⟨BB.exec, BB.bytes, hml, by rw [o1]; exact findClass_of_methodNamed BB.named, fun w hw => hts w (List.mem_cons_of_mem _ hw), hK, hsr, ⟨by show h'.1 ≤ h.1 + (h'.1 - h.1); omega, by show am_sl h'.1 ≤ am_sl h.1 + (am_sl h'.1 - am_sl h.1); omega, by show 1 ≤ d + 1; omega, by show 20 ≤ 30 * (d + 1); omega⟩, fun hi => by rw [(name_of_methodNamed BB.named BB.method).1]; exact o2 hi, by rw [hsz]; exact Nat.le_add_right _ _, fun L xs q => by cases q⟩
      rw [lg_entry_eq]
      refine am_sound (rt := M.2.2.2.2.2.1) hC ⟨Nat.le_refl _, Nat.le_refl _⟩ (fun mno As h v h1 M g1 g2 g3 => ih mno As h v h1 M g1 g2 g3) o3 ?_ n 0 _ [] h s.heap [] _ 0 0 z5 ⟨am_entry z3, hsz, hP, va_S.rf, (Nat.add_zero _).symm, (Nat.add_zero _).symm⟩
      intro pc o al st H locs ls cells slots ho hrt V
      obtain ⟨i, len, hd, hm⟩ := o3 pc o ho
      have v5 := V.2.2.2.2.1
      have v6 := V.2.2.2.2.2
      have hcl : h'.1 - h.1 = cells := by omega
      have hsl2 : am_sl h'.1 - am_sl h.1 = slots := by omega
      rw [hcl, hsl2]
      have hx := BB.exec
      have hb := BB.bytes
      rcases am_rt_ok hrt with ⟨v, e1, e2, rfl, rfl⟩ | ⟨v, e1, e2, rfl, rfl, hv⟩ | ⟨v, e1, e2, rfl, rfl⟩ | ⟨e1, e2, rfl, rfl⟩
      · obtain ⟨rfl, rfl⟩ := am_mt_ir hm e1
        exact W.iret hx hb (by rw [hr, e2]) (fun t ht hW => ⟨rfl, by rw [ht]; exact V.2.1, by rw [ht]; exact V.2.2.1, V.2.2.2.1.F ht⟩) V.2.2.2.1.2.2 hd
      · obtain ⟨rfl, rfl⟩ := am_mt_ir hm e1
        exact W.zret hx hb (by rw [hr, e2]) (by show Value.int (v &&& 1) = .int v; rw [hv]) (fun t ht hW => ⟨rfl, by rw [ht]; exact V.2.1, by rw [ht]; exact V.2.2.1, V.2.2.2.1.F ht⟩) V.2.2.2.1.2.2 hd
      · obtain ⟨rfl, rfl⟩ := am_mt_lr hm e1
        exact W.lret hx hb (by rw [hr, e2]) (fun t ht hW => ⟨rfl, by rw [ht]; exact V.2.1, by rw [ht]; exact V.2.2.1, V.2.2.2.1.F ht⟩) V.2.2.2.1.2.2 hd
      · obtain ⟨rfl, rfl⟩ := am_mt_vr hm e1
        exact W.vret hx hb (by rw [hr, e2]) (fun t ht hW => ⟨rfl, by rw [ht]; exact V.2.1, by rw [ht]; exact V.2.2.1, V.2.2.2.1.F ht⟩) V.2.2.2.1.2.2 hd
