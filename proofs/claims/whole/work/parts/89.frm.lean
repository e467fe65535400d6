/-! ===== an expression as it is read: what waits on each level ===== -/
/-- 0 none, 1 plus, 2 minus; a times waits or not; the sum so far; the part so far -/
abbrev FRm : Type := Nat × Bool × ((Nat → Int32) → Int32) × ((Nat → Int32) → Int32)
def fsm (f : FRm) (v : Nat → Int32) : Int32 := if f.1 = 0 then 0 else f.2.2.1 v
def fpt (f : FRm) (v : Nat → Int32) : Int32 := (if f.1 = 2 then -1 else 1) * (if f.2.1 then f.2.2.2 v else 1)
def fst1 (f : FRm) (v : Nat → Int32) : List Int32 := if f.1 = 0 then [] else [f.2.2.1 v]
def fst2 (f : FRm) (v : Nat → Int32) : List Int32 := if f.2.1 then [f.2.2.2 v] else []
def stk : List FRm → (Nat → Int32) → List Int32
  | [], _ => []
  | f :: r, v => fst2 f v ++ (fst1 f v ++ stk r v)
def fop1 (f : FRm) : List Int32 := if f.1 = 0 then [] else if f.1 = 1 then [8] else [9]
def fop2 (f : FRm) : List Int32 := if f.2.1 then [10] else []
def wl : List FRm → List Int32
  | [] => []
  | f :: r => fop2 f ++ (fop1 f ++ (if r.length = 0 then [] else 6 :: wl r))
def fa (S P : Nat → Int32) (v : Nat → Int32) : List FRm → Prop
  | [] => True
  | f :: r => S r.length = fsm f v ∧ P r.length = fpt f v ∧ fa S P v r
def fz (f : FRm) (z : (Nat → Int32) → Int32) (v : Nat → Int32) : Int32 := if f.2.1 then f.2.2.2 v * z v else z v
def fw (f : FRm) (z : (Nat → Int32) → Int32) (v : Nat → Int32) : Int32 := if f.1 = 0 then fz f z v else if f.1 = 1 then f.2.2.1 v + fz f z v else f.2.2.1 v - fz f z v
theorem fw_eq (f : FRm) (h : f.1 ≤ 2) (z : (Nat → Int32) → Int32) (v : Nat → Int32) : fsm f v + fpt f v * z v = fw f z v := by
  unfold fsm fpt fw fz
  have h' : f.1 = 0 ∨ f.1 = 1 ∨ f.1 = 2 := by omega
  have n1 : ∀ a b : Int32, (-1 * a) * b = -(a * b) := fun a b => by
    rw [Int32.mul_assoc]
    have e : ∀ c : Int32, -1 * c = -c := fun c => by
      rw [show (-1 : Int32) = -(1) from rfl, Int32.neg_mul, Int32.one_mul]
    exact e _
  rcases h' with e | e | e <;> cases hb : f.2.1 <;> simp [e, Int32.sub_eq_add_neg, Int32.neg_mul]
theorem fpt_z (f : FRm) (z : (Nat → Int32) → Int32) (v : Nat → Int32) : fpt f v * z v = fpt (f.1, true, f.2.2.1, fz f z) v := by
  unfold fpt fz
  cases hb : f.2.1 <;> simp [Int32.mul_assoc]
theorem fa_up {S P S' P' v : Nat → Int32} : ∀ F : List FRm, (∀ l, l < F.length → S' l = S l ∧ P' l = P l) → fa S P v F → fa S' P' v F := by
  intro F
  induction F with
  | nil => intro _ _; trivial
  | cons f r ih =>
    intro h h1
    have := h r.length (by simp)
    exact ⟨this.1.trans h1.1, this.2.trans h1.2.1, ih (fun l hl => h l (by simp; omega)) h1.2.2⟩
def EI (tk vl cd ci : Nat → Int32) (i0 m c0 k : Nat) (F : List FRm) : Prop := xC tk i0 m ∧ lev tk i0 m + 1 = F.length ∧ xM cd ci c0 k ∧ (∀ f ∈ F, f.1 ≤ 2) ∧ ∀ v, fa (c_run tk vl v i0 m).2.1 (c_run tk vl v i0 m).2.2 v F ∧ m_run cd ci v c0 k = stk F v
/-- behind a unit z; st: what lies on the pile -/
def EB (tk vl cd ci : Nat → Int32) (i0 m c0 k : Nat) (f : FRm) (r : List FRm) (z : (Nat → Int32) → Int32) (st : (Nat → Int32) → List Int32) : Prop := xC tk i0 m ∧ lev tk i0 m = r.length ∧ xM cd ci c0 k ∧ (∀ g ∈ f :: r, g.1 ≤ 2) ∧ ∀ v, ((c_run tk vl v i0 m).2.1 r.length = fsm f v ∧ (c_run tk vl v i0 m).2.2 r.length = fpt f v * z v ∧ fa (c_run tk vl v i0 m).2.1 (c_run tk vl v i0 m).2.2 v r) ∧ m_run cd ci v c0 k = st v
section FRS
variable {tk vl cd ci : Nat → Int32} {i0 m c0 k : Nat}
theorem xC_ext (h : xC tk i0 m) (h1 : isE (tk (i0 + m))) (h2 : tk (i0 + m) = 17 → lev tk i0 m < 6) (h3 : tk (i0 + m) = 18 → 0 < lev tk i0 m) : xC tk i0 (m + 1) := by
  intro j hj
  by_cases e : j = m
  · subst e; exact ⟨h1, h2, h3⟩
  · exact h j (by omega)
theorem EI.start : EI tk vl cd ci i0 0 c0 0 [(0, false, fun _ => 0, fun _ => 0)] := by
  refine ⟨fun m hm => by omega, rfl, fun v m hm => by omega, by simp, fun v => ⟨⟨?_, ?_, trivial⟩, rfl⟩⟩
  · simp [c_run, up1, fsm]
  · simp [c_run, up1, fpt]
theorem EI.op {F : List FRm} (h : EI tk vl cd ci i0 m c0 k F) (ht : tk (i0 + m) = 17) (hl : F.length ≤ 6) : EI tk vl cd ci i0 (m + 1) c0 k ((0, false, fun _ => 0, fun _ => 0) :: F) := by
  obtain ⟨h1, h2, h3, h4, h5⟩ := h
  refine ⟨xC_ext h1 (by rw [ht]; unfold isE; simp) (fun _ => by omega) (fun q => by rw [ht] at q; exact absurd q (by decide)), ?_, h3, ?_, fun v => ?_⟩
  · rw [lev, if_pos ht]; simp; omega
  · intro f hf
    rcases List.mem_cons.mp hf with e | e
    · rw [e]; simp
    · exact h4 f e
  · obtain ⟨q1, q2⟩ := h5 v
    have e1 : (c_run tk vl v i0 (m + 1)) = ((c_run tk vl v i0 m).1 + 1, up1 (c_run tk vl v i0 m).2.1 ((c_run tk vl v i0 m).1 + 1) 0, up1 (c_run tk vl v i0 m).2.2 ((c_run tk vl v i0 m).1 + 1) 1) := by
      rw [c_run, ht]; rfl
    have e2 := c_lev tk vl v i0 m
    rw [e1]
    simp only
    rw [e2, h2]
    refine ⟨⟨by simp [up1, fsm], by simp [up1, fpt], fa_up F (fun l hl => ⟨up1_n (by omega), up1_n (by omega)⟩) q1⟩, ?_⟩
    rw [q2]; rfl
theorem EI.unit {f : FRm} {r : List FRm} (h : EI tk vl cd ci i0 m c0 k (f :: r)) (ht : isU (tk (i0 + m))) {cd' ci' : Nat → Int32} (hx : xM cd' ci' c0 (k + 1)) {z : (Nat → Int32) → Int32} (hz : ∀ v, c_fac (tk (i0 + m)) (vl (i0 + m)) v = z v) (hm : ∀ v, m_run cd' ci' v c0 (k + 1) = z v :: m_run cd ci v c0 k) : EB tk vl cd' ci' i0 (m + 1) c0 (k + 1) f r z (fun v => z v :: stk (f :: r) v) := by
  obtain ⟨h1, h2, h3, h4, h5⟩ := h
  obtain ⟨u0, u1, u2, u3, u4, u5, u6, u7, u8⟩ := isU_n ht
  refine ⟨xC_ext h1 (by unfold isE; simp [ht]) (fun q => absurd q u7) (fun q => absurd q u8), ?_, hx, h4, fun v => ?_⟩
  · rw [lev, if_neg u7, if_neg u8]; simp at h2; omega
  · obtain ⟨⟨q1, q3, q4⟩, q2⟩ := h5 v
    have e2 := c_lev tk vl v i0 m
    have e3 : lev tk i0 m = r.length := by simp at h2; omega
    have e1 : (c_run tk vl v i0 (m + 1)) = ((c_run tk vl v i0 m).1, (c_run tk vl v i0 m).2.1, up1 (c_run tk vl v i0 m).2.2 (c_run tk vl v i0 m).1 ((c_run tk vl v i0 m).2.2 (c_run tk vl v i0 m).1 * z v)) := by
      rw [c_run, c_step, if_neg u0, if_neg u1, if_neg u2, if_neg u7, if_neg u8, hz v]
    rw [e1]
    simp only
    rw [e2, e3]
    refine ⟨⟨q1, by rw [up1_s, q3], fa_up r (fun l hl => ⟨rfl, up1_n (by omega)⟩) q4⟩, ?_⟩
    rw [hm v, q2]
theorem EB.close {f g : FRm} {r : List FRm} {z : (Nat → Int32) → Int32} (h : EB tk vl cd ci i0 m c0 k f (g :: r) z (fun v => fw f z v :: stk (g :: r) v)) (ht : tk (i0 + m) = 18) : EB tk vl cd ci i0 (m + 1) c0 k g r (fw f z) (fun v => fw f z v :: stk (g :: r) v) := by
  obtain ⟨h1, h2, h3, h4, h5⟩ := h
  refine ⟨xC_ext h1 (by rw [ht]; unfold isE; simp) (fun q => by rw [ht] at q; exact absurd q (by decide)) (fun _ => by rw [h2]; simp), ?_, h3, fun x hx => h4 x (List.mem_cons_of_mem _ hx), fun v => ?_⟩
  · rw [lev, if_neg (by rw [ht]; decide), if_pos ht, h2]; simp
  · obtain ⟨⟨q1, q3, q4, q5, q6⟩, q2⟩ := h5 v
    have e2 := c_lev tk vl v i0 m
    have e1 : (c_run tk vl v i0 (m + 1)) = ((c_run tk vl v i0 m).1 - 1, (c_run tk vl v i0 m).2.1, up1 (c_run tk vl v i0 m).2.2 ((c_run tk vl v i0 m).1 - 1) ((c_run tk vl v i0 m).2.2 ((c_run tk vl v i0 m).1 - 1) * ((c_run tk vl v i0 m).2.1 (c_run tk vl v i0 m).1 + (c_run tk vl v i0 m).2.2 (c_run tk vl v i0 m).1))) := by
      rw [c_run, ht]; rfl
    rw [e1]
    simp only
    rw [e2, h2]
    have e3 : (g :: r).length - 1 = r.length := by simp
    rw [e3, q1, q3, fw_eq f (h4 f (by simp)) z v]
    refine ⟨⟨q4, by rw [up1_s, q5], fa_up r (fun l hl => ⟨rfl, up1_n (by omega)⟩) q6⟩, q2⟩
theorem EB.plus {f : FRm} {r : List FRm} {z : (Nat → Int32) → Int32} {o : Nat} (h : EB tk vl cd ci i0 m c0 k f r z (fun v => fw f z v :: stk r v)) (ht : tk (i0 + m) = 10 ∧ o = 1 ∨ tk (i0 + m) = 11 ∧ o = 2) : EI tk vl cd ci i0 (m + 1) c0 k ((o, false, fw f z, fun _ => 0) :: r) := by
  obtain ⟨h1, h2, h3, h4, h5⟩ := h
  have n17 : ¬ tk (i0 + m) = 17 := by rcases ht with ⟨q, -⟩ | ⟨q, -⟩ <;> rw [q] <;> decide
  have n18 : ¬ tk (i0 + m) = 18 := by rcases ht with ⟨q, -⟩ | ⟨q, -⟩ <;> rw [q] <;> decide
  refine ⟨xC_ext h1 (by rcases ht with ⟨q, -⟩ | ⟨q, -⟩ <;> rw [q] <;> unfold isE <;> simp) (fun q => absurd q n17) (fun q => absurd q n18), ?_, h3, fun x hx => ?_, fun v => ?_⟩
  · rw [lev, if_neg n17, if_neg n18, h2]; simp
  · rcases List.mem_cons.mp hx with e | e
    · rw [e]; rcases ht with ⟨-, q⟩ | ⟨-, q⟩ <;> simp [q]
    · exact h4 x (List.mem_cons_of_mem _ e)
  · obtain ⟨⟨q1, q3, q4⟩, q2⟩ := h5 v
    have e2 := c_lev tk vl v i0 m
    have e1 : (c_run tk vl v i0 (m + 1)) = ((c_run tk vl v i0 m).1, up1 (c_run tk vl v i0 m).2.1 (c_run tk vl v i0 m).1 ((c_run tk vl v i0 m).2.1 (c_run tk vl v i0 m).1 + (c_run tk vl v i0 m).2.2 (c_run tk vl v i0 m).1), up1 (c_run tk vl v i0 m).2.2 (c_run tk vl v i0 m).1 (if o = 2 then -1 else 1)) := by
      rcases ht with ⟨q, q'⟩ | ⟨q, q'⟩
      · rw [c_run, q, q']; rfl
      · rw [c_run, q, q']; rfl
    rw [e1]
    simp only
    rw [e2, h2, q1, q3, fw_eq f (h4 f (by simp)) z v]
    have ho : ¬ o = 0 := by rcases ht with ⟨-, q⟩ | ⟨-, q⟩ <;> omega
    refine ⟨⟨by rw [up1_s]; simp [fsm, ho], by rw [up1_s]; simp [fpt], fa_up r (fun l hl => ⟨up1_n (by omega), up1_n (by omega)⟩) q4⟩, ?_⟩
    rw [q2]
    simp [stk, fst1, fst2, ho]
theorem EB.times {f : FRm} {r : List FRm} {z : (Nat → Int32) → Int32} (h : EB tk vl cd ci i0 m c0 k f r z (fun v => fz f z v :: (fst1 f v ++ stk r v))) (ht : tk (i0 + m) = 12) : EI tk vl cd ci i0 (m + 1) c0 k ((f.1, true, f.2.2.1, fz f z) :: r) := by
  obtain ⟨h1, h2, h3, h4, h5⟩ := h
  have n17 : ¬ tk (i0 + m) = 17 := by rw [ht]; decide
  have n18 : ¬ tk (i0 + m) = 18 := by rw [ht]; decide
  refine ⟨xC_ext h1 (by rw [ht]; unfold isE; simp) (fun q => absurd q n17) (fun q => absurd q n18), ?_, h3, fun x hx => ?_, fun v => ?_⟩
  · rw [lev, if_neg n17, if_neg n18, h2]; simp
  · rcases List.mem_cons.mp hx with e | e
    · rw [e]; exact h4 f (by simp)
    · exact h4 x (List.mem_cons_of_mem _ e)
  · obtain ⟨⟨q1, q3, q4⟩, q2⟩ := h5 v
    have e1 : (c_run tk vl v i0 (m + 1)) = c_run tk vl v i0 m := by rw [c_run, ht]; rfl
    rw [e1]
    refine ⟨⟨by rw [q1]; rfl, by rw [q3, fpt_z], q4⟩, ?_⟩
    rw [q2]
    simp [stk, fst1, fst2]
theorem EB.fin {f : FRm} {z : (Nat → Int32) → Int32} (h : EB tk vl cd ci i0 m c0 k f [] z (fun v => fw f z v :: stk [] v)) (ht : isT (tk (i0 + m))) (hk : k ≤ 400) : EX tk vl cd ci i0 m c0 k (fw f z) := by
  obtain ⟨h1, h2, h3, h4, h5⟩ := h
  refine ⟨h1, h2, ht, h3, hk, fun v => ?_⟩
  obtain ⟨⟨q1, q3, -⟩, q2⟩ := h5 v
  have e : ([] : List FRm).length = 0 := rfl
  rw [e] at q1 q3
  exact ⟨by rw [q1, q3]; exact fw_eq f (h4 f (by simp)) z v, q2⟩
end FRS
