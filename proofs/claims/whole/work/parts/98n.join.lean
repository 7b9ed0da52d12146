/-! BOTH SIDES: joined -/
def sM (i : Nat) : Prop := 44 ≤ i ∧ i ≤ 69
def sC (i : Nat) : Prop := ¬ (44 ≤ i ∧ i ≤ 69)
theorem IM_fr {σ : St} {h h2 : Hp} (e : ∀ i, 44 ≤ i → i ≤ 69 → ∀ j, hI h2 i j = hI h i j ∧ hR h2 i j = hR h i j) (I : IM σ h) : IM σ h2 := by
  have eI : ∀ a, 44 ≤ a → a ≤ 69 → hI h2 a = hI h a := fun a h1 h2 => funext (fun j => (e a h1 h2 j).1)
  have eR : ∀ j, hR h2 44 j = hR h 44 j := fun j => (e 44 (by omega) (by omega) j).2
  unfold IM MW MS MSi MG at *
  simp (disch := omega) only [eI, eR]
  exact I
theorem IC_fr {σ : St} {h h2 : Hp} (c1 : h2.1 = h.1) (e : ∀ i, i < h.1.1 → sC i → ∀ j, hI h2 i j = hI h i j ∧ hR h2 i j = hR h i j) (I : IC σ h) : IC σ h2 := by
  obtain ⟨L, nw, sp, hn, hX, ⟨v1, v2, u⟩, ⟨hw, ht⟩, hi, hG, ⟨g1, ⟨g2, g3⟩, ⟨g4, g5⟩, ⟨g6, g7⟩, g8⟩, hL, h70⟩ := I
  have eI : ∀ i j, i < 44 → hI h2 i j = hI h i j := fun i j hi => (e i (by omega) (by unfold sC; omega) j).1
  have eR : ∀ i j, i < 44 → hR h2 i j = hR h i j := fun i j hi => (e i (by omega) (by unfold sC; omega) j).2
  have ev : ∀ c, c ≤ 23 → CV h c → CV h2 c := fun c hc v => ⟨(eR _ _ (by omega)).trans v.1, (eR _ _ (by omega)).trans v.2.1, fun i hi => (eR _ _ (by omega)).trans (v.2.2 i hi)⟩
  have ew : ∀ c w, c ≤ 23 → w 0 3 ≤ 5 → CW L h c w → CW L h2 c w := fun c w hc k3 cw => CW_q k3 (fun i z j => e i (im_lt hL z) (fun y => im_n (by omega) z) j) (by rw [c1]; exact Nat.le_refl _) (eR _ _ (by omega)) (fun p hp => eR _ _ (by omega)) (ev c hc cw.2.2.1) (eI _ _ (by omega)) (eI _ _ (by omega)) (fun p j hp hj => eI _ _ (by omega)) cw
  refine ⟨L, nw, sp, hn, ?_, ⟨ev _ (by omega) v1, ev _ (by omega) v2, fun i hi => ?_⟩, ⟨ew nw σ.1 (by omega) hG.1.2.2.2.1 hw, (eI _ _ (by omega)).trans ht⟩, fun z => ?_, hG, ?_, by rw [c1]; exact hL, by rw [c1]; exact h70⟩
  · unfold CX at hX ⊢
    simp (disch := omega) only [eR]
    exact hX
  · rw [eR _ _ (by omega), eR _ _ (by omega), eR _ _ (by omega)]; exact u i hi
  · obtain ⟨x1, x2⟩ := hi z
    exact ⟨ew 23 σ.2.1 (by omega) (hG.2.2.1 z).2.2.2.1 x1, (eI _ _ (by omega)).trans x2⟩
  · unfold XG
    simp (disch := omega) only [eI]
    exact ⟨g1, ⟨g2, g3⟩, ⟨g4, g5⟩, ⟨g6, g7⟩, g8⟩
def Jv (k : Nat) (h : Hp) : Prop := (∃ σ, IM σ h ∧ IC σ h) ∧ VV h ∧ fr_cl sC h ∧ fr_cl sM h ∧ 70 ≤ h.1.1 ∧ h.1.1 ≤ 70 + 162 * k ∧ h.1.2 ≤ 6624 + 7830 * k
theorem fr_as {S : Nat → Prop} {o k : Nat} (hS : S o) (as : List Int32) : fr_st S (vr (o, k, 0) :: as.map vi) := fr_c (fr_vr hS) (fun v hv => by
  obtain ⟨x, -, rfl⟩ := List.mem_map.mp hv
  exact fr_vi)
theorem pair {xm mm : Nat} {as : List Int32} {s : St → Int32 × St} (hm : inM mm = true) (C : Cok xm as s) (M : Mok mm as s) : lw_ok Jv xm mm as := by
  rintro k h ⟨⟨σ, im, ic⟩, hv, fC, fM, h70, n1, n2⟩
  obtain ⟨h1, c1, c2, c3⟩ := C σ h ic
  have c1' : call xm (vr (0, 11, 0) :: as.map vi) h = some (some (vi (s σ).1), h1) := c1
  obtain ⟨s1, s2⟩ := call_fr (S := sC) c1' (fun i hi => by unfold sC; omega) fC (fr_as (by unfold sC; omega) as)
  have v1 := call_nn c1' hv (fr_as (S := bel h) (show (0 : Nat) < h.1.1 by omega) as)
  have e1 : ∀ i, 44 ≤ i → i ≤ 69 → ∀ j, hI h1 i j = hI h i j ∧ hR h1 i j = hR h i j := fun i a b j => s1 i (fun z => z ⟨a, b⟩) j
  have im1 := IM_fr e1 im
  have fM1 : fr_cl sM h1 := fun i hi j r hr => fM i hi j r (by rw [← (e1 i hi.1 hi.2 j).2]; exact hr)
  obtain ⟨b1, b2, b3⟩ := c3
  obtain ⟨h2, m1, m2⟩ := M σ h1 im1
  have m1' : call mm (vr (MI, 12, 0) :: as.map vi) h1 = some (some (vi (s σ).1), h2) := m1
  have q1 := call_na hm m1'
  have fS : fr_cl (fun i => sM i ∨ h1.1.1 ≤ i) h1 := fun i hi j r hr => by
    rcases hi with hi | hi
    · exact Or.inl (fM1 i hi j r hr)
    · rw [v1.2 i j hi] at hr; cases hr
  obtain ⟨t1, t2⟩ := call_fr (S := fun i => sM i ∨ h1.1.1 ≤ i) m1' (fun i hi => Or.inr hi) fS (fr_as (Or.inl (by unfold sM MI; omega)) as)
  have e2 : ∀ i, i < h1.1.1 → sC i → ∀ j, hI h2 i j = hI h1 i j ∧ hR h2 i j = hR h1 i j := fun i a b j => t1 i (fun z => by rcases z with z | z; exact b z; omega) j
  have v2 := call_nn m1' v1 (fr_as (S := bel h1) (show MI < h1.1.1 by unfold MI; omega) as)
  refine ⟨(s σ).1, h1, h2, c1', m1', ⟨(s σ).2, m2, IC_fr q1 e2 c2⟩, v2, fun i hi j r hr => ?_, fun i hi j r hr => ?_, by rw [q1]; omega, by rw [q1]; omega, ?_⟩
  · rcases Nat.lt_or_ge i h1.1.1 with z | z
    · rw [(e2 i z hi j).2] at hr; exact s2 i hi j r hr
    · rw [v2.2 i j (by rw [q1]; exact z)] at hr; cases hr
  · rcases t2 i (Or.inl hi) j r hr with z | z
    · exact z
    · have := v2.1 i j r hr
      rw [q1] at this
      omega
  · rw [q1, Nat.mul_succ, ← Nat.add_assoc]
    exact Nat.le_trans b3 (Nat.add_le_add_right n2 7830)
theorem pure_all : lw_all Jv := ⟨fun a => pair rfl (q_feed a) (p_feed a), pair rfl q_moor p_moor, fun a b => pair rfl (q_pers a b) (p_pers a b), fun a => pair rfl (q_delay a) (p_delay a), pair rfl q_day p_day, fun a b => pair rfl (q_was a b) (p_was a b), fun a b => pair rfl (q_sees a b) (p_sees a b), fun a b => pair rfl (q_behind a b) (p_behind a b), fun a b d => pair rfl (q_meet a b d) (p_meet a b d), fun a b => pair rfl (q_never a b) (p_never a b), fun a b => pair rfl (q_crowd a b) (p_crowd a b), fun a b => pair rfl (q_reach a b) (p_reach a b), fun a b => pair rfl (q_can a b) (p_can a b), fun a b d => pair rfl (q_ways a b d) (p_ways a b d), fun a b => pair rfl (q_sight a b) (p_sight a b), fun a => pair rfl (q_fits a) (p_fits a), fun a b => pair rfl (q_guess a b) (p_guess a b), pair rfl q_forget p_forget, fun a b d => pair rfl (q_game a b d) (p_game a b d), fun a b => pair rfl (q_watch a b) (p_watch a b), fun a => pair rfl (q_row a) (p_row a), fun a => pair rfl (q_judge a) (p_judge a), fun a b d f => pair rfl (q_seeds a b d f) (p_seeds a b d f), pair rfl q_image p_image, pair rfl q_rest p_rest, fun a => pair rfl (q_count a) (p_count a)⟩
theorem pure_Jv : lw_pure Jv := by
  refine ⟨pure_all, fun k h hk I => ?_, fun k h I => ?_, fun k h I => I.2.2.2.2.1⟩
  · obtain ⟨-, -, -, -, -, n1, n2⟩ := I
    refine ⟨Nat.le_trans n1 (Nat.le_trans (Nat.add_le_add_left (Nat.mul_le_mul_left 162 hk) 70) (by decide)), Nat.le_trans n2 (Nat.le_trans (Nat.add_le_add_left (Nat.mul_le_mul_left 7830 hk) 6624) (by decide))⟩
  · obtain ⟨a, b, c, d, e, n1, n2⟩ := I
    refine ⟨a, b, c, d, e, by omega, Nat.le_trans n2 (Nat.add_le_add_left (Nat.mul_le_mul_left 7830 (Nat.le_succ k)) 6624)⟩
