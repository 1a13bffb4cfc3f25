/-! the reference: heights -/
def kw (h h' : am_H) (lo hi : Nat) : Prop := am_sz h' = am_sz h ∧ am_tg h' = am_tg h ∧ am_P h' = am_P h ∧ (∀ b, b ≠ 87 → am_I h' b = am_I h b) ∧ ∀ k, (k < lo ∨ hi ≤ k) → am_I h' 87 k = am_I h 87 k
theorem kw.rf {h : am_H} {lo hi : Nat} : kw h h lo hi := ⟨rfl, rfl, rfl, fun _ _ => rfl, fun _ _ => rfl⟩
theorem kw.tr {h h1 h2 : am_H} {lo hi : Nat} (a : kw h h1 lo hi) (b : kw h1 h2 lo hi) : kw h h2 lo hi := by
  obtain ⟨a1, a2, a3, a4, a5⟩ := a
  obtain ⟨b1, b2, b3, b4, b5⟩ := b
  exact ⟨b1.trans a1, b2.trans a2, b3.trans a3, fun b hb => (b4 b hb).trans (a4 b hb), fun k hk => (b5 k hk).trans (a5 k hk)⟩
theorem kw.wd {h h1 : am_H} {lo hi lo' hi' : Nat} (a : kw h h1 lo hi) (p1 : lo' ≤ lo) (p2 : hi ≤ hi') : kw h h1 lo' hi' := ⟨a.1, a.2.1, a.2.2.1, a.2.2.2.1, fun k hk => a.2.2.2.2 k (by omega)⟩
theorem kw.si {h : am_H} {k lo hi : Nat} {v : Int32} (hk : lo ≤ k ∧ k < hi) : kw h (am_si h 87 k v) lo hi := ⟨rfl, rfl, rfl, fun b hb => by rw [am_I_sin hb], fun j hj => by rw [am_I_sis, va_up_no _ _ (by omega)]⟩
theorem kw.rk {h h' : am_H} {lo hi : Nat} (a : kw h h' lo hi) (hl : 26 ≤ lo) : rk h h' := ⟨a.1, a.2.1, a.2.2.1, fun b hb => a.2.2.2.1 b (by omega), fun k hk => a.2.2.2.2 k (by omega)⟩
theorem rpA.kw {h h' : am_H} {lo hi p : Nat} {P : List Tn} (r : rpA h p P) (f : kw h h' lo hi) : rpA h' p P := by
  unfold rpA
  rw [f.2.2.2.1 89 (by omega), f.2.2.2.1 90 (by omega), f.2.2.2.1 91 (by omega), f.2.2.2.1 92 (by omega)]
  exact r
theorem rpA.rk {h h' : am_H} {p : Nat} {P : List Tn} (r : rpA h p P) (f : rk h h') : rpA h' p P := by
  unfold rpA
  rw [f.2.2.2.1 89 (by omega), f.2.2.2.1 90 (by omega), f.2.2.2.1 91 (by omega), f.2.2.2.1 92 (by omega)]
  exact r
theorem rfF.kw {h h' : am_H} {lo hi : Nat} (m : rfF h) (f : kw h h' lo hi) : rfF h' := by
  unfold rfF
  rw [f.2.1, f.2.2.1]
  exact m
def hV (P : List Tn) (t A B : Int) : Prop := ∃ j p, at1 P t j p ∧ ((t = p.2.1 ∧ A = p.2.2 ∧ B = 1) ∨ ∃ q, P[j + 1]? = some q ∧ p.2.1 < t ∧ A = exc p q t 0 ∧ B = 12 * (q.2.1 - p.2.1))
theorem twB_eq (w : Int) (h : 0 ≤ w ∧ w ≤ 5) : twB w = if w = 0 ∨ w = 5 then 1 else if w = 1 ∨ w = 4 then 2 else 3 := by
  obtain rfl | rfl | rfl | rfl | rfl | rfl : w = 0 ∨ w = 1 ∨ w = 2 ∨ w = 3 ∨ w = 4 ∨ w = 5 := by omega
  all_goals rfl
theorem s_Ref_heightAt {h : am_H} {p : Nat} {P : List Tn} {t : Int} {Q : am_H → Prop} (m : rfF h) (r : rpA h p P) (g : gW P) (hp : p < 8) (ht : ptIn P t) (k : ∀ h' A B, kw h h' 26 28 → am_I h' 87 26 = ji A → am_I h' 87 27 = ji B → hV P t A B → Q h') : am_Ew m_Ref_heightAt 0 0 [.ref 87, .int (ji p), .int (ji t)] h Q := by
  have h16 := g.2.1
  have lb := g.last
  have fb := g.first
  have ht2 := ht.2
  refine ev_Ref_heightAt 87 (ji p) (ji t) h Q ⟨m.1, s_Ref_turnAt m r g hp ht (fun j q hat => ?_)⟩
  obtain ⟨a1, a2, a3⟩ := id hat
  have hj := (List.getElem?_eq_some_iff.mp a1).1
  have rq := r.2 j q a1
  have bq := g.mem (List.mem_of_getElem? a1)
  have bh := g.1.2.2 q (List.mem_of_getElem? a1)
  refine ⟨m.1, 91, m.p8, by rw [m.t8], by rw [m.t8, ji_in]; omega, 90, m.p7, by rw [m.t7], by rw [m.t7, ji_in]; omega, ?_⟩
  have ek : (ji ((p : Int) * 16 + (j : Int))).toNatClampNeg = p * 16 + j := by
    rw [ji_tn]
    omega
  have ek1 : (ji ((p : Int) * 16 + (j : Int)) + 1).toNatClampNeg = p * 16 + (j + 1) := by
    rw [jk1, ji_add, ji_tn]
    omega
  rw [ek, ek1, rq.2.1]
  have eI : am_I (am_si (am_si h 87 26 (ji q.2.2)) 87 27 1) 90 = am_I h 90 := by rw [am_I_sin (by omega), am_I_sin (by omega)]
  have f0 : kw h (am_si (am_si h 87 26 (ji q.2.2)) 87 27 1) 26 28 := (kw.si (by omega)).tr (kw.si (by omega))
  rw [eI, rq.1]
  refine ⟨fun c => ?_, fun c => ?_⟩
  · rw [ji_eq] at c
    obtain ⟨q', hq'⟩ : ∃ q', P[j + 1]? = some q' := by
      cases e : P[j + 1]? with
      | some q' => exact ⟨q', rfl⟩
      | none =>
        have := List.getElem?_eq_none_iff.mp e
        have e2 : ptM P ((P.length : Int) - 1) = q.2.1 := by
          rw [show (P.length : Int) - 1 = (j : Int) by omega]
          exact ptM_at a1
        omega
    have rq' := r.2 (j + 1) q' hq'
    have bq' := g.mem (List.mem_of_getElem? hq')
    have tw := g.1.2.1 j q q' a1 hq'
    have tw1 := tw.1
    have lt := a3 q' hq'
    have D0 : 0 < q'.2.1 - q.2.1 := by omega
    have pt := part_lt (D := q'.2.1 - q.2.1) (s := 6 * (t - q.2.1)) D0 (by omega) (by omega)
    have hj' := (List.getElem?_eq_some_iff.mp hq').1
    rw [rq'.1, jk6, ji_sub, ji_sub, ji_mul, ji_div, ji_mod, show ((ji (q'.2.1 - q.2.1) = 0) ↔ (ji (q'.2.1 - q.2.1) = ji 0)) from Iff.rfl, ji_eq]
    refine ⟨by rw [m.t7, jk1, ji_add, ji_in]; omega, by omega, ?_⟩
    -- the end
    have last : am_EI m_Ref_heightAt 0 0 164 [.ref 87, .int (ji p), .int (ji t), .int (ji (p * 16 + j)), .int (ji (q'.2.1 - q.2.1)), .int (ji (6 * (t - q.2.1))), .int (ji (6 * (t - q.2.1) % (q'.2.1 - q.2.1))), .int (ji (6 * (t - q.2.1) / (q'.2.1 - q.2.1))), .int (ji (twA (6 * (t - q.2.1) / (q'.2.1 - q.2.1)))), .float 0] [.int (ji (twB (6 * (t - q.2.1) / (q'.2.1 - q.2.1))))] (am_si (am_si h 87 26 (ji q.2.2)) 87 27 1) (am_qw Q) := by
      have m0 := m.kw f0
      refine sg_Ref_heightAt_164 87 _ _ _ _ _ _ _ _ _ _ _ ⟨m0.1, 91, m0.p8, by rw [m0.t8], by rw [m0.t8, ji_in]; omega, by rw [m0.t8, jk1, ji_add, ji_in]; omega, ?_⟩
      rw [ek, ek1, jk12, ji_mul, am_I_sis, va_up_at, am_I_sin (by omega : (91 : Nat) ≠ 87), f0.2.2.2.1 91 (by omega), rq.2.1, rq'.2.1, ji_sub, ji_mul, ji_mul, ji_mul, ji_add, ji_mul, ji_add]
      refine k _ _ _ ((f0.tr (kw.si (by omega))).tr (kw.si (by omega))) (by rw [am_I_sis, va_up_at]) (by rw [am_I_sis, va_up_no _ _ (by decide), am_I_sis, va_up_at]) ⟨j, q, hat, Or.inr ⟨q', hq', by omega, ?_, rfl⟩⟩
      unfold exc ovr
      rw [Int.sub_zero, Int.mul_comm (12 * (q'.2.1 - q.2.1)) q.2.2, ← Int.mul_assoc]
    have mid : am_EI m_Ref_heightAt 0 0 130 [.ref 87, .int (ji p), .int (ji t), .int (ji (p * 16 + j)), .int (ji (q'.2.1 - q.2.1)), .int (ji (6 * (t - q.2.1))), .int (ji (6 * (t - q.2.1) % (q'.2.1 - q.2.1))), .int (ji (6 * (t - q.2.1) / (q'.2.1 - q.2.1))), .float 0, .float 0] [.int (ji (twA (6 * (t - q.2.1) / (q'.2.1 - q.2.1))))] (am_si (am_si h 87 26 (ji q.2.2)) 87 27 1) (am_qw Q) := by
      have te := twB_eq (6 * (t - q.2.1) / (q'.2.1 - q.2.1)) pt
      refine sg_Ref_heightAt_130 87 _ _ _ _ _ _ _ _ _ _ ?_
      rw [jk0, jk1, jk3, jk4, jk5, ji_eq, ji_eq, ji_eq, ji_eq]
      have l1 : 6 * (t - q.2.1) / (q'.2.1 - q.2.1) = 0 ∨ 6 * (t - q.2.1) / (q'.2.1 - q.2.1) = 5 → twB (6 * (t - q.2.1) / (q'.2.1 - q.2.1)) = 1 := fun c => by rw [te, if_pos c]
      have l2 : 6 * (t - q.2.1) / (q'.2.1 - q.2.1) = 1 ∨ 6 * (t - q.2.1) / (q'.2.1 - q.2.1) = 4 → twB (6 * (t - q.2.1) / (q'.2.1 - q.2.1)) = 2 := fun c => by rw [te, if_neg (by omega), if_pos c]
      refine ⟨fun c => sg_Ref_heightAt_143 87 _ _ _ _ _ _ _ _ _ _ ?_, fun c0 => ⟨fun c5 => ⟨fun c => sg_Ref_heightAt_159 87 _ _ _ _ _ _ _ _ _ _ ?_, fun c1 => ⟨fun c4 => ?_, fun c => sg_Ref_heightAt_159 87 _ _ _ _ _ _ _ _ _ _ ?_⟩⟩, fun c => sg_Ref_heightAt_143 87 _ _ _ _ _ _ _ _ _ _ ?_⟩⟩
      · rw [l1 (Or.inl c)] at last
        exact last
      · rw [l2 (Or.inl c)] at last
        exact last
      · rw [te, if_neg (by omega), if_neg (by omega)] at last
        exact last
      · rw [l2 (Or.inr c)] at last
        exact last
      · rw [l1 (Or.inr c)] at last
        exact last
    unfold twA at mid
    rw [jk0, jk1, jk2, jk3, jk4, ji_eq, ji_eq, ji_eq, ji_eq, ji_eq]
    refine ⟨fun c0 => ⟨fun c1 => ⟨fun c2 => ⟨fun c3 => ⟨fun c4 => ?_, fun c4 => ?_⟩, fun c3 => ?_⟩, fun c2 => ?_⟩, fun c1 => ?_⟩, fun c0 => ?_⟩
    · rw [if_neg c0, if_neg c1, if_neg c2, if_neg c3, if_neg c4] at mid
      exact mid
    · rw [if_neg c0, if_neg c1, if_neg c2, if_neg c3, if_pos c4] at mid
      exact mid
    · rw [if_neg c0, if_neg c1, if_neg c2, if_pos c3] at mid
      exact mid
    · rw [if_neg c0, if_neg c1, if_pos c2] at mid
      exact mid
    · rw [if_neg c0, if_pos c1] at mid
      exact mid
    · rw [if_pos c0] at mid
      exact mid
  · rw [ji_eq] at c
    exact k _ q.2.2 1 f0 (by rw [am_I_sis, va_up_no _ _ (by decide), am_I_sis, va_up_at]) (by rw [am_I_sis, va_up_at]; rfl) ⟨j, q, hat, Or.inl ⟨c, rfl, rfl⟩⟩
theorem hV_bd {P : List Tn} {t A B : Int} (g : gW P) (v : hV P t A B) : (-500000000 ≤ A ∧ A ≤ 500000000) ∧ (1 ≤ B ∧ B ≤ 9600) := by
  obtain ⟨j, p, hat, ⟨-, rfl, rfl⟩ | ⟨q, hq, hlt, rfl, rfl⟩⟩ := v
  · have := g.1.2.2 p (List.mem_of_getElem? hat.1)
    omega
  · have tw := g.1.2.1 j p q hat.1 hq
    have tw1 := tw.1
    exact ⟨exc_bd tw ⟨hat.2.1, hat.2.2 q hq⟩ (by omega), by omega⟩
theorem exc_lin (p q : Tn) (t x : Int) : exc p q t x = exc p q t 0 - x * (12 * (q.2.1 - p.2.1)) := by
  unfold exc
  rw [Int.sub_zero, Int.sub_mul, Int.sub_mul, Int.mul_assoc x 12]
  omega
theorem exc_at (p q : Tn) (x : Int) : exc p q p.2.1 x = (p.2.2 - x) * (12 * (q.2.1 - p.2.1)) := by
  unfold exc ovr
  rw [Int.sub_self, Int.mul_zero, Int.zero_ediv, Int.zero_emod]
  show _ + _ * (0 * _ + 1 * 0) = _
  rw [Int.zero_mul, Int.mul_zero, Int.add_zero, Int.mul_zero, Int.add_zero, Int.mul_assoc]
/-- which side of x the height stands on, by the reference's two numbers -/
theorem hV_on {P : List Tn} {t A B x side : Int} (g : gW P) (ht : ptIn P t) (v : hV P t A B) : onP side P x t ↔ sdOn side (A - x * B) = true := by
  obtain ⟨j, p, hat, hc⟩ := v
  have lastm : P[j + 1]? = none → t = p.2.1 := by
    intro e
    have e1 := List.getElem?_eq_none_iff.mp e
    have e3 := (List.getElem?_eq_some_iff.mp hat.1).1
    have e2 : ptM P ((P.length : Int) - 1) = p.2.1 := by
      rw [show (P.length : Int) - 1 = (j : Int) by omega]
      exact ptM_at hat.1
    have := ht.2.2
    have := hat.2.1
    omega
  have sgn : ∀ (y D : Int), 0 < D → (sdOn side (y * D) = true ↔ sdOn side y = true) := by
    intro y D hD
    have p1 : 0 ≤ y * D ↔ 0 ≤ y := ⟨fun c => by
      by_cases c2 : 0 ≤ y
      · exact c2
      · have := Int.mul_neg_of_neg_of_pos (by omega : y < 0) hD
        omega, fun c => Int.mul_nonneg c (Int.le_of_lt hD)⟩
    have p2 : y * D ≤ 0 ↔ y ≤ 0 := ⟨fun c => by
      by_cases c2 : y ≤ 0
      · exact c2
      · have := Int.mul_pos (by omega : 0 < y) hD
        omega, fun c => Int.mul_nonpos_of_nonpos_of_nonneg c (Int.le_of_lt hD)⟩
    unfold sdOn
    by_cases s0 : side = 0
    · rw [if_pos s0, if_pos s0, decide_eq_true_iff, decide_eq_true_iff, p1]
    · rw [if_neg s0, if_neg s0]
      by_cases s1 : side = 1
      · rw [if_pos s1, if_pos s1, decide_eq_true_iff, decide_eq_true_iff, Int.not_le.symm, Int.not_le.symm, p1]
      · rw [if_neg s1, if_neg s1, decide_eq_true_iff, decide_eq_true_iff, p2]
  have key : onP side P x t ↔ ((∃ q, P[j + 1]? = some q ∧ sdOn side (exc p q t x) = true) ∨ (P[j + 1]? = none ∧ sdOn side (p.2.2 - x) = true)) := by
    constructor
    · rintro ⟨j', p', hp', ⟨q, hq, y1, y2, y3⟩ | ⟨hn, y2, y3⟩⟩
      · obtain ⟨rfl, rfl⟩ := at1_u g.1 hat ⟨hp', y1, fun q' hq' => by rw [hq] at hq'; cases hq'; exact y2⟩
        exact Or.inl ⟨q, hq, y3⟩
      · obtain ⟨rfl, rfl⟩ := at1_u g.1 hat ⟨hp', by omega, fun q' hq' => by rw [hn] at hq'; cases hq'⟩
        exact Or.inr ⟨hn, y3⟩
    · rintro (⟨q, hq, y⟩ | ⟨hn, y⟩)
      · exact ⟨j, p, hat.1, Or.inl ⟨q, hq, hat.2.1, hat.2.2 q hq, y⟩⟩
      · exact ⟨j, p, hat.1, Or.inr ⟨hn, lastm hn, y⟩⟩
  rw [key]
  rcases hc with ⟨e1, e2, e3⟩ | ⟨q, hq, hlt, e2, e3⟩
  · rw [e2, e3, Int.mul_one]
    constructor
    · rintro (⟨q, hq, y⟩ | ⟨-, y⟩)
      · have tw := (g.1.2.1 j p q hat.1 hq).1
        rw [e1, exc_at] at y
        exact (sgn _ _ (by omega)).mp y
      · exact y
    · intro y
      cases e : P[j + 1]? with
      | none => exact Or.inr ⟨rfl, y⟩
      | some q =>
        have tw := (g.1.2.1 j p q hat.1 e).1
        refine Or.inl ⟨q, rfl, ?_⟩
        rw [e1, exc_at]
        exact (sgn _ _ (by omega)).mpr y
  · rw [e2, e3, ← exc_lin]
    constructor
    · rintro (⟨q', hq', y⟩ | ⟨hn, -⟩)
      · rw [hq] at hq'
        cases hq'
        exact y
      · rw [hq] at hn
        cases hn
    · intro y
      exact Or.inl ⟨q, hq, y⟩
theorem mulx {x B : Int} (hx : -10000 ≤ x ∧ x ≤ 10000) (hB : 1 ≤ B ∧ B ≤ 9600) : -96000000 ≤ x * B ∧ x * B ≤ 96000000 := by
  have a : x * B ≤ 10000 * B := Int.mul_le_mul_of_nonneg_right hx.2 (by omega)
  have b : -10000 * B ≤ x * B := Int.mul_le_mul_of_nonneg_right hx.1 (by omega)
  omega
theorem s_Ref_isAt {h : am_H} {p : Nat} {P : List Tn} {t x : Int} {Q : Int32 → am_H → Prop} (m : rfF h) (r : rpA h p P) (g : gW P) (hp : p < 8) (ht : ptIn P t) (hx : -10000 ≤ x ∧ x ≤ 10000) (k1 : onP 0 P x t → ∀ h', kw h h' 26 28 → Q 1 h') (k0 : ¬ onP 0 P x t → ∀ h', kw h h' 26 28 → Q 0 h') : am_Ei m_Ref_isAt 0 0 [.ref 87, .int (ji p), .int (ji t), .int (ji x)] h Q := by
  refine ev_Ref_isAt 87 (ji p) (ji t) (ji x) h Q ⟨m.1, s_Ref_heightAt m r g hp ht (fun h1 A B f1 eA eB v => ⟨(m.kw f1).1, ?_⟩)⟩
  have hb := hV_bd g v
  have mb := mulx hx hb.2
  have on := hV_on (x := x) (side := 0) g ht v
  rw [sd_0] at on
  rw [eA, eB, ji_mul, ji_lt]
  exact ⟨fun c => k0 (fun q => by have := on.mp q; omega) h1 f1, fun c => k1 (on.mpr (by omega)) h1 f1⟩
theorem s_Ref_isUnder {h : am_H} {p : Nat} {P : List Tn} {t x : Int} {Q : Int32 → am_H → Prop} (m : rfF h) (r : rpA h p P) (g : gW P) (hp : p < 8) (ht : ptIn P t) (hx : -10000 ≤ x ∧ x ≤ 10000) (k1 : onP 2 P x t → ∀ h', kw h h' 26 28 → Q 1 h') (k0 : ¬ onP 2 P x t → ∀ h', kw h h' 26 28 → Q 0 h') : am_Ei m_Ref_isUnder 0 0 [.ref 87, .int (ji p), .int (ji t), .int (ji x)] h Q := by
  refine ev_Ref_isUnder 87 (ji p) (ji t) (ji x) h Q ⟨m.1, s_Ref_heightAt m r g hp ht (fun h1 A B f1 eA eB v => ⟨(m.kw f1).1, ?_⟩)⟩
  have hb := hV_bd g v
  have mb := mulx hx hb.2
  have on := hV_on (x := x) (side := 2) g ht v
  rw [sd_2] at on
  rw [eA, eB, ji_mul, ji_lt]
  exact ⟨fun c => k0 (fun q => by have := on.mp q; omega) h1 f1, fun c => k1 (on.mpr (by omega)) h1 f1⟩
theorem s_Ref_isNearHigh {h : am_H} {p : Nat} {P : List Tn} {t b a : Int} {Q : Int32 → am_H → Prop} (m : rfF h) (r : rpA h p P) (g : gW P) (hp : p < 8) (ht : 0 ≤ t ∧ t ≤ 20000) (hb : 0 ≤ b ∧ b ≤ 9999) (ha : 0 ≤ a ∧ a ≤ 9999) (k1 : nearH P b a t → Q 1 h) (k0 : ¬ nearH P b a t → Q 0 h) : am_Ei m_Ref_isNearHigh 0 0 [.ref 87, .int (ji p), .int (ji t), .int (ji b), .int (ji a)] h Q := by
  have h16 := g.2.1
  have loop : ∀ (n i : Nat) (v : Bool), i + n = P.length → (v = true ↔ nearH (P.take i) b a t) → am_EI m_Ref_isNearHigh 0 0 6 [.ref 87, .int (ji p), .int (ji t), .int (ji b), .int (ji a), .int (bi v), .int (ji i), .float 0] [] h (am_qi Q) := by
    intro n
    induction n with
    | zero =>
      intro i v hi hv
      rw [List.take_of_length_le (by omega)] at hv
      refine sg_Ref_isNearHigh_6 87 _ _ _ _ _ _ h _ ⟨m.1, 89, m.p6, by rw [m.t6], by rw [m.t6, ji_in]; omega, ?_⟩
      rw [ji_tn, Int.toNat_natCast, r.1, ji_le]
      refine ⟨fun _ => ⟨bi_01 v, ?_⟩, fun c => absurd (by omega) c⟩
      cases e : v
      · exact k0 (fun q => by rw [hv.mpr q] at e; cases e)
      · exact k1 (hv.mp e)
    | succ n ih =>
      intro i v hi hv
      obtain ⟨q, hq⟩ : ∃ q, P[i]? = some q := ⟨_, List.getElem?_eq_getElem (by omega)⟩
      have rq := r.2 i q hq
      have bq := g.mem (List.mem_of_getElem? hq)
      have up : nearH (P.take (i + 1)) b a t ↔ (nearH (P.take i) b a t ∨ (q.1 = true ∧ q.2.1 - b ≤ t ∧ t ≤ q.2.1 + a)) := by
        unfold nearH
        rw [take_snoc hq]
        constructor
        · rintro ⟨z, z1, z2⟩
          rcases List.mem_append.mp z1 with y | y
          · exact Or.inl ⟨z, y, z2⟩
          · simp at y
            subst y
            exact Or.inr z2
        · rintro (⟨z, z1, z2⟩ | z)
          · exact ⟨z, List.mem_append.mpr (Or.inl z1), z2⟩
          · exact ⟨q, List.mem_append.mpr (Or.inr (by simp)), z⟩
      have go : ∀ (v' : Bool), (v' = true ↔ (nearH (P.take i) b a t ∨ (q.1 = true ∧ q.2.1 - b ≤ t ∧ t ≤ q.2.1 + a))) → am_EI m_Ref_isNearHigh 0 0 6 [.ref 87, .int (ji p), .int (ji t), .int (ji b), .int (ji a), .int (bi v'), .int (ji (i + 1)), .float 0] [] h (am_qi Q) := fun v' hv' => ih (i + 1) v' (by omega) (hv'.trans up.symm)
      refine sg_Ref_isNearHigh_6 87 _ _ _ _ _ _ h _ ⟨m.1, 89, m.p6, by rw [m.t6], by rw [m.t6, ji_in]; omega, ?_⟩
      rw [ji_tn, Int.toNat_natCast, r.1, ji_le, bi_0, jk1, ji_add, jk16, ji_mul, ji_add]
      have ek : (ji ((p : Int) * 16 + (i : Int))).toNatClampNeg = p * 16 + i := by
        rw [ji_tn]
        omega
      refine ⟨fun c => absurd c (by omega), fun _ => ⟨fun c => ?_, fun c => ⟨92, m.p9, by rw [m.t9], by rw [m.t9, ji_in]; omega, ?_⟩⟩⟩
      · have vt : v = true := by
          cases e : v
          · exact absurd e c
          · rfl
        exact go true ⟨fun _ => Or.inl (hv.mp vt), fun _ => rfl⟩
      · have nh : ¬ nearH (P.take i) b a t := fun q => by rw [hv.mpr q] at c; cases c
        rw [ek, rq.2.2, bi_0]
        refine ⟨fun c1 => go false ⟨fun q => (by cases q), fun q => ?_⟩, fun c1 => ⟨90, m.p7, by rw [m.t7], by rw [m.t7, ji_in]; omega, ?_⟩⟩
        · rcases q with q | q
          · exact absurd q nh
          · rw [c1] at q
            cases q.1
        · have qt : q.1 = true := by
            cases e : q.1
            · exact absurd e c1
            · rfl
          rw [rq.1, ji_sub, ji_add, ji_lt, ji_lt]
          refine ⟨fun c2 => go false ⟨fun q => (by cases q), fun q => ?_⟩, fun c2 => ⟨fun c3 => go false ⟨fun q => (by cases q), fun q => ?_⟩, fun c3 => go true ⟨fun _ => Or.inr ⟨qt, by omega, by omega⟩, fun _ => rfl⟩⟩⟩
          · rcases q with q | q
            · exact absurd q nh
            · omega
          · rcases q with q | q
            · exact absurd q nh
            · omega
  refine ev_Ref_isNearHigh 87 _ _ _ _ h Q ?_
  have := loop P.length 0 false (by omega) ⟨fun q => (by cases q), fun ⟨z, z1, _⟩ => by simp at z1⟩
  exact this
