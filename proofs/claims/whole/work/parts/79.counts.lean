/-! how many spans there are -/
theorem spOk_two {l : List (Int × Int)} (h : spOk l) {q q' : Int × Int} (hq : q ∈ l) (hq' : q' ∈ l) : q = q' ∨ q.2 + 1 < q'.1 ∨ q'.2 + 1 < q.1 := by
  obtain ⟨i, hi⟩ := List.getElem?_of_mem hq
  obtain ⟨j, hj⟩ := List.getElem?_of_mem hq'
  obtain ⟨hi1, hi2⟩ := List.getElem?_eq_some_iff.mp hi
  obtain ⟨hj1, hj2⟩ := List.getElem?_eq_some_iff.mp hj
  have pw := List.pairwise_iff_getElem.mp h.1
  rcases Nat.lt_trichotomy i j with c | c | c
  · have := pw i j hi1 hj1 c
    rw [hi2, hj2] at this
    exact Or.inr (Or.inl this)
  · subst c
    exact Or.inl (hi2.symm.trans hj2)
  · have := pw j i hj1 hi1 c
    rw [hi2, hj2] at this
    exact Or.inr (Or.inr this)
theorem sp_up {l : List (Int × Int)} (h : spOk l) {q : Int × Int} (hq : q ∈ l) {t v : Int} (h1 : q.1 ≤ t) (h2 : t ≤ q.2) (hm : ∀ u, t ≤ u → u ≤ v → spM l u) : v ≤ q.2 := by
  refine Classical.byContradiction (fun c => ?_)
  obtain ⟨q', hq', a, b⟩ := hm (q.2 + 1) (by omega) (by omega)
  rcases spOk_two h hq hq' with e | e | e
  · subst e
    omega
  · omega
  · have := h.2 q hq
    omega
theorem sp_dn {l : List (Int × Int)} (h : spOk l) {q : Int × Int} (hq : q ∈ l) {t v : Int} (h1 : q.1 ≤ t) (h2 : t ≤ q.2) (hm : ∀ u, v ≤ u → u ≤ t → spM l u) : q.1 ≤ v := by
  refine Classical.byContradiction (fun c => ?_)
  obtain ⟨q', hq', a, b⟩ := hm (q.1 - 1) (by omega) (by omega)
  rcases spOk_two h hq hq' with e | e | e
  · subst e
    omega
  · have := h.2 q hq
    omega
  · omega
theorem sp_cnt : ∀ (l : List (Int × Int)) (S : List Int), spOk l → (∀ q ∈ l, ∃ s ∈ S, q.1 ≤ s ∧ s ≤ q.2) → l.length ≤ S.length
  | [], _, _, _ => by simp
  | q :: l, S, h, hs => by
    obtain ⟨h1, h2, h3⟩ := spOk_cons h
    obtain ⟨s, s1, s2, s3⟩ := hs q (by simp)
    have ih := sp_cnt l (S.erase s) h2 (fun p hp => by
      obtain ⟨u, u1, u2, u3⟩ := hs p (by simp [hp])
      have := h3 p hp
      refine ⟨u, (List.mem_erase_of_ne (by omega)).mpr u1, u2, u3⟩)
    have hl := List.length_erase_of_mem s1
    have hp : 0 < S.length := List.length_pos_of_mem s1
    simp
    omega
theorem exc_end {p q : Tn} {t x : Int} (w : tnW p q) (h0 : p.2.1 ≤ t) (h1 : t < q.2.1) : (q.1 = true → exc p q t x ≤ 12 * (q.2.1 - p.2.1) * (q.2.2 - x)) ∧ (q.1 = false → 12 * (q.2.1 - p.2.1) * (q.2.2 - x) ≤ exc p q t x) := by
  have hD := w.1.1
  have o := ovr_bd (D := q.2.1 - p.2.1) (s := 6 * (t - p.2.1)) (by omega) (by omega) (by omega)
  obtain ⟨-, -, -, w4⟩ := w
  have e : 12 * (q.2.1 - p.2.1) * (q.2.2 - x) = (p.2.2 - x) * 12 * (q.2.1 - p.2.1) + (q.2.2 - p.2.2) * (12 * (q.2.1 - p.2.1)) := by
    rw [show (p.2.2 - x) * 12 * (q.2.1 - p.2.1) = (p.2.2 - x) * (12 * (q.2.1 - p.2.1)) from Int.mul_assoc _ _ _, ← Int.add_mul, Int.mul_comm]
    congr 1
    omega
  unfold exc
  constructor
  · intro c
    rw [c, if_pos rfl] at w4
    have := Int.mul_le_mul_of_nonneg_left o.2 (by omega : 0 ≤ q.2.2 - p.2.2)
    omega
  · intro c
    rw [c] at w4
    simp at w4
    have := Int.mul_le_mul_of_nonpos_left (by omega : q.2.2 - p.2.2 ≤ 0) o.2
    omega
def sdB (side : Int) (b : Bool) : Prop := (side = 0 ∧ b = true) ∨ (side = 2 ∧ b = false)
theorem sd_0 (e : Int) : sdOn 0 e = true ↔ 0 ≤ e := by simp [sdOn]
theorem sd_2 (e : Int) : sdOn 2 e = true ↔ e ≤ 0 := by simp [sdOn]
theorem on_up {side x t : Int} {b : Bool} {p q : Tn} (hb : sdB side b) (w : tnW p q) (hq : q.1 = b) (h0 : p.2.1 ≤ t) (h1 : t < q.2.1) (hs : sdOn side (exc p q t x) = true) : (∀ u, t ≤ u → u < q.2.1 → sdOn side (exc p q u x) = true) ∧ sdOn side (q.2.2 - x) = true := by
  have hD := w.1.1
  have pos : 0 < 12 * (q.2.1 - p.2.1) := by omega
  have en := exc_end (x := x) w h0 h1
  rcases hb with ⟨rfl, rfl⟩ | ⟨rfl, rfl⟩
  · rw [sd_0] at hs
    refine ⟨fun u a b => ?_, ?_⟩
    · rw [sd_0]
      have := (exc_mono (x := x) w h0 a b).1 hq
      omega
    · rw [← sd_mul pos, sd_0]
      have := en.1 hq
      omega
  · rw [sd_2] at hs
    refine ⟨fun u a b => ?_, ?_⟩
    · rw [sd_2]
      have := (exc_mono (x := x) w h0 a b).2 hq
      omega
    · rw [← sd_mul pos, sd_2]
      have := en.2 hq
      omega
theorem tn_alt {p q : Tn} (w : tnW p q) : p.1 = !q.1 := by
  have w4 := w.2.2.2
  cases e : q.1
  · rw [e] at w4
    simp at w4
    simpa using w4.1
  · rw [e] at w4
    simp at w4
    simpa using w4.1
theorem on_dn {side x t : Int} {b : Bool} {p q : Tn} (hb : sdB side b) (w : tnW p q) (hp : p.1 = b) (h1 : t < q.2.1) (hs : sdOn side (exc p q t x) = true) : ∀ u, p.2.1 ≤ u → u ≤ t → sdOn side (exc p q u x) = true := by
  have al := tn_alt w
  intro u a c
  rcases hb with ⟨rfl, rfl⟩ | ⟨rfl, rfl⟩
  · rw [sd_0] at hs ⊢
    have hq : q.1 = false := by rw [hp] at al; simpa using al.symm
    have := (exc_mono (x := x) w a c h1).2 hq
    omega
  · rw [sd_2] at hs ⊢
    have hq : q.1 = true := by rw [hp] at al; simpa using al.symm
    have := (exc_mono (x := x) w a c h1).1 hq
    omega
theorem on_end {side x : Int} {b : Bool} {p q : Tn} (hb : sdB side b) (w : tnW p q) (hp : p.1 = b) (hs : sdOn side (q.2.2 - x) = true) : ∀ u, p.2.1 ≤ u → u < q.2.1 → sdOn side (exc p q u x) = true := by
  have al := tn_alt w
  have hD := w.1.1
  have pos : 0 < 12 * (q.2.1 - p.2.1) := by omega
  rw [← sd_mul pos] at hs
  intro u a c
  have en := exc_end (x := x) w a c
  rcases hb with ⟨rfl, rfl⟩ | ⟨rfl, rfl⟩
  · rw [sd_0] at hs ⊢
    have hq : q.1 = false := by rw [hp] at al; simpa using al.symm
    have := en.2 hq
    omega
  · rw [sd_2] at hs ⊢
    have hq : q.1 = true := by rw [hp] at al; simpa using al.symm
    have := en.1 hq
    omega
theorem onP_in {side x t : Int} {P : List Tn} {j : Nat} {p q : Tn} (hp : P[j]? = some p) (hq : P[j + 1]? = some q) (h0 : p.2.1 ≤ t) (h1 : t < q.2.1) (hs : sdOn side (exc p q t x) = true) : onP side P x t := ⟨j, p, hp, Or.inl ⟨q, hq, h0, h1, hs⟩⟩
theorem onP_turn {side x : Int} {P : List Tn} (w : ptW P) {j : Nat} {p : Tn} (hp : P[j]? = some p) (hs : sdOn side (p.2.2 - x) = true) : onP side P x p.2.1 := by
  cases hq : P[j + 1]? with
  | none => exact ⟨j, p, hp, Or.inr ⟨hq, rfl, hs⟩⟩
  | some q =>
    have tw := (w.2.1 j p q hp hq).1
    refine onP_in hp hq (Int.le_refl _) (by omega) ?_
    rw [sd_start (by omega)]
    exact hs
def pts (P : List Tn) (b : Bool) : List Int := if P.length = 1 then P.map (fun p => p.2.1) else (P.filter (fun p => p.1 == b)).map (fun p => p.2.1)
theorem pts_mem {P : List Tn} {b : Bool} {p : Tn} (hp : p ∈ P) (hb : p.1 = b) : p.2.1 ∈ pts P b := by
  unfold pts
  split
  · exact List.mem_map.mpr ⟨p, hp, rfl⟩
  · exact List.mem_map.mpr ⟨p, List.mem_filter.mpr ⟨hp, by simp [hb]⟩, rfl⟩
theorem alt_cnt (b : Bool) : ∀ (n : Nat) (P : List Tn), P.length ≤ n → (∀ (i : Nat) (p q : Tn), P[i]? = some p → P[i + 1]? = some q → p.1 = !q.1) → (P.filter (fun p => p.1 == b)).length ≤ (P.length + 1) / 2
  | _, [], _, _ => by simp
  | _, [p], _, _ => by
    simp [List.filter]
    split <;> simp
  | 0, _ :: _ :: _, h, _ => by simp at h
  | n + 1, p :: q :: R, h, ha => by
    have ih := alt_cnt b n R (by simp at h; omega) (fun i u v hu hv => ha (i + 2) u v (by simpa using hu) (by simpa using hv))
    have e := ha 0 p q rfl rfl
    have e2 : ((p :: q :: R).filter (fun p => p.1 == b)).length = (R.filter (fun p => p.1 == b)).length + 1 := by
      cases hq : q.1 <;> cases b <;> simp [hq] at e <;> simp [List.filter, e, hq]
    rw [e2]
    simp
    omega
theorem pts_len {P : List Tn} (w : gW P) (b : Bool) : (pts P b).length ≤ 8 := by
  have h16 := w.2.1
  have c := alt_cnt b P.length P (Nat.le_refl _) (fun i p q hp hq => tn_alt (w.1.2.1 i p q hp hq))
  unfold pts
  split
  · simp
    omega
  · simp
    omega
theorem on_pt {side x t : Int} {b : Bool} {P : List Tn} (w : ptW P) (hb : sdB side b) (h : onP side P x t) : ∃ g ∈ pts P b, (∀ u, t ≤ u → u ≤ g → onP side P x u) ∧ (∀ u, g ≤ u → u ≤ t → onP side P x u) := by
  obtain ⟨j, p, hp, c | c⟩ := h
  · obtain ⟨q, hq, h0, h1, hs⟩ := c
    have tw := w.2.1 j p q hp hq
    have al := tn_alt tw
    by_cases hqb : q.1 = b
    · obtain ⟨u1, u2⟩ := on_up hb tw hqb h0 h1 hs
      refine ⟨q.2.1, pts_mem (List.mem_of_getElem? hq) hqb, fun u a c => ?_, fun u a c => by omega⟩
      by_cases e : u = q.2.1
      · subst e
        exact onP_turn w hq u2
      · exact onP_in hp hq (by omega) (by omega) (u1 u a (by omega))
    · have hpb : p.1 = b := by
        rw [al]
        cases hq1 : q.1 <;> cases b <;> simp_all
      have u1 := on_dn hb tw hpb h1 hs
      exact ⟨p.2.1, pts_mem (List.mem_of_getElem? hp) hpb, fun u a c => by rw [show u = t from by omega]; exact onP_in hp hq h0 h1 hs, fun u a c => onP_in hp hq a (by omega) (u1 u a c)⟩
  · obtain ⟨hn, rfl, hs⟩ := c
    have on1 := onP_turn w hp hs
    by_cases hpb : p.1 = b
    · exact ⟨p.2.1, pts_mem (List.mem_of_getElem? hp) hpb, fun u a c => by rw [show u = p.2.1 from by omega]; exact on1, fun u a c => by rw [show u = p.2.1 from by omega]; exact on1⟩
    · rcases Nat.eq_zero_or_pos j with e | e
      · subst e
        have hl : P.length = 1 := by
          have h1 := (List.getElem?_eq_some_iff.mp hp).1
          have h2 := List.getElem?_eq_none_iff.mp hn
          omega
        refine ⟨p.2.1, ?_, fun u a c => by rw [show u = p.2.1 from by omega]; exact on1, fun u a c => by rw [show u = p.2.1 from by omega]; exact on1⟩
        unfold pts
        rw [if_pos hl]
        exact List.mem_map.mpr ⟨p, List.mem_of_getElem? hp, rfl⟩
      · have hj := (List.getElem?_eq_some_iff.mp hp).1
        obtain ⟨o, ho⟩ : ∃ o, P[j - 1]? = some o := ⟨_, List.getElem?_eq_getElem (by omega)⟩
        have hp' : P[j - 1 + 1]? = some p := by rw [show j - 1 + 1 = j from by omega]; exact hp
        have tw := w.2.1 (j - 1) o p ho hp'
        have al := tn_alt tw
        have hob : o.1 = b := by
          rw [al]
          cases hq1 : p.1 <;> cases b <;> simp_all
        have u1 := on_end hb tw hob hs
        have tw1 := tw.1
        refine ⟨o.2.1, pts_mem (List.mem_of_getElem? ho) hob, fun u a c => by omega, fun u a c => ?_⟩
        by_cases e2 : u = p.2.1
        · subst e2
          exact on1
        · exact onP_in ho hp' a (by omega) (u1 u a (by omega))
theorem on_len {side x : Int} {b : Bool} {P : List Tn} {l : List (Int × Int)} (w : gW P) (hb : sdB side b) (ok : spOk l) (hm : ∀ t, spM l t ↔ onP side P x t) : l.length ≤ 8 := by
  refine Nat.le_trans (sp_cnt l (pts P b) ok (fun q hq => ?_)) (pts_len w b)
  have hqq := ok.2 q hq
  obtain ⟨g, g1, g2, g3⟩ := on_pt (t := q.1) w.1 hb ((hm q.1).mp ⟨q, hq, Int.le_refl _, hqq⟩)
  refine ⟨g, g1, ?_, ?_⟩
  · exact sp_dn ok hq (Int.le_refl _) hqq (fun u a c => (hm u).mpr (g3 u a c))
  · exact sp_up ok hq (Int.le_refl _) hqq (fun u a c => (hm u).mpr (g2 u a c))
