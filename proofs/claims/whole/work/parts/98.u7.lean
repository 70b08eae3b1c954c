/-! what is kept to be taken back: both sides -/
def As_.sw (A : As_) (w : Wd) : As_ := ((A.ld, w), A.2)
def As_.pu (A : As_) : As_ := (A.1, ((A.w :: A.ps).take 8, A.sv), A.2.2)
theorem Ok_.mono {K K1 : Nat} {A : As_} (h : Ok_ K A) (hK : K ≤ K1) : Ok_ K1 A := by
  obtain ⟨a, b, c, d, e, f, g⟩ := h
  exact ⟨a, b, fun q => (c q).mono hK (by omega), fun v q => (d v q).mono hK (by omega), fun k v q => (e k v q).mono hK (by omega), f, g⟩
theorem Ok_.sw {K : Nat} {A : As_} {w : Wd} (h : Ok_ K A) (hw : ib_ K (5 * K) 0 w) : Ok_ K (A.sw w) := ⟨h.1, h.2.1, fun _ => hw, h.2.2.2.1, h.2.2.2.2.1, h.2.2.2.2.2⟩
theorem Ok_.pu {K : Nat} {A : As_} (h : Ok_ K A) (e : A.ld = true) : Ok_ K A.pu := by
  refine ⟨h.1, ?_, h.2.2.1, fun v hv => ?_, h.2.2.2.2.1, h.2.2.2.2.2⟩
  · show ((A.w :: A.ps).take 8).length ≤ 8
    rw [List.length_take]
    omega
  · have hv : v ∈ A.w :: A.ps := List.mem_of_mem_take hv
    rcases List.mem_cons.mp hv with q | q
    · rw [q]; exact h.2.2.1 e
    · exact h.2.2.2.1 v q
section KP
variable {A A1 : As_} {hi h h1 : HI} {x : AX} {K G : Nat} {a c : Int32} {w : Wd}
theorem RC.w0 {w1 : Wd} (H : RC A h x) (f : fr_ 0 h h1) (v : vw_ 0 h1 = w1) : RC (A.sw w1) h1 x := by
  have z : ∀ n k, h1 (za n) k = h (za n) k := fun n k => f _ _ (fun j q => by cases q)
  obtain ⟨⟨a1, a2, a3, a4, a5, a6⟩, ⟨p, b1, b2', b3, b4⟩, c, d1, d2, d3, d4⟩ := H
  have hv : ∀ i, i ≠ 0 → vw_ i h1 = vw_ i h := fun i hi9 => V_fr f hi9
  refine ⟨⟨(z _ _).trans a1, fun k hk => ?_, (z _ _).trans a3, (z _ _).trans a4, (z _ _).trans a5, fun _ => v⟩, ⟨p, b1, (z _ _).trans b2', (z _ _).trans b3, fun j v q => (hv _ (fun e => ?_)).trans (b4 j v q)⟩, fun k hk => ⟨(z _ _).trans (c k hk).1, fun v q => (hv _ (fun e => ?_)).trans ((c k hk).2 v q)⟩, (z _ _).trans d1, (z _ _).trans d2, fun k hk => (z _ _).trans (d3 k hk), by_eq (fun k => (z _ _)) d4⟩
  · rw [z]; exact a2 k hk
  · have e := congrArg Fin.val e
    have e : (2 + (p + 7 - j) % 8) % 12 = 0 := e
    have := Nat.mod_lt (p + 7 - j) (show 0 < 8 by decide)
    omega
  · have e := congrArg Fin.val e
    have e : (10 + k) % 12 = 0 := e
    omega
theorem RM.w0 {w1 : Wd} (H : RM A h) (f : fm_ h h1) (v : mw_ h1 = w1) : RM (A.sw w1) h1 := by
  have z : ∀ n k, n ≠ 196 → h1 (za n) k = h (za n) k := fun n k q1 => f _ _ (fun e => q1 (by
    have e : (Sum.inr (Sum.inr n) : AA) = Sum.inr (Sum.inr 196) := e
    injection e with e
    injection e))
  obtain ⟨⟨a1, a2, a3, a4, a5, a6⟩, ⟨b1, b2'⟩, c, d1, d2⟩ := H
  have hr : ∀ n o, n ≠ 196 → rw_ h1 (za n) o = rw_ h (za n) o := fun n o q1 => by
    unfold rw_
    congr 1
    funext k
    rw [z n _ q1]
  refine ⟨⟨(z _ _ (by omega)).trans a1, fun k hk => ?_, (z _ _ (by omega)).trans a3, (z _ _ (by omega)).trans a4, (z _ _ (by omega)).trans a5, fun _ => v⟩, ⟨(z _ _ (by omega)).trans b1, fun j v q => (hr _ _ (by omega)).trans (b2' j v q)⟩, fun k hk => ⟨(z _ _ (by omega)).trans (c k hk).1, fun v q => (hr _ _ (by omega)).trans ((c k hk).2 v q)⟩, (z _ _ (by omega)).trans d1, fun k hk => (z _ _ (by omega)).trans (d2 k hk)⟩
  rw [z _ _ (by omega)]
  exact a2 k hk
theorem wAt {p : Nat} (hp : p < 8) : sh_worldAt 8 2 (nI p) = some (Fin.ofNat 12 (2 + p)) := by
  unfold sh_worldAt
  rw [nI_clamp (by omega), if_pos ⟨nI_pos' (by omega), hp⟩]
theorem fz12 {m n : Nat} (hm : m < 12) (hn : n < 12) : (Fin.ofNat 12 m = Fin.ofNat 12 n) ↔ m = n := by
  constructor
  · intro e
    have e := congrArg Fin.val e
    have e : m % 12 = n % 12 := e
    omega
  · intro e; rw [e]
theorem tk8 {l : List Wd} {v : Wd} {j : Nat} (h : (l.take 8)[j]? = some v) : j < 8 ∧ l[j]? = some v := by
  rw [List.getElem?_take] at h
  by_cases c : j < 8
  · rw [if_pos c] at h; exact ⟨c, h⟩
  · rw [if_neg c] at h; cases h
theorem C_keep (hO : Ok_ K A) (e : A.ld = true) (H : RC A hi x) : ∃ h1, sh_X1_keep 0 hi = some h1 ∧ RC A.pu h1 x ∧ vw_ 0 h1 = A.w ∧ fC_ hi h1 := by
  obtain ⟨⟨a1, a2, a3, a4, a5, a6⟩, ⟨p, b1, b2', b3, b4⟩, c, d1, d2, d3, d4⟩ := H
  have hI := hO.ib e
  have hl := hO.2.1
  unfold sh_X1_keep
  rw [b2', wAt b1]
  obtain ⟨h3, e3, v3, f3⟩ := C_copyV (i := Fin.ofNat 12 (2 + p)) (j := 0) (h0 := hi) (fun q => by
    have := (fz12 (m := 2 + p) (n := 0) (by omega) (by omega)).mp q
    omega) (by rw [a6 e]; exact in01 hI.2.2.1.1.2.2.2.1)
  rw [a6 e] at v3
  have z : ∀ n k, h3 (za n) k = hi (za n) k := fun n k => f3 _ _ (fun j q => by cases q)
  show ∃ h1, ((sh_X8_copyFrom (Fin.ofNat 12 (2 + p)) 0 hi).bind fun h3 => some (am_u (am_u h3 (za 41) 3 (((h3 (za 41) 3) + (1 : Int32)) - ((h3 (za 41) 3) + (1 : Int32)) / (8 : Int32) * (8 : Int32))) (za 41) 4 (if (8 : Int32) < (h3 (za 41) 4) + (1 : Int32) then (8 : Int32) else (h3 (za 41) 4) + (1 : Int32)))) = some h1 ∧ _
  rw [e3, bs, z, z, b2', b3, nI_1, nI_1, show (8 : Int32) = nI 8 from rfl, pk_rem (by omega) (by omega) (by omega)]
  have ec : (if nI 8 < nI (A.ps.length + 1) then nI 8 else nI (A.ps.length + 1)) = nI (min 8 (A.ps.length + 1)) := by
    by_cases q : 8 < A.ps.length + 1
    · rw [if_pos (nI_lt q (by omega)), Nat.min_eq_left (by omega)]
    · rw [if_neg (fun z => q ((nI_ltI (by omega) (by omega)).mp z)), Nat.min_eq_right (by omega)]
  rw [ec]
  generalize hh : am_u (am_u h3 (za 41) 3 (nI ((p + 1) % 8))) (za 41) 4 (nI (min 8 (A.ps.length + 1))) = h5
  have z5 : ∀ n k, n ≠ 41 → h5 (za n) k = hi (za n) k := fun n k hn => by
    have hne : za n ≠ za 41 := fun q => hn (by
      have q : (Sum.inr (Sum.inr n) : AA) = Sum.inr (Sum.inr 41) := q
      injection q with q
      injection q)
    rw [← hh, au_a hne, au_a hne, z]
  have w5 : ∀ i, vw_ i h5 = vw_ i h3 := fun i => V_f (fun j k => by rw [← hh, au_a (fun q => by cases q), au_a (fun q => by cases q)])
  have wo : ∀ i, i ≠ Fin.ofNat 12 (2 + p) → vw_ i h5 = vw_ i hi := fun i hne => (w5 i).trans (V_fr f3 hne)
  have w0 : vw_ 0 h5 = A.w := (wo 0 (fun q => by
    have := (fz12 (m := 0) (n := 2 + p) (by omega) (by omega)).mp q
    omega)).trans (a6 e)
  refine ⟨h5, rfl, ⟨⟨(z5 _ _ (by omega)).trans a1, fun k hk => ?_, (z5 _ _ (by omega)).trans a3, (z5 _ _ (by omega)).trans a4, (z5 _ _ (by omega)).trans a5, fun _ => w0⟩, ⟨(p + 1) % 8, Nat.mod_lt _ (by decide), ?_, ?_, fun j v q => ?_⟩, fun k hk => ⟨(z5 _ _ (by omega)).trans (c k hk).1, fun v q => (wo _ (fun q2 => ?_)).trans ((c k hk).2 v q)⟩, (z5 _ _ (by omega)).trans d1, (z5 _ _ (by omega)).trans d2, fun k hk => (z5 _ _ (by omega)).trans (d3 k hk), by_eq (fun k => (z5 _ _ (by omega))) d4⟩, w0, fun a k m => ?_⟩
  · rw [z5 _ _ (by omega)]; exact a2 k hk
  · rw [← hh, au_k (by omega), au_]
  · rw [← hh, au_]
    show _ = nI ((A.w :: A.ps).take 8).length
    rw [List.length_take, List.length_cons]
  · obtain ⟨j8, q⟩ := tk8 (l := A.w :: A.ps) q
    cases j with
    | zero =>
      have q : some A.w = some v := q
      cases q
      rw [show ((p + 1) % 8 + 7 - 0) % 8 = p by omega, w5, v3]
    | succ j =>
      have q : A.ps[j]? = some v := q
      have ej : ((p + 1) % 8 + 7 - (j + 1)) % 8 = (p + 7 - j) % 8 := by omega
      rw [ej, wo _ (fun q2 => by
        have := (fz12 (m := 2 + (p + 7 - j) % 8) (n := 2 + p) (by omega) (by omega)).mp q2
        omega)]
      exact b4 j v q
  · have := (fz12 (m := 10 + k) (n := 2 + p) (by omega) (by omega)).mp q2
    omega
  · rw [← hh, au_a (fun q => by
      rcases m with m | m
      · exact md_za (n := 41) (by omega) (q ▸ m)
      · rw [q] at m; cases m), au_a (fun q => by
      rcases m with m | m
      · exact md_za (n := 41) (by omega) (q ▸ m)
      · rw [q] at m; cases m)]
    exact fr_fC f3 a k m
/-! the model remembers -/
theorem M_shf2 : ∀ (f k F : Nat) (h0 h : HI), k + f = 2968 → f < F → (∀ i, i < k → h (za 198) i = h0 (za 198) (i + 424)) → (∀ i, k ≤ i → h (za 198) i = h0 (za 198) i) → (∀ a i, a ≠ za 198 → h a i = h0 a i) → ∃ h2, sh_X10_remembers_11 G F (nI k) h = sh_X10_remembers_50 G (am_u h2 (za 195) 7 ((h2 (za 195) 7) - (1 : Int32))) ∧ (∀ i, i < 2968 → h2 (za 198) i = h0 (za 198) (i + 424)) ∧ (∀ a i, a ≠ za 198 → h2 a i = h0 a i) := fun f => by
  induction f with
  | zero =>
    intro k F h0 h hk hF h1 h2 h3
    obtain ⟨F, rfl⟩ : ∃ F2, F = F2 + 1 := ⟨F - 1, by omega⟩
    obtain rfl : k = 2968 := by omega
    refine ⟨h, ?_, h1, h3⟩
    show sh_X10_remembers_11_b G (sh_X10_remembers_11 G F) (nI 2968) h = _
    unfold sh_X10_remembers_11_b
    rw [if_pos (show (2968 : Int32) ≤ nI 2968 by decide)]
  | succ f ih =>
    intro k F h0 h hk hF h1 h2 h3
    obtain ⟨F, rfl⟩ : ∃ F2, F = F2 + 1 := ⟨F - 1, by omega⟩
    have e424 : nI k + (424 : Int32) = nI (k + 424) := nI_add k 424
    obtain ⟨h5, e5, g1, g2⟩ := ih (k + 1) F h0 (am_u h (za 198) k (h (za 198) (k + 424))) (by omega) (by omega) (fun i hi9 => by
      by_cases c : i = k
      · subst c; rw [au_, h2 _ (by omega)]
      · rw [au_k c]; exact h1 i (by omega)) (fun i hi9 => by rw [au_k (by omega)]; exact h2 i (by omega)) (fun a i ha => by rw [au_a ha]; exact h3 a i ha)
    refine ⟨h5, ?_, g1, g2⟩
    rw [← e5]
    show sh_X10_remembers_11_b G (sh_X10_remembers_11 G F) (nI k) h = _
    unfold sh_X10_remembers_11_b
    rw [if_neg (show ¬ (2968 : Int32) ≤ nI k from nI_ge (b := 2968) (by omega) (by omega)), e424, nI_clamp (by omega), nI_clamp (by omega), if_pos ⟨nI_pos' (by omega), by omega⟩, if_pos ⟨nI_pos' (by omega), by omega⟩, bs, nI_1]
theorem M_50 {n : Nat} (hn : n < 8) (e7 : h (za 195) 7 = nI n) : ∃ h1, sh_X10_remembers_50 G h = some h1 ∧ h1 (za 195) 7 = nI (n + 1) ∧ (∀ k, k < 424 → h1 (za 198) (424 * n + k) = h (za 196) k) ∧ (∀ i, i < 424 * n → h1 (za 198) i = h (za 198) i) ∧ (∀ a i, a ≠ za 198 → ¬ (a = za 195 ∧ i = 7) → h1 a i = h a i) := by
  unfold sh_X10_remembers_50 sh_lays
  have e9 : nI n * (424 : Int32) = nI (424 * n) := by rw [show (424 : Int32) = nI 424 from rfl, pk_mul, Nat.mul_comm]
  rw [e7, e9, nI_clamp (by omega), if_pos ⟨by decide, nI_pos' (by omega), by decide, by omega⟩, bs]
  have q : ∀ c k, c ≠ za 198 → sh_laysN (za 196) (za 198) (0 : Int32).toNatClampNeg (424 * n) 424 h c k = h c k := fun c k hc => if_neg (fun z => hc z.1)
  refine ⟨_, rfl, ?_, fun k hk => ?_, fun i hi9 => ?_, fun a i h1 h2 => ?_⟩
  · rw [au_, q _ _ (fun z => by cases z), e7, nI_1]
  · rw [au_a (fun z => by cases z)]
    unfold sh_laysN
    rw [if_pos ⟨rfl, by omega, by omega⟩]
    congr 1
    show (0 : Int32).toNatClampNeg + _ = k
    rw [show (0 : Int32).toNatClampNeg = 0 from rfl]
    omega
  · rw [au_a (fun z => by cases z)]
    exact if_neg (fun z => by omega)
  · by_cases c : a = za 195
    · subst c
      rw [au_k (fun z => h2 ⟨rfl, z⟩), q _ _ (fun z => by cases z)]
    · rw [au_a c, q _ _ h1]
theorem rw_e {h h1 : HI} {b c : AA} {o o1 : Nat} (e : ∀ k, k < 424 → h1 b (o1 + k) = h c (o + k)) : rw_ h1 b o1 = rw_ h c o := by
  unfold rw_
  congr 1
  funext k
  by_cases q : k < 424 ∧ k ≠ 25
  · rw [if_pos q, if_pos q, e k q.1]
  · rw [if_neg q, if_neg q]
theorem rw_mw : rw_ h (za 196) 0 = mw_ h := by
  unfold rw_ mw_ rm_
  congr 1
  funext k
  rw [Nat.zero_add]
theorem M_rem (hG : 3000 < G) (hO : Ok_ K A) (e : A.ld = true) (H : RM A h) : ∃ h1, sh_X10_remembers G h = some h1 ∧ RM A.pu h1 ∧ mw_ h1 = A.w ∧ fM_ h h1 ∧ h1 (za 195) 0 = h (za 195) 0 := by
  obtain ⟨⟨a1, a2, a3, a4, a5, a6⟩, ⟨b1, b2'⟩, c, d1, d2⟩ := H
  have hl := hO.2.1
  have hp : A.pu.ps.length = min 8 (A.ps.length + 1) := by
    show ((A.w :: A.ps).take 8).length = _
    rw [List.length_take, List.length_cons]
  have main : ∀ (m : Nat) (h2 h1 : HI), m < 8 → m + 1 = min 8 (A.ps.length + 1) → (∀ a i, a ≠ za 198 → ¬ (a = za 195 ∧ i = 7) → h2 a i = h a i) → (∀ j v, j < m → A.ps[j]? = some v → rw_ h2 (za 198) (424 * (m - 1 - j)) = v) → h1 (za 195) 7 = nI (m + 1) → (∀ k, k < 424 → h1 (za 198) (424 * m + k) = h2 (za 196) k) → (∀ i, i < 424 * m → h1 (za 198) i = h2 (za 198) i) → (∀ a i, a ≠ za 198 → ¬ (a = za 195 ∧ i = 7) → h1 a i = h2 a i) → RM A.pu h1 ∧ mw_ h1 = A.w ∧ fM_ h h1 ∧ h1 (za 195) 0 = h (za 195) 0 := fun m h2 h1 hm hml x2 y2 q7 q1 q2 q3 => by
    have z : ∀ a i, a ≠ za 198 → ¬ (a = za 195 ∧ i = 7) → h1 a i = h a i := fun a i u v => (q3 a i u v).trans (x2 a i u v)
    have z5 : ∀ i, i ≠ 7 → h1 (za 195) i = h (za 195) i := fun i hi9 => z _ _ (fun q => by cases q) (fun q => hi9 q.2)
    have z6 : ∀ i, h1 (za 196) i = h (za 196) i := fun i => z _ _ (fun q => by cases q) (fun q => by cases q.1)
    have w1 : mw_ h1 = A.w := (M_o z6).trans (a6 e)
    refine ⟨⟨⟨(z5 _ (by omega)).trans a1, fun k hk => ?_, (z5 _ (by omega)).trans a3, (z5 _ (by omega)).trans a4, (z5 _ (by omega)).trans a5, fun _ => w1⟩, ⟨?_, fun j v q => ?_⟩, fun k hk => ⟨(z _ _ (fun q => by cases q) (fun q => by cases q.1)).trans (c k hk).1, fun v q => ?_⟩, (z5 _ (by omega)).trans d1, fun k hk => (z _ _ (fun q => by cases q) (fun q => by cases q.1)).trans (d2 k hk)⟩, w1, fun a k cm => ?_, z5 0 (by omega)⟩
    · rw [z _ _ (fun q => by cases q) (fun q => by cases q.1)]; exact a2 k hk
    · rw [hp, ← hml]; exact q7
    · rw [hp, ← hml, show m + 1 - 1 - j = m - j by omega]
      obtain ⟨j8, q⟩ := tk8 (l := A.w :: A.ps) q
      cases j with
      | zero =>
        have q : some A.w = some v := q
        cases q
        rw [← a6 e, ← rw_mw]
        exact rw_e (fun k hk => by
          rw [Nat.sub_zero, q1 k hk, x2 _ _ (fun q => by cases q) (fun q => by cases q.1), Nat.zero_add])
      | succ j =>
        have q : A.ps[j]? = some v := q
        have hj : j < A.ps.length := (List.getElem?_eq_some_iff.mp q).1
        have hjm : j < m := by omega
        rw [← y2 j v hjm q, show m - 1 - j = m - (j + 1) by omega]
        exact rw_e (fun k hk => q2 _ (by
          have : 424 * (m - (j + 1)) + 424 ≤ 424 * m := by omega
          omega))
    · rw [← (c k hk).2 v q]
      exact rw_e (fun i hi9 => z _ _ (fun q => by cases q) (fun q => by cases q.1))
    · exact z a k (fun q => cm (by rw [q]; exact Or.inr (Or.inr (Or.inr (Or.inl rfl))))) (fun q => cm (by rw [q.1]; exact Or.inl rfl))
  unfold sh_X10_remembers
  by_cases c8 : A.ps.length = 8
  · rw [b1, c8, if_neg (fun q => q rfl)]
    obtain ⟨h2, e2, g1, g2⟩ := M_shf2 (G := G) 2968 0 G h h (by omega) (by omega) (fun i hi9 => by omega) (fun _ _ => rfl) (fun _ _ _ => rfl)
    have e2 : sh_X10_remembers_11 G G (0 : Int32) h = _ := e2
    have e7 : h2 (za 195) 7 = nI 8 := by rw [g2 _ _ (fun q => by cases q), b1, c8]
    rw [e2, e7, show nI 8 - 1 = nI 7 from rfl]
    obtain ⟨h1, e1, q7, q1, q2, q3⟩ := M_50 (G := G) (h := am_u h2 (za 195) 7 (nI 7)) (n := 7) (by omega) au_
    rw [e1]
    refine ⟨h1, rfl, main 7 (am_u h2 (za 195) 7 (nI 7)) h1 (by omega) (by omega) (fun a i u v => ?_) (fun j v hj q => ?_) q7 q1 q2 q3⟩
    · by_cases ca : a = za 195
      · subst ca; rw [au_k (fun z => v ⟨rfl, z⟩), g2 _ _ u]
      · rw [au_a ca, g2 _ _ u]
    · rw [← b2' j v q, c8]
      refine rw_e (fun k hk => ?_)
      rw [au_a (fun q => by cases q), g1 _ (by omega), show 424 * (7 - 1 - j) + k + 424 = 424 * (8 - 1 - j) + k by omega]
  · rw [b1, if_pos (show nI A.ps.length ≠ (8 : Int32) from fun q => c8 ((nI_eq (b := 8) (by omega) (by omega)).mp q))]
    obtain ⟨h1, e1, q7, q1, q2, q3⟩ := M_50 (G := G) (h := h) (n := A.ps.length) (by omega) b1
    rw [e1]
    exact ⟨h1, rfl, main A.ps.length h h1 (by omega) (by omega) (fun _ _ _ _ => rfl) (fun j v _ q => b2' j v q) q7 q1 q2 q3⟩
end KP
