/-! what is kept to be taken back: both sides -/
def As_.sw (A : As_) (w : Wd) : As_ := ((A.ld, w), A.2)
def As_.pu (A : As_) : As_ := (A.1, ((A.w :: A.ps).take 8, A.sv), A.2.2)
theorem Ok_.mono {K K1 : Nat} {A : As_} (h : Ok_ K A) (hK : K ≤ K1) : Ok_ K1 A := by
  obtain ⟨a, b, c, d, e, f, g⟩ := h
  exact ⟨a, b, fun q => (c q).mono hK (by omega), fun v q => (d v q).mono hK (by omega), fun k v q => (e k v q).mono hK (by omega), f, g⟩
theorem Ok_.sw {K : Nat} {A : As_} {w : Wd} (h : Ok_ K A) (hw : ib_ K (5 * K) 0 w) : Ok_ K (A.sw w) := ⟨h.1, h.2.1, fun _ => hw, h.2.2.2.1, h.2.2.2.2.1, h.2.2.2.2.2⟩
theorem Ok_.pu {K : Nat} {A : As_} (h : Ok_ K A) (e : A.ld = true) : Ok_ K A.pu := by
  refine ⟨h.1, ?_, h.2.2.1, fun v hv => ?_, h.2.2.2.2.1, h.2.2.2.2.2⟩
  · show ((A.w :: A.ps).take 8).length ≤ 8
    rw [List.length_take]
    omega
  · have hv : v ∈ A.w :: A.ps := List.mem_of_mem_take hv
    rcases List.mem_cons.mp hv with q | q
    · rw [q]; exact h.2.2.1 e
    · exact h.2.2.2.1 v q
section KP
variable {A A1 : As_} {hi h h1 : HI} {x : AX} {K G : Nat} {a c : Int32} {w : Wd}
theorem RC.w0 {w1 : Wd} (H : RC A h x) (f : fr_ 0 h h1) (v : vw_ 0 h1 = w1) : RC (A.sw w1) h1 x := by
  have z : ∀ n k, h1 (za n) k = h (za n) k := fun n k => f _ _ (fun j q => by cases q)
  obtain ⟨⟨a1, a2, a3, a4, a5, a6⟩, ⟨p, b1, b2', b3, b4⟩, c, d1, d2, d3, d4⟩ := H
  have hv : ∀ i, i ≠ 0 → vw_ i h1 = vw_ i h := fun i hi9 => V_fr f hi9
  refine ⟨⟨(z _ _).trans a1, fun k hk => ?_, (z _ _).trans a3, (z _ _).trans a4, (z _ _).trans a5, fun _ => v⟩, ⟨p, b1, (z _ _).trans b2', (z _ _).trans b3, fun j v q => (hv _ (fun e => ?_)).trans (b4 j v q)⟩, fun k hk => ⟨(z _ _).trans (c k hk).1, fun v q => (hv _ (fun e => ?_)).trans ((c k hk).2 v q)⟩, (z _ _).trans d1, (z _ _).trans d2, fun k hk => (z _ _).trans (d3 k hk), by_eq (fun k => (z _ _)) d4⟩
  · rw [z]; exact a2 k hk
  · have e := congrArg Fin.val e
    have e : (2 + (p + 7 - j) % 8) % 12 = 0 := e
    have := Nat.mod_lt (p + 7 - j) (show 0 < 8 by decide)
    omega
  · have e := congrArg Fin.val e
    have e : (10 + k) % 12 = 0 := e
    omega
theorem wAt {p : Nat} (hp : p < 8) : sh_worldAt 8 2 (nI p) = some (Fin.ofNat 12 (2 + p)) := by
  unfold sh_worldAt
  rw [nI_clamp (by omega), if_pos ⟨nI_pos' (by omega), hp⟩]
theorem fz12 {m n : Nat} (hm : m < 12) (hn : n < 12) : (Fin.ofNat 12 m = Fin.ofNat 12 n) ↔ m = n := by
  constructor
  · intro e
    have e := congrArg Fin.val e
    have e : m % 12 = n % 12 := e
    omega
  · intro e; rw [e]
theorem tk8 {l : List Wd} {v : Wd} {j : Nat} (h : (l.take 8)[j]? = some v) : j < 8 ∧ l[j]? = some v := by
  rw [List.getElem?_take] at h
  by_cases c : j < 8
  · rw [if_pos c] at h; exact ⟨c, h⟩
  · rw [if_neg c] at h; cases h
theorem C_keep (hO : Ok_ K A) (e : A.ld = true) (H : RC A hi x) : ∃ h1, sh_X1_keep 0 hi = some h1 ∧ RC A.pu h1 x ∧ vw_ 0 h1 = A.w ∧ fC_ hi h1 := by
  obtain ⟨⟨a1, a2, a3, a4, a5, a6⟩, ⟨p, b1, b2', b3, b4⟩, c, d1, d2, d3, d4⟩ := H
  have hI := hO.ib e
  have hl := hO.2.1
  unfold sh_X1_keep
  rw [b2', wAt b1]
  obtain ⟨h3, e3, v3, f3⟩ := C_copyV (i := Fin.ofNat 12 (2 + p)) (j := 0) (h0 := hi) (fun q => by
    have := (fz12 (m := 2 + p) (n := 0) (by omega) (by omega)).mp q
    omega) (by rw [a6 e]; exact in01 hI.2.2.1.1.2.2.2.1)
  rw [a6 e] at v3
  have z : ∀ n k, h3 (za n) k = hi (za n) k := fun n k => f3 _ _ (fun j q => by cases q)
  show ∃ h1, ((sh_X8_copyFrom (Fin.ofNat 12 (2 + p)) 0 hi).bind fun h3 => some (am_u (am_u h3 (za 41) 3 (((h3 (za 41) 3) + (1 : Int32)) - ((h3 (za 41) 3) + (1 : Int32)) / (8 : Int32) * (8 : Int32))) (za 41) 4 (if (8 : Int32) < (h3 (za 41) 4) + (1 : Int32) then (8 : Int32) else (h3 (za 41) 4) + (1 : Int32)))) = some h1 ∧ _
  rw [e3, bs, z, z, b2', b3, nI_1, nI_1, show (8 : Int32) = nI 8 from rfl, pk_rem (by omega) (by omega) (by omega)]
  have ec : (if nI 8 < nI (A.ps.length + 1) then nI 8 else nI (A.ps.length + 1)) = nI (min 8 (A.ps.length + 1)) := by
    by_cases q : 8 < A.ps.length + 1
    · rw [if_pos (nI_lt q (by omega)), Nat.min_eq_left (by omega)]
    · rw [if_neg (fun z => q ((nI_ltI (by omega) (by omega)).mp z)), Nat.min_eq_right (by omega)]
  rw [ec]
  generalize hh : am_u (am_u h3 (za 41) 3 (nI ((p + 1) % 8))) (za 41) 4 (nI (min 8 (A.ps.length + 1))) = h5
  have z5 : ∀ n k, n ≠ 41 → h5 (za n) k = hi (za n) k := fun n k hn => by
    have hne : za n ≠ za 41 := fun q => hn (by
      have q := za_inj q
      exact q)
    rw [← hh, au_a hne, au_a hne, z]
  have w5 : ∀ i, vw_ i h5 = vw_ i h3 := fun i => V_f (fun j k => by rw [← hh, au_a (fun q => by cases q), au_a (fun q => by cases q)])
  have wo : ∀ i, i ≠ Fin.ofNat 12 (2 + p) → vw_ i h5 = vw_ i hi := fun i hne => (w5 i).trans (V_fr f3 hne)
  have w0 : vw_ 0 h5 = A.w := (wo 0 (fun q => by
    have := (fz12 (m := 0) (n := 2 + p) (by omega) (by omega)).mp q
    omega)).trans (a6 e)
  refine ⟨h5, rfl, ⟨⟨(z5 _ _ (by omega)).trans a1, fun k hk => ?_, (z5 _ _ (by omega)).trans a3, (z5 _ _ (by omega)).trans a4, (z5 _ _ (by omega)).trans a5, fun _ => w0⟩, ⟨(p + 1) % 8, Nat.mod_lt _ (by decide), ?_, ?_, fun j v q => ?_⟩, fun k hk => ⟨(z5 _ _ (by omega)).trans (c k hk).1, fun v q => (wo _ (fun q2 => ?_)).trans ((c k hk).2 v q)⟩, (z5 _ _ (by omega)).trans d1, (z5 _ _ (by omega)).trans d2, fun k hk => (z5 _ _ (by omega)).trans (d3 k hk), by_eq (fun k => (z5 _ _ (by omega))) d4⟩, w0, fun a k m => ?_⟩
  · rw [z5 _ _ (by omega)]; exact a2 k hk
  · rw [← hh, au_k (by omega), au_]
  · rw [← hh, au_]
    show _ = nI ((A.w :: A.ps).take 8).length
    rw [List.length_take, List.length_cons]
  · obtain ⟨j8, q⟩ := tk8 (l := A.w :: A.ps) q
    cases j with
    | zero =>
      have q : some A.w = some v := q
      cases q
      rw [show ((p + 1) % 8 + 7 - 0) % 8 = p by omega, w5, v3]
    | succ j =>
      have q : A.ps[j]? = some v := q
      have ej : ((p + 1) % 8 + 7 - (j + 1)) % 8 = (p + 7 - j) % 8 := by omega
      rw [ej, wo _ (fun q2 => by
        have := (fz12 (m := 2 + (p + 7 - j) % 8) (n := 2 + p) (by omega) (by omega)).mp q2
        omega)]
      exact b4 j v q
  · have := (fz12 (m := 10 + k) (n := 2 + p) (by omega) (by omega)).mp q2
    omega
  · rw [← hh, au_a (fun q => by
      rcases m with m | m
      · exact md_za (n := 41) (by omega) (q ▸ m)
      · rw [q] at m; cases m), au_a (fun q => by
      rcases m with m | m
      · exact md_za (n := 41) (by omega) (q ▸ m)
      · rw [q] at m; cases m)]
    exact fr_fC f3 a k m
/-! the model remembers -/
end KP
