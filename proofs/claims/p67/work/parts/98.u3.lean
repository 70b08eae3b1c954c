/-! looking ahead: the class's draft World 1, the model's second row -/
section FO
variable {A A1 : As_} {hi h h1 : HI} {x : AX} {K G : Nat} {a : Int32} {w : Wd}
theorem CX_ {S : Option ((Int32 × HI) ⊕ Nat)} {R : Nat → Option (Int32 × HI × AX)} {code v : Int32} (H : RC A hi x) (g : (code = 0 ∧ ∃ h1, S = some (Sum.inl (v, h1)) ∧ RC A1 h1 x ∧ fC_ hi h1) ∨ (∃ E, S = some (Sum.inr E) ∧ code ≠ 0 ∧ A1 = A ∧ R E = some (code, hi, xc x))) : Ck_ A1 (bW S (fun v2 => some ((0 : Int32), v2.2, xl x v2.1.toInt64)) R) hi x code v := by
  rcases g with ⟨rfl, h1, e, H1, f⟩ | ⟨E, e, hc, rfl, eR⟩
  · rw [e]
    exact ⟨h1, _, rfl, fun _ => rfl, H1.cx rfl, f, XB.l⟩
  · rw [e]
    show Ck_ A1 (R E) hi x code v
    rw [eR]
    exact Ck_.no hc H
theorem RC.f1 (H : RC A hi x) (f : fr_ 1 hi h1) : RC A h1 x := by
  have z : ∀ n k, h1 (za n) k = hi (za n) k := fun n k => f _ _ (fun j q => by cases q)
  obtain ⟨⟨a1, a2, a3, a4, a5, a6⟩, ⟨p, b1, b2', b3, b4⟩, c, d1, d2, d3, d4⟩ := H
  have hv : ∀ i, i ≠ 1 → vw_ i h1 = vw_ i hi := fun i hi9 => V_fr f hi9
  refine ⟨⟨(z _ _).trans a1, fun k hk => ?_, (z _ _).trans a3, (z _ _).trans a4, (z _ _).trans a5, fun q => (hv 0 (by decide)).trans (a6 q)⟩, ⟨p, b1, (z _ _).trans b2', (z _ _).trans b3, fun j v q => (hv _ (fun e => ?_)).trans (b4 j v q)⟩, fun k hk => ⟨(z _ _).trans (c k hk).1, fun v q => (hv _ (fun e => ?_)).trans ((c k hk).2 v q)⟩, (z _ _).trans d1, (z _ _).trans d2, fun k hk => (z _ _).trans (d3 k hk), by_eq (fun k => (z _ _)) d4⟩
  · rw [z]; exact a2 k hk
  · have e := congrArg Fin.val e
    have e : (2 + (p + 7 - j) % 8) % 12 = 1 := e
    have := Nat.mod_lt (p + 7 - j) (show 0 < 8 by decide)
    omega
  · have e := congrArg Fin.val e
    have e : (10 + k) % 12 = 1 := e
    omega
/-- a draft made -/
theorem C_draft {B e : Nat} (hI : ib_ K B e w) (hv : vw_ 0 hi = w) : ∃ h1, sh_X8_copyFrom 1 0 hi = some h1 ∧ vw_ 1 h1 = w ∧ fr_ 1 hi h1 := by
  obtain ⟨h1, e1, v1, f1⟩ := C_copyV (i := 1) (j := 0) (h0 := hi) (by decide) (by rw [hv]; exact in01 hI.2.2.1.1.2.2.2.1)
  exact ⟨h1, e1, v1.trans hv, f1⟩
theorem ib_.k3b {B n : Nat} (hI : ib_ K B 0 w) (hn : 1 ≤ n ∧ n ≤ 5) : ib_ K B 0 (upd w 3 (nI n)) := hI.k3 hn.1 hn.2
/-- minutes of a draft, from some change on -/
theorem C_mins {B n : Nat} {w1 : Wd} (hG : 501 < G) (hK : K < 2 ^ 28) (hB : B < 2 ^ 29) (hn : n ≤ 300) (hI : ib_ K B 0 w1) (hv : vw_ 1 h = w1) : ∃ h1, sh_X8_passMinutes G 1 (nI n) h = some h1 ∧ vw_ 1 h1 = p_passN n w1 ∧ fr_ 1 h h1 := by
  obtain ⟨h1, e1, v1, f1⟩ := C_passN (i := 1) (G := G) (n := n) (hi := h) (K := K) (B := B) (by omega) (by omega) (by omega) (by omega) (by rw [hv]; exact hI)
  exact ⟨h1, e1, by rw [v1, hv], f1⟩
theorem C_fore {B n p : Nat} (hG : 501 < G) (hK : K < 2 ^ 28) (hB : B < 2 ^ 29) (hn : n ≤ 300) (hp : 1 ≤ p ∧ p ≤ 5) (hI : ib_ K B 0 w) (hv : vw_ 0 hi = w) : ∃ h1, sh_X9_foretellSteps G (nI p) (nI n) hi = some (p_passN n (upd w 3 (nI p)) 12, h1) ∧ fr_ 1 hi h1 := by
  unfold sh_X9_foretellSteps
  obtain ⟨h2, e2, v2, f2⟩ := C_draft hI hv
  have v3 : vw_ 1 (am_u h2 (wa 1 0) 8 (nI p)) = upd w 3 (nI p) := by rw [uw_3, v2]
  obtain ⟨h4, e4, v4, f4⟩ := C_mins hG hK hB hn (hI.k3b hp) v3
  rw [e2, bs, e4, bs, vr_12 1 h4, v4]
  exact ⟨h4, rfl, (f2.u).trans f4⟩
/-! the model's side -/
/-! minutes that may be asked for -/
def mn_ (a : Int32) : Bool := tk_ a 301
def pc_ (a : Int32) : Bool := decide (¬ a < 1 ∧ a ≤ 5)
theorem mn_n (e : mn_ a = true) : an_ a ≤ 300 ∧ a = nI (an_ a) := by
  obtain ⟨h1, h2⟩ := tk_n (by omega) e
  exact ⟨by omega, h2⟩
theorem qF_ : sh_X9_requireForetellable a = some (if mn_ a = true then Sum.inl () else Sum.inr 2) := by
  unfold sh_X9_requireForetellable mn_ tk_
  by_cases c : a < 0
  · rw [if_pos c, decide_eq_false (fun q => q.1 c), if_neg (by decide)]
  · obtain ⟨t, ht, rfl⟩ := nI_of c
    rw [if_neg c]
    by_cases c2 : t < 301
    · rw [if_pos (show nI t ≤ (300 : Int32) from nI_le (b := 300) (by omega) (by omega)), decide_eq_true ⟨c, nI_lt c2 (by omega)⟩, if_pos rfl]
    · rw [if_neg (show ¬ nI t ≤ (300 : Int32) from nI_ge (a := 300) (by omega) (by omega)), decide_eq_false (show ¬ (¬ nI t < 0 ∧ nI t < nI 301) from fun q => c2 ((nI_ltI (by omega) (by omega)).mp q.2)), if_neg (by decide)]
theorem pc_n (e : pc_ a = true) : (1 ≤ an_ a ∧ an_ a ≤ 5) ∧ a = nI (an_ a) := by
  obtain ⟨h0, h1⟩ := of_decide_eq_true e
  have c : ¬ a < 0 := fun q => h0 (Int32.lt_trans q (by decide))
  obtain ⟨t, ht, rfl⟩ := nI_of c
  unfold an_
  rw [nI_clamp ht]
  have g1 : ¬ t < 1 := fun q => h0 (nI_lt (b := 1) q (by omega))
  have g2 := (nI_leI (b := 5) ht (by omega)).mp h1
  exact ⟨⟨by omega, g2⟩, rfl⟩
theorem qP_ : sh_X9_requirePace a = some (if pc_ a = true then Sum.inl () else Sum.inr 2) := by
  unfold sh_X9_requirePace pc_
  by_cases c : a < 1
  · rw [if_pos c, decide_eq_false (fun q => q.1 c), if_neg (by decide)]
  · rw [if_neg c]
    by_cases c2 : a ≤ 5
    · rw [if_pos c2, decide_eq_true ⟨c, c2⟩, if_pos rfl]
    · rw [if_neg c2, decide_eq_false (fun q => c2 q.2), if_neg (by decide)]
end FO
