/-! bytes appended: both sides -/
theorem bv8 (v : BitVec 32) (s : Nat) (hs : s ≤ 24) : (v.sshiftRight s).signExtend 8 = (v >>> s).signExtend 8 := by
  apply BitVec.eq_of_getLsbD_eq
  intro i hi
  rw [BitVec.getLsbD_signExtend, BitVec.getLsbD_signExtend, if_pos (show i < 32 by omega), if_pos (show i < 32 by omega), BitVec.getLsbD_sshiftRight, BitVec.getLsbD_ushiftRight, if_pos (show s + i < 32 by omega), decide_eq_false (show ¬ 32 ≤ i by omega)]
  rfl
theorem sh8_s (a b : Int32) (c : UInt32) (s : Nat) (hs : s ≤ 24) (hb : (b.toBitVec.smod 32).toNat = s) (hc : (c.toBitVec % 32).toNat = s) : (a >>> b).toInt8 = ((a.toUInt32 >>> c).toInt32).toInt8 := by
  apply Int8.toBitVec_inj.mp
  show (a.toBitVec.sshiftRight (b.toBitVec.smod 32).toNat).signExtend 8 = (a.toBitVec >>> (c.toBitVec % 32).toNat).signExtend 8
  rw [hb, hc]
  exact bv8 _ _ hs
theorem sh8_0 (a : Int32) : (a >>> (((8 : Int32) * 0) &&& 31)).toInt8 = ((a.toUInt32 >>> ((0 : Int32).toUInt32 &&& Int32.toUInt32 31)).toInt32).toInt8 := sh8_s a _ _ 0 (by omega) (by decide) (by decide)
theorem sh8_1 (a : Int32) : (a >>> (((8 : Int32) * 1) &&& 31)).toInt8 = ((a.toUInt32 >>> ((8 : Int32).toUInt32 &&& Int32.toUInt32 31)).toInt32).toInt8 := sh8_s a _ _ 8 (by omega) (by decide) (by decide)
theorem sh8_2 (a : Int32) : (a >>> (((8 : Int32) * 2) &&& 31)).toInt8 = ((a.toUInt32 >>> ((16 : Int32).toUInt32 &&& Int32.toUInt32 31)).toInt32).toInt8 := sh8_s a _ _ 16 (by omega) (by decide) (by decide)
theorem sh8_3 (a : Int32) : (a >>> (((8 : Int32) * 3) &&& 31)).toInt8 = ((a.toUInt32 >>> ((24 : Int32).toUInt32 &&& Int32.toUInt32 31)).toInt32).toInt8 := sh8_s a _ _ 24 (by omega) (by decide) (by decide)
theorem and255 (u : Int32) : ∃ c, c < 256 ∧ u &&& 255 = nI c := by
  refine ⟨(u.toBitVec &&& 255#32).toNat, ?_, ?_⟩
  · rw [BitVec.toNat_and]
    exact Nat.lt_of_le_of_lt Nat.and_le_right (by decide)
  · apply Int32.toBitVec_inj.mp
    show u.toBitVec &&& 255#32 = BitVec.ofNat 32 (u.toBitVec &&& 255#32).toNat
    apply BitVec.eq_of_toNat_eq
    rw [BitVec.toNat_ofNat, Nat.mod_eq_of_lt (u.toBitVec &&& 255#32).isLt]
/-- byte l of word a (3: the first) -/
def by_ (a : Int32) (l : Nat) : Nat := (((a.toUInt32 >>> ((nI (8 * l)).toUInt32 &&& Int32.toUInt32 31)).toInt32) &&& 255).toNatClampNeg
theorem by_c (a : Int32) (l : Nat) : (((a.toUInt32 >>> ((nI (8 * l)).toUInt32 &&& Int32.toUInt32 31)).toInt32) &&& 255) = nI (by_ a l) ∧ by_ a l < 256 := by
  obtain ⟨c, hc, e⟩ := and255 ((a.toUInt32 >>> ((nI (8 * l)).toUInt32 &&& Int32.toUInt32 31)).toInt32)
  unfold by_
  rw [e, nI_clamp (by omega)]
  exact ⟨rfl, hc⟩
theorem low8 (u : Int32) : (u &&& 255).toInt8 = u.toInt8 := by
  apply Int8.toBitVec_inj.mp
  show (u.toBitVec &&& 255#32).signExtend 8 = u.toBitVec.signExtend 8
  apply BitVec.eq_of_getLsbD_eq
  intro i hi
  rw [BitVec.getLsbD_signExtend, BitVec.getLsbD_signExtend, if_pos (show i < 32 by omega), if_pos (show i < 32 by omega), BitVec.getLsbD_and]
  have : i = 0 ∨ i = 1 ∨ i = 2 ∨ i = 3 ∨ i = 4 ∨ i = 5 ∨ i = 6 ∨ i = 7 := by omega
  have e : (255#32).getLsbD i = true := by rcases this with rfl | rfl | rfl | rfl | rfl | rfl | rfl | rfl <;> rfl
  rw [e, Bool.and_true]
section AP
variable {A B : As_} {hi h h1 : HI} {x : AX} {K G : Nat} {a c : Int32} {w : Wd}
/-- n bytes longer -/
def ap_ (A : As_) (f : Nat → Nat) : As_ := (A.1, A.2.1, (A.nb + 1, f), A.2.2.2)
/-- one byte more: class -/
theorem RC.ap {y : Nat} (hn : A.nb < 500) (hc : y < 256) (H : RC A h x) : RC (ap_ A (fun k => if k = A.nb then y else A.b k)) (am_u (am_u h (za 1) A.nb (nI y)) (za 0) 6 (nI (A.nb + 1))) x := by
  obtain ⟨⟨a1, a2, a3, a4, a5, a6⟩, ⟨p, b1, b2', b3, b4⟩, c, d1, d2, d3, d4⟩ := H
  have hv : ∀ i, vw_ i (am_u (am_u h (za 1) A.nb (nI y)) (za 0) 6 (nI (A.nb + 1))) = vw_ i h := fun i => V_f (fun j k => (au_a (fun q => by cases q)).trans (au_a (fun q => by cases q)))
  refine ⟨⟨au_, fun k hk => ?_, (au_a (fun q => by cases q)).trans ((au_a (fun q => by cases q)).trans a3), (au_a (fun q => by cases q)).trans ((au_a (fun q => by cases q)).trans a4), (au_k (by omega)).trans ((au_a (fun q => by cases q)).trans a5), fun q => (hv 0).trans (a6 q)⟩, ⟨p, b1, (au_a (fun q => by cases q)).trans ((au_a (fun q => by cases q)).trans b2'), (au_a (fun q => by cases q)).trans ((au_a (fun q => by cases q)).trans b3), fun j v q => (hv _).trans (b4 j v q)⟩, fun k hk => ⟨(au_a (fun q => by cases q)).trans ((au_a (fun q => by cases q)).trans (c k hk).1), fun v q => (hv _).trans ((c k hk).2 v q)⟩, (au_a (fun q => by cases q)).trans ((au_a (fun q => by cases q)).trans d1), (au_a (fun q => by cases q)).trans ((au_a (fun q => by cases q)).trans d2), fun k hk => (au_a (fun q => by cases q)).trans ((au_a (fun q => by cases q)).trans (d3 k hk)), by_eq (fun k => (au_a (fun q => by cases q)).trans (au_a (fun q => by cases q))) d4⟩
  show am_u (am_u h (za 1) A.nb (nI y)) (za 0) 6 (nI (A.nb + 1)) (za 1) k = nI (if k = A.nb then y else A.b k) ∧ (if k = A.nb then y else A.b k) < 256
  rw [au_a (fun q => by cases q)]
  by_cases q : k = A.nb
  · rw [if_pos q, q, au_]
    exact ⟨rfl, hc⟩
  · rw [if_neg q, au_k q]
    exact a2 k hk
/-- a word's bytes l, l - 1, .. 0 -/
def wd_ (a : Int32) : Nat → As_ → As_
  | 0, A => A
  | l + 1, A => wd_ a l (ap_ A (fun k => if k = A.nb then by_ a l else A.b k))
theorem wd_nb (a : Int32) : ∀ l A, (wd_ a l A).nb = A.nb + l
  | 0, _ => rfl
  | l + 1, A => by
    show (wd_ a l _).nb = _
    rw [wd_nb a l]
    show A.nb + 1 + l = A.nb + (l + 1)
    omega
theorem C_wd : ∀ (l F : Nat) (A : As_) (h : HI), l ≤ 4 → l < F → A.nb + l ≤ 500 → RC A h x → ∃ h1, sh_X9_appendWord_3 G a F (if l = 0 then Int32.ofInt (-8) else nI (8 * (l - 1))) h = some h1 ∧ RC (wd_ a l A) h1 x ∧ fC_ h h1 := fun l => by
  induction l with
  | zero =>
    intro F A h hl hF hn H
    obtain ⟨F, rfl⟩ : ∃ F2, F = F2 + 1 := ⟨F - 1, by omega⟩
    refine ⟨h, ?_, H, fC_.refl h⟩
    show sh_X9_appendWord_3_b G a (sh_X9_appendWord_3 G a F) (Int32.ofInt (-8)) h = some h
    unfold sh_X9_appendWord_3_b
    rw [if_pos (by decide)]
  | succ l ih =>
    intro F A h hl hF hn H
    obtain ⟨F, rfl⟩ : ∃ F2, F = F2 + 1 := ⟨F - 1, by omega⟩
    rw [if_neg (Nat.succ_ne_zero l), Nat.add_sub_cancel]
    have hb := by_c a l
    obtain ⟨h1, e1, H1, f1⟩ := ih F _ _ (by omega) (by omega) (by show A.nb + 1 + l ≤ 500; omega) (H.ap (by omega) hb.2)
    refine ⟨h1, ?_, H1, fC_.trans (fun b k m => ?_) f1⟩
    · show sh_X9_appendWord_3_b G a (sh_X9_appendWord_3 G a F) (nI (8 * l)) h = some h1
      unfold sh_X9_appendWord_3_b
      have es : nI (8 * l) + Int32.ofInt (-8) = if l = 0 then Int32.ofInt (-8) else nI (8 * (l - 1)) := by
        have : l = 0 ∨ l = 1 ∨ l = 2 ∨ l = 3 := by omega
        rcases this with rfl | rfl | rfl | rfl <;> rfl
      rw [if_neg (nI_pos (by omega)), hb.1, H.1.1, put_n (show A.nb < 500 by omega) (by decide), bs, au_a (fun q => by cases q), H.1.1, nI_1, es]
      exact e1
    · rw [au_a (fun q => by
        rcases m with m | m
        · exact md_za (n := 0) (by omega) (q ▸ m)
        · rw [q] at m; cases m), au_a (fun q => by
        rcases m with m | m
        · exact md_za (n := 1) (by omega) (q ▸ m)
        · rw [q] at m; cases m)]
def ws_a (A : As_) (a1 a2 a3 a4 a5 : Int32) : As_ := wd_ a5 4 (wd_ a4 4 (wd_ a3 4 (wd_ a2 4 (wd_ a1 4 A))))
theorem wd_o (a : Int32) : ∀ l A, (wd_ a l A).1 = A.1 ∧ (wd_ a l A).2.1 = A.2.1 ∧ (wd_ a l A).2.2.2 = A.2.2.2
  | 0, _ => ⟨rfl, rfl, rfl⟩
  | l + 1, A => wd_o a l (ap_ A (fun k => if k = A.nb then by_ a l else A.b k))
theorem Ok_.nb {B : As_} (h : Ok_ K A) (e1 : B.1 = A.1) (e2 : B.2.1 = A.2.1) (e3 : B.2.2.2 = A.2.2.2) (hn : B.nb ≤ 500) : Ok_ K B := by
  obtain ⟨⟨b1, b1'⟩, ⟨b2, b2'⟩, ⟨b3, b3'⟩, b4⟩ := B
  obtain ⟨⟨a1, a1'⟩, ⟨a2, a2'⟩, ⟨a3, a3'⟩, a4⟩ := A
  cases e1
  cases e2
  have e3 : b4 = a4 := e3
  cases e3
  exact ⟨hn, h.2⟩
theorem Q_append {a1 a2 a3 a4 a5 : Int32} (hG : 10 < G) (hO : Ok_ K A) (H : RC A hi x) (c : A.nb + 20 ≤ 500) : ∃ h1, sh_X9_append G a1 a2 a3 a4 a5 hi = some (nI (A.nb + 20), h1) ∧ RC (ws_a A a1 a2 a3 a4 a5) h1 x ∧ fC_ hi h1 ∧ Ok_ K (ws_a A a1 a2 a3 a4 a5) ∧ (ws_a A a1 a2 a3 a4 a5).nb = A.nb + 20 := by
  have hnb := hO.1
  unfold sh_X9_append
  have q : hi (za 0) 6 + (20 : Int32) ≤ (500 : Int32) := by
    rw [H.1.1, show (20 : Int32) = nI 20 from rfl, nI_add]
    exact nI_le (b := 500) c (by omega)
  rw [if_pos q]
  have C4 : ∀ (a : Int32) (A : As_) (h : HI), A.nb + 4 ≤ 500 → RC A h x → ∃ h1, sh_X9_appendWord G a h = some h1 ∧ RC (wd_ a 4 A) h1 x ∧ fC_ h h1 := fun a A h hn H => by
    obtain ⟨h1, e, r⟩ := C_wd (G := G) (a := a) 4 G A h (by omega) (by omega) hn H
    exact ⟨h1, e, r⟩
  obtain ⟨h1, e1, H1, f1⟩ := C4 a1 A hi (by omega) H
  have n1 := wd_nb a1 4 A
  obtain ⟨h2, e2, H2, f2⟩ := C4 a2 _ h1 (by omega) H1
  have n2 := wd_nb a2 4 (wd_ a1 4 A)
  obtain ⟨h3, e3, H3, f3⟩ := C4 a3 _ h2 (by omega) H2
  have n3 := wd_nb a3 4 (wd_ a2 4 (wd_ a1 4 A))
  obtain ⟨h4, e4, H4, f4⟩ := C4 a4 _ h3 (by omega) H3
  have n4 := wd_nb a4 4 (wd_ a3 4 (wd_ a2 4 (wd_ a1 4 A)))
  obtain ⟨h5, e5, H5, f5⟩ := C4 a5 _ h4 (by omega) H4
  have n5 := wd_nb a5 4 (wd_ a4 4 (wd_ a3 4 (wd_ a2 4 (wd_ a1 4 A))))
  rw [e1, bs, e2, bs, e3, bs, e4, bs, e5, bs]
  have o1 := wd_o a1 4 A
  have o2 := wd_o a2 4 (wd_ a1 4 A)
  have o3 := wd_o a3 4 (wd_ a2 4 (wd_ a1 4 A))
  have o4 := wd_o a4 4 (wd_ a3 4 (wd_ a2 4 (wd_ a1 4 A)))
  have o5 := wd_o a5 4 (wd_ a4 4 (wd_ a3 4 (wd_ a2 4 (wd_ a1 4 A))))
  have en : (ws_a A a1 a2 a3 a4 a5).nb = A.nb + 20 := by unfold ws_a; omega
  refine ⟨h5, ?_, H5, (((f1.trans f2).trans f3).trans f4).trans f5, hO.nb (by unfold ws_a; rw [o5.1, o4.1, o3.1, o2.1, o1.1]) (by unfold ws_a; rw [o5.2.1, o4.2.1, o3.2.1, o2.2.1, o1.2.1]) (by unfold ws_a; rw [o5.2.2, o4.2.2, o3.2.2, o2.2.2, o1.2.2]) (by unfold ws_a; omega), en⟩
  have eh : h5 (za 0) 6 = nI (A.nb + 20) := by rw [← en]; exact H5.1.1
  rw [eh]
end AP
