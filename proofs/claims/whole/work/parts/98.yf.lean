/-! the law's code checked, piece by piece -/
def am_ckN (en : ME) : Nat → List CI → Bool
  | 0, _ => true
  | _ + 1, [] => true
  | n + 1, e :: r => am_dck en.2.2.1 e.1 e.2.1 e.2.2.1 && (am_sw e.2.1 || Nat.beq e.2.2.1 (am_len e.2.1)) && am_ick en e && am_nck e r && am_ckN en n r
theorem am_ck_N {en : ME} : ∀ (n : Nat) (l : List CI), am_ckN en n l = true → am_ck en (l.drop n) = true → am_ck en l = true
  | 0, _, _, h2 => h2
  | _ + 1, [], _, _ => rfl
  | n + 1, e :: r, h1, h2 => by
    obtain ⟨g1, g2⟩ := Bool.and_eq_true_iff.mp h1
    exact Bool.and_eq_true_iff.mpr ⟨g1, am_ck_N n r g2 h2⟩
