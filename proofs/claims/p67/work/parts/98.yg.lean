/-! the text's tokens -/
abbrev Tk : Type := List (Fin 37 × Nat)
def k0 (f : Nat → Nat) (rg : Bool) (T : Tk) : Tk := (0, 0) :: (34, f 0) :: (34, f 1) :: (31, 0) :: (1, 0) :: (34, f 2) :: (31, 0) :: (2, 0) :: (34, f 3) :: (31, 0) :: (3, 0) :: (34, f 4) :: (31, 0) :: (4, 0) :: (34, f 5) :: (31, 0) :: (5, 0) :: (34, f 6) :: (31, 0) :: (6, 0) :: (34, f 7) :: (31, 0) :: (7, 0) :: (34, f 8) :: (31, 0) :: (8, 0) :: (34, f 11) :: ((if rg = true then 30 else 29), 0) :: (31, 0) :: (9, 0) :: (34, f 19) :: T
def mvq (m : Nat) : Fin 37 := if m = 0 then 26 else if m = 1 then 27 else if m = 2 then 28 else if m = 3 then 29 else 30
def kR (rt : Nat → Nat) : Nat → Nat → Tk → Tk
  | 0, _, T => T
  | n + 1, j, T => (mvq (rt j), 0) :: kR rt n (j + 1) T
def kD (dg : Nat → Nat) (j : Nat) (T : Tk) : Tk := if dg j = 0 then T else (31, 0) :: (11, 0) :: (34, j) :: (34, dg j) :: T
def kC (cl dg : Nat → Nat) : Nat → Nat → Tk → Tk
  | 0, _, T => T
  | n + 1, j, T => if cl j = 0 then kD dg j (kC cl dg n (j + 1) T) else (31, 0) :: (10, 0) :: (34, j) :: kD dg j (kC cl dg n (j + 1) T)
def kK (a : Nat) : Nat → Tk → Tk
  | 0, T => T
  | _ + 1, T => (31, 0) :: (12, 0) :: (34, a) :: (34, a + 1) :: T
def kG (ru : Nat → Nat) : Nat → Nat → Tk → Tk
  | 0, _, T => T
  | n + 1, t, T => if ru t = 0 then kG ru n (t + 1) T else (31, 0) :: (13, 0) :: (34, t) :: kG ru n (t + 1) T
def kE (sp row tm : Nat) : Tk := (31, 0) :: (15, 0) :: (34, sp) :: (34, 3) :: (31, 0) :: (14, 0) :: (24, 0) :: (34, row) :: (31, 0) :: (23, 0) :: (34, tm) :: (32, 0) :: (17, 0) :: (31, 0) :: (21, 0) :: (34, 2) :: (33, 0) :: []
/-- nothing, or ';' first -/
def SC (l : List Nat) : Prop := l = [] ∨ ∃ t, l = 59 :: t
section TKS
variable {V : TV} {s : Nat} {l l2 : List Nat} {T : Tk}
theorem SC.st (h : SC l) : stp l = l := by
  rcases h with rfl | ⟨t, rfl⟩
  · rfl
  · exact if_neg (by decide)
theorem SC.hn {p : Nat → Bool} (h : SC l) (hp : p 59 = false) : hn p l := by
  rcases h with rfl | ⟨t, rfl⟩
  · exact True.intro
  · exact hp
theorem stp32 : stp (32 :: l) = stp l := if_pos rfl
/-- a number behind which ';' comes -/
theorem TK.dc {m : Nat} (hm : m < 100) (h : Lt V s (dec m ++ l)) (hl : SC l) (f : ∀ s, Lt V s l → TK V T l2 s) : TK V ((34, m) :: T) l2 s := TK.d hm h (hl.hn rfl) (fun s h => f s (by rw [hl.st] at h; exact h))
/-- a number behind which a blank and a number come -/
theorem TK.db {m m2 : Nat} (hm : m < 100) (hm2 : m2 < 100) (h : Lt V s (dec m ++ (32 :: (dec m2 ++ l)))) (f : ∀ s, Lt V s (dec m2 ++ l) → TK V T l2 s) : TK V ((34, m) :: T) l2 s := TK.d hm h rfl (fun s h => f s (by rw [stp32, stp_dec hm2] at h; exact h))
/-- ';', a word, a blank, and what begins with a number -/
theorem TK.se {w0 c m : Nat} {u : List Nat} {q : Fin 37} (hS : Sw w0 = 59 :: (c :: u ++ [32])) (hu : (c :: u).all t_L = true) (hc : c ≠ 32) (e : t_lk (c :: u) 37 0 = q) (hq : q ≠ 34) (hm : m < 100) (h : Lt V s (Sw w0 ++ (dec m ++ l))) (f : ∀ s, Lt V s (dec m ++ l) → TK V T l2 s) : TK V ((31, 0) :: (q, 0) :: T) l2 s := by
  have h0 : Lt V s (59 :: (c :: u ++ (32 :: (dec m ++ l)))) := by
    rw [hS] at h
    have e2 : (59 :: (c :: u ++ [32])) ++ (dec m ++ l) = 59 :: (c :: u ++ (32 :: (dec m ++ l))) := by simp only [List.cons_append, List.append_assoc, List.nil_append]
    rw [e2] at h
    exact h
  refine TK.sg h0 rfl rfl (by decide) (by decide) (fun s h1 => ?_)
  have e1 : stp (c :: u ++ (32 :: (dec m ++ l))) = c :: u ++ (32 :: (dec m ++ l)) := if_neg hc
  rw [e1] at h1
  refine TK.wd h1 hu rfl e hq (fun s h2 => f s ?_)
  rw [stp32, stp_dec hm] at h2
  exact h2
theorem lxE {sp row tm : Nat} (h1 : sp < 100) (h2 : row < 100) (h3 : tm < 100) (h : Lt V s (txE sp row tm)) : TK V (kE sp row tm) [] s := by
  unfold txE at h
  simp only [List.append_assoc] at h
  refine TK.se (w0 := 56) (c := 115) (u := [112, 105, 108, 108]) (m := sp) rfl (by decide) (by decide) (by decide) (by decide) h1 h (fun s a1 => ?_)
  have a1 : Lt V s (dec sp ++ (32 :: (dec 3 ++ (59 :: ([98, 111, 119, 108] ++ (32 :: ([114, 111, 119] ++ (32 :: (dec row ++ (Sw 58 ++ (dec tm ++ Sw 59))))))))))) := a1
  refine TK.db h1 (by omega) a1 (fun s a2 => TK.dc (m := 3) (by omega) a2 (Or.inr ⟨_, rfl⟩) (fun s a3 => ?_))
  refine TK.sg a3 rfl rfl (by decide) (by decide) (fun s a4 => ?_)
  have a4 : Lt V s (98 :: [111, 119, 108] ++ (32 :: ([114, 111, 119] ++ (32 :: (dec row ++ (Sw 58 ++ (dec tm ++ Sw 59))))))) := a4
  refine TK.wd a4 (by decide) rfl (by decide) (by decide) (fun s a5 => ?_)
  have a5 : Lt V s (114 :: [111, 119] ++ (32 :: (dec row ++ (Sw 58 ++ (dec tm ++ Sw 59))))) := a5
  refine TK.wd a5 (by decide) rfl (by decide) (by decide) (fun s a6 => ?_)
  rw [stp32, stp_dec h2] at a6
  refine TK.dc h2 a6 (Or.inr ⟨_, rfl⟩) (fun s a7 => ?_)
  refine TK.se (w0 := 58) (c := 114) (u := [101, 112, 101, 97, 116]) (m := tm) rfl (by decide) (by decide) (by decide) (by decide) h3 a7 (fun s a8 => ?_)
  refine TK.d h3 a8 rfl (fun s a9 => ?_)
  have a9 : Lt V s (40 :: ([116, 117, 114, 110] ++ (59 :: ([97, 100, 118, 97, 110, 99, 101] ++ (32 :: (dec 2 ++ [41])))))) := a9
  refine TK.sg a9 rfl rfl (by decide) (by decide) (fun s b1 => ?_)
  have b1 : Lt V s (116 :: [117, 114, 110] ++ (59 :: ([97, 100, 118, 97, 110, 99, 101] ++ (32 :: (dec 2 ++ [41]))))) := b1
  refine TK.wd b1 (by decide) rfl (by decide) (by decide) (fun s b2 => ?_)
  have b2 : Lt V s (59 :: ([97, 100, 118, 97, 110, 99, 101] ++ (32 :: (dec 2 ++ [41])))) := b2
  refine TK.sg b2 rfl rfl (by decide) (by decide) (fun s b3 => ?_)
  have b3 : Lt V s (97 :: [100, 118, 97, 110, 99, 101] ++ (32 :: (dec 2 ++ [41]))) := b3
  refine TK.wd b3 (by decide) rfl (by decide) (by decide) (fun s b4 => ?_)
  rw [stp32, stp_dec (by omega)] at b4
  refine TK.d (m := 2) (by omega) b4 rfl (fun s b5 => ?_)
  have b5 : Lt V s (41 :: []) := b5
  exact TK.sg b5 rfl rfl (by decide) (by decide) (fun s b6 => b6)
theorem SCG {ru : Nat → Nat} : ∀ q t, SC l → SC (txG ru q t ++ l)
  | 0, _, h => h
  | q + 1, t, h => by
    show SC ((if ru t = 0 then [] else Sw 55 ++ dec t) ++ txG ru q (t + 1) ++ l)
    split
    · exact SCG q (t + 1) h
    · exact Or.inr ⟨_, rfl⟩
theorem lxG {ru : Nat → Nat} (hl : SC l) (f : ∀ s, Lt V s l → TK V T l2 s) : ∀ q t s, t + q < 100 → Lt V s (txG ru q t ++ l) → TK V (kG ru q t T) l2 s
  | 0, _, s, _, h => f s h
  | q + 1, t, s, ht, h => by
    have h : Lt V s ((if ru t = 0 then [] else Sw 55 ++ dec t) ++ txG ru q (t + 1) ++ l) := h
    show TK V (if ru t = 0 then kG ru q (t + 1) T else (31, 0) :: (13, 0) :: (34, t) :: kG ru q (t + 1) T) l2 s
    by_cases c : ru t = 0
    · rw [if_pos c] at h ⊢
      exact lxG hl f q (t + 1) s (by omega) h
    · rw [if_neg c] at h ⊢
      simp only [List.append_assoc] at h
      refine TK.se (w0 := 55) (c := 114) (u := [117, 103]) (m := t) rfl (by decide) (by decide) (by decide) (by decide) (by omega) h (fun s a1 => ?_)
      exact TK.dc (by omega) a1 (SCG q (t + 1) hl) (fun s a2 => lxG hl f q (t + 1) s (by omega) a2)
theorem SCK {a : Nat} : ∀ kc, SC l → SC (txK a kc ++ l)
  | 0, h => h
  | _ + 1, _ => Or.inr ⟨_, rfl⟩
theorem lxK {a : Nat} (ha : a < 50) (hl : SC l) (f : ∀ s, Lt V s l → TK V T l2 s) : ∀ kc s, Lt V s (txK a kc ++ l) → TK V (kK a kc T) l2 s
  | 0, s, h => f s h
  | _ + 1, s, h => by
    have h : Lt V s (Sw 54 ++ dec a ++ [32] ++ dec (a + 1) ++ l) := h
    show TK V ((31, 0) :: (12, 0) :: (34, a) :: (34, a + 1) :: T) l2 s
    simp only [List.append_assoc] at h
    refine TK.se (w0 := 54) (c := 99) (u := [108, 111, 117, 100]) (m := a) rfl (by decide) (by decide) (by decide) (by decide) (by omega) h (fun s a1 => ?_)
    exact TK.db (m2 := a + 1) (by omega) (by omega) a1 (fun s a2 => TK.dc (by omega) a2 hl f)
theorem SCD {dg : Nat → Nat} {j : Nat} (h : SC l) : SC ((if dg j = 0 then [] else Sw 53 ++ dec j ++ [32] ++ dec (dg j)) ++ l) := by
  split
  · exact h
  · exact Or.inr ⟨_, rfl⟩
theorem SCC {cl dg : Nat → Nat} : ∀ q j, SC l → SC (txC cl dg q j ++ l)
  | 0, _, h => h
  | q + 1, j, h => by
    show SC ((if cl j = 0 then [] else Sw 52 ++ dec j) ++ ((if dg j = 0 then [] else Sw 53 ++ dec j ++ [32] ++ dec (dg j)) ++ txC cl dg q (j + 1)) ++ l)
    split
    · rw [List.nil_append, List.append_assoc]
      exact SCD (SCC q (j + 1) h)
    · exact Or.inr ⟨_, rfl⟩
theorem lxD {dg : Nat → Nat} {j : Nat} (hj : j < 100) (hd : dg j < 100) (hl : SC l) (f : ∀ s, Lt V s l → TK V T l2 s) (h : Lt V s ((if dg j = 0 then [] else Sw 53 ++ dec j ++ [32] ++ dec (dg j)) ++ l)) : TK V (kD dg j T) l2 s := by
  unfold kD
  by_cases c : dg j = 0
  · rw [if_pos c] at h ⊢
    exact f s h
  · rw [if_neg c] at h ⊢
    simp only [List.append_assoc] at h
    refine TK.se (w0 := 53) (c := 100) (u := [114, 97, 117, 103, 104, 116]) (m := j) rfl (by decide) (by decide) (by decide) (by decide) hj h (fun s a1 => ?_)
    exact TK.db (m2 := dg j) hj hd a1 (fun s a2 => TK.dc hd a2 hl f)
theorem lxC {cl dg : Nat → Nat} (hd : ∀ j, dg j < 100) (hl : SC l) (f : ∀ s, Lt V s l → TK V T l2 s) : ∀ q j s, j + q < 100 → Lt V s (txC cl dg q j ++ l) → TK V (kC cl dg q j T) l2 s
  | 0, _, s, _, h => f s h
  | q + 1, j, s, hj, h => by
    have h : Lt V s ((if cl j = 0 then [] else Sw 52 ++ dec j) ++ ((if dg j = 0 then [] else Sw 53 ++ dec j ++ [32] ++ dec (dg j)) ++ txC cl dg q (j + 1)) ++ l) := h
    show TK V (if cl j = 0 then kD dg j (kC cl dg q (j + 1) T) else (31, 0) :: (10, 0) :: (34, j) :: kD dg j (kC cl dg q (j + 1) T)) l2 s
    have hn := SCC (l := l) (cl := cl) (dg := dg) q (j + 1) hl
    by_cases c : cl j = 0
    · rw [if_pos c] at h ⊢
      rw [List.nil_append, List.append_assoc] at h
      exact lxD (by omega) (hd j) hn (fun s h => lxC hd hl f q (j + 1) s (by omega) h) h
    · rw [if_neg c] at h ⊢
      rw [List.append_assoc, List.append_assoc, List.append_assoc] at h
      refine TK.se (w0 := 52) (c := 99) (u := [117, 114, 116, 97, 105, 110]) (m := j) rfl (by decide) (by decide) (by decide) (by decide) (by omega) h (fun s a1 => ?_)
      exact TK.dc (by omega) a1 (SCD hn) (fun s a2 => lxD (by omega) (hd j) hn (fun s h => lxC hd hl f q (j + 1) s (by omega) h) a2)
theorem hnR {rt : Nat → Nat} {p : Nat → Bool} (h1 : p 59 = false) (h2 : p 32 = false) (hl : SC l) : ∀ q j, hn p (txR rt q j ++ l)
  | 0, _ => hl.hn h1
  | q + 1, j => by
    show hn p (Sw (mvw (rt j)) ++ txR rt q (j + 1) ++ l)
    unfold mvw
    split
    · exact h2
    · split
      · exact h2
      · split
        · exact h2
        · split
          · exact h2
          · exact h2
theorem lxR {rt : Nat → Nat} (hl : SC l) (f : ∀ s, Lt V s l → TK V T l2 s) : ∀ q j s, Lt V s (stp (txR rt q j ++ l)) → TK V (kR rt q j T) l2 s
  | 0, _, s, h => by
    have h : Lt V s (stp l) := h
    rw [hl.st] at h
    exact f s h
  | q + 1, j, s, h => by
    have hr := hnR (l := l) (rt := rt) (p := t_L) rfl rfl hl q (j + 1)
    have ih := lxR (rt := rt) hl f q (j + 1)
    show TK V ((mvq (rt j), 0) :: kR rt q (j + 1) T) l2 s
    have h : Lt V s (stp (Sw (mvw (rt j)) ++ txR rt q (j + 1) ++ l)) := h
    rw [List.append_assoc] at h
    by_cases c0 : rt j = 0
    · have e1 : mvw (rt j) = 49 := if_pos c0
      have e2 : mvq (rt j) = 26 := if_pos c0
      rw [e1] at h
      rw [e2]
      have h : Lt V s (115 :: [116, 97, 121] ++ (txR rt q (j + 1) ++ l)) := h
      exact TK.wd h (by decide) hr (by decide) (by decide) ih
    by_cases c1 : rt j = 1
    · have e1 : mvw (rt j) = 50 := by rw [c1]; rfl
      have e2 : mvq (rt j) = 27 := by rw [c1]; rfl
      rw [e1] at h
      rw [e2]
      have h : Lt V s (117 :: [112] ++ (txR rt q (j + 1) ++ l)) := h
      exact TK.wd h (by decide) hr (by decide) (by decide) ih
    by_cases c2 : rt j = 2
    · have e1 : mvw (rt j) = 51 := by rw [c2]; rfl
      have e2 : mvq (rt j) = 28 := by rw [c2]; rfl
      rw [e1] at h
      rw [e2]
      have h : Lt V s (100 :: [111, 119, 110] ++ (txR rt q (j + 1) ++ l)) := h
      exact TK.wd h (by decide) hr (by decide) (by decide) ih
    by_cases c3 : rt j = 3
    · have e1 : mvw (rt j) = 47 := by rw [c3]; rfl
      have e2 : mvq (rt j) = 29 := by rw [c3]; rfl
      rw [e1] at h
      rw [e2]
      have h : Lt V s (108 :: [101, 102, 116] ++ (txR rt q (j + 1) ++ l)) := h
      exact TK.wd h (by decide) hr (by decide) (by decide) ih
    · have e1 : mvw (rt j) = 46 := by unfold mvw; rw [if_neg c0, if_neg c1, if_neg c2, if_neg c3]
      have e2 : mvq (rt j) = 30 := by unfold mvq; rw [if_neg c0, if_neg c1, if_neg c2, if_neg c3]
      rw [e1] at h
      rw [e2]
      have h : Lt V s (114 :: [105, 103, 104, 116] ++ (txR rt q (j + 1) ++ l)) := h
      exact TK.wd h (by decide) hr (by decide) (by decide) ih
/-- the first settings -/
theorem lx0 {f : Nat → Nat} {rg : Bool} (hf : ∀ k, k = 0 ∨ k = 1 ∨ k = 2 ∨ k = 3 ∨ k = 4 ∨ k = 5 ∨ k = 6 ∨ k = 7 ∨ k = 8 ∨ k = 11 ∨ k = 19 → f k < 100) (hl : hn t_D l) (g : ∀ s, Lt V s (stp l) → TK V T l2 s) (h : Lt V s (tx0 f rg ++ l)) : TK V (k0 f rg T) l2 s := by
  unfold tx0 at h
  simp only [List.append_assoc] at h
  unfold k0
  have h : Lt V s (102 :: [108, 111, 111, 114] ++ (32 :: (dec (f 0) ++ (32 :: (dec (f 1) ++ (Sw 38 ++ (dec (f 2) ++ (Sw 39 ++ (dec (f 3) ++ (Sw 40 ++ (dec (f 4) ++ (Sw 41 ++ (dec (f 5) ++ (Sw 42 ++ (dec (f 6) ++ (Sw 43 ++ (dec (f 7) ++ (Sw 44 ++ (dec (f 8) ++ (Sw 45 ++ (dec (f 11) ++ (Sw (if rg = true then 46 else 47) ++ (Sw 48 ++ (dec (f 19) ++ l)))))))))))))))))))))))) := h
  refine TK.wd h (by decide) rfl (by decide) (by decide) (fun s a0 => ?_)
  rw [stp32, stp_dec (hf 0 (by omega))] at a0
  refine TK.db (hf 0 (by omega)) (hf 1 (by omega)) a0 (fun s a1 => TK.dc (hf 1 (by omega)) a1 (Or.inr ⟨_, rfl⟩) (fun s a2 => ?_))
  refine TK.se (w0 := 38) (c := 108) (u := [105, 103, 104, 116]) (m := (f 2)) rfl (by decide) (by decide) (by decide) (by decide) (hf 2 (by omega)) a2 (fun s a3 => ?_)
  refine TK.dc (hf 2 (by omega)) a3 (Or.inr ⟨_, rfl⟩) (fun s a4 => ?_)
  refine TK.se (w0 := 39) (c := 112) (u := [97, 99, 101]) (m := (f 3)) rfl (by decide) (by decide) (by decide) (by decide) (hf 3 (by omega)) a4 (fun s a5 => ?_)
  refine TK.dc (hf 3 (by omega)) a5 (Or.inr ⟨_, rfl⟩) (fun s a6 => ?_)
  refine TK.se (w0 := 40) (c := 100) (u := [114, 121, 105, 110, 103]) (m := (f 4)) rfl (by decide) (by decide) (by decide) (by decide) (hf 4 (by omega)) a6 (fun s a7 => ?_)
  refine TK.dc (hf 4 (by omega)) a7 (Or.inr ⟨_, rfl⟩) (fun s a8 => ?_)
  refine TK.se (w0 := 41) (c := 114) (u := [101, 115, 116]) (m := (f 5)) rfl (by decide) (by decide) (by decide) (by decide) (hf 5 (by omega)) a8 (fun s a9 => ?_)
  refine TK.dc (hf 5 (by omega)) a9 (Or.inr ⟨_, rfl⟩) (fun s a10 => ?_)
  refine TK.se (w0 := 42) (c := 115) (u := [116, 97, 109, 105, 110, 97]) (m := (f 6)) rfl (by decide) (by decide) (by decide) (by decide) (hf 6 (by omega)) a10 (fun s a11 => ?_)
  refine TK.dc (hf 6 (by omega)) a11 (Or.inr ⟨_, rfl⟩) (fun s a12 => ?_)
  refine TK.se (w0 := 43) (c := 110) (u := [111, 105, 115, 101]) (m := (f 7)) rfl (by decide) (by decide) (by decide) (by decide) (hf 7 (by omega)) a12 (fun s a13 => ?_)
  refine TK.dc (hf 7 (by omega)) a13 (Or.inr ⟨_, rfl⟩) (fun s a14 => ?_)
  refine TK.se (w0 := 44) (c := 110) (u := [105, 103, 104, 116]) (m := (f 8)) rfl (by decide) (by decide) (by decide) (by decide) (hf 8 (by omega)) a14 (fun s a15 => ?_)
  refine TK.dc (hf 8 (by omega)) a15 (Or.inr ⟨_, rfl⟩) (fun s a16 => ?_)
  refine TK.se (w0 := 45) (c := 119) (u := [97, 108, 107, 101, 114]) (m := (f 11)) rfl (by decide) (by decide) (by decide) (by decide) (hf 11 (by omega)) a16 (fun s a17 => ?_)
  have tl : ∀ s, Lt V s (Sw 48 ++ (dec (f 19) ++ l)) → TK V ((31, 0) :: (9, 0) :: (34, f 19) :: T) l2 s := fun s b => by
    refine TK.se (w0 := 48) (c := 99) (u := [97, 116]) (m := (f 19)) rfl (by decide) (by decide) (by decide) (by decide) (hf 19 (by omega)) b (fun s b2 => ?_)
    exact TK.d (hf 19 (by omega)) b2 hl g
  cases rg
  · have a17 : Lt V s (dec (f 11) ++ (32 :: ([108, 101, 102, 116] ++ (Sw 48 ++ (dec (f 19) ++ l))))) := a17
    refine TK.d (hf 11 (by omega)) a17 rfl (fun s b => ?_)
    have b : Lt V s (108 :: [101, 102, 116] ++ (Sw 48 ++ (dec (f 19) ++ l))) := b
    exact TK.wd b (by decide) rfl (by decide) (by decide) (fun s c => tl s c)
  · have a17 : Lt V s (dec (f 11) ++ (32 :: ([114, 105, 103, 104, 116] ++ (Sw 48 ++ (dec (f 19) ++ l))))) := a17
    refine TK.d (hf 11 (by omega)) a17 rfl (fun s b => ?_)
    have b : Lt V s (114 :: [105, 103, 104, 116] ++ (Sw 48 ++ (dec (f 19) ++ l))) := b
    exact TK.wd b (by decide) rfl (by decide) (by decide) (fun s c => tl s c)
/-- all tokens -/
def ktx (f : Nat → Nat) (rg : Bool) (rt : Nat → Nat) (R : Nat) (cl dg : Nat → Nat) (c a kc : Nat) (ru : Nat → Nat) (T sp row tm : Nat) : Tk := k0 f rg (kR rt R 0 (kC cl dg c 0 (kK a kc (kG ru T 0 (kE sp row tm)))))
theorem lx_txt {f : Nat → Nat} {rg : Bool} {rt : Nat → Nat} {R : Nat} {cl dg : Nat → Nat} {r c a kc : Nat} {ru : Nat → Nat} {sp row tm : Nat} (ok : txok f rt R cl dg r c a kc ru sp row tm) (h : Lt V s (txt f rg rt R cl dg c a kc ru (r * c) sp row tm)) : TK V (ktx f rg rt R cl dg c a kc ru (r * c) sp row tm) [] s := by
  obtain ⟨hcc, ⟨f0, f1, f2, f3, f4, f5, f6, f7, f8, f11, f19⟩, ⟨hR, hrt⟩, ⟨hcl, hdg⟩, ⟨hkc, ha⟩, ⟨hru, hcn⟩, ⟨hsp, hrow, htm1, htm⟩⟩ := ok
  have hT : r * c ≤ 15 := Nat.mul_le_mul hcc.2.1 hcc.2.2.2
  unfold txt at h
  rw [List.append_assoc, List.append_assoc, List.append_assoc, List.append_assoc] at h
  have sE : SC (txE sp row tm) := Or.inr ⟨_, rfl⟩
  have sG := SCG (ru := ru) (r * c) 0 sE
  have sK := SCK (a := a) kc sG
  have sC := SCC (cl := cl) (dg := dg) c 0 sK
  unfold ktx
  refine lx0 (fun k hk => ?_) (hnR rfl rfl sC R 0) (fun s h => lxR sC (fun s h => lxC (fun j => by have := hdg j; omega) sK (fun s h => lxK (by omega) sG (fun s h => lxG sE (fun s h => lxE (by omega) (by omega) (by omega) h) (r * c) 0 s (by omega) h) kc s h) c 0 s (by omega) h) R 0 s h) h
  rcases hk with rfl | rfl | rfl | rfl | rfl | rfl | rfl | rfl | rfl | rfl | rfl <;> omega
end TKS
