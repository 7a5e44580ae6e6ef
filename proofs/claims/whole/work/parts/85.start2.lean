/-! the start: the class -/
def LST (E : Ev) : va_E := .inr (0, [.int 0, .ref (E.2.1 2), .int 0])
def LNG (E : Ev) (N : Nat) : va_E := .inl (E.1 1, N, .inr (.inl (fun _ => 0)))
section START2
variable {E : Ev} {h h' : Hp} {L L1 L2 : List (Nat × va_E)} {a q m k t sz N ci kc ks c d : Nat} {e e' : va_E} {fs : List Value} {v : Value}
theorem st_nO {P : Nat → Hp → Nat → Nat → Prop} (H : HS h L) (hc : c + 1 ≤ kc) (hd : d + N ≤ ks) (p : ∀ q h' kc' ks', HS h' ((q, .inr (ci, fs)) :: L) → c ≤ kc' → d ≤ ks' → P q h' kc' ks') : nO h kc ks ci N fs P := by
  refine ⟨kc - 1, ks - N, by omega, by omega, fun q h1 hq e1 => ?_⟩
  subst e1
  exact p q _ _ _ (H.new hq) (by omega) (by omega)
theorem st_pf {P : Hp → Prop} (L1 : List (Nat × va_E)) (H : HS h (L1 ++ (a, .inr (ci, fs)) :: L2)) (hk : k < fs.length) (p : ∀ h', HS h' ((a, .inr (ci, fs.set k v)) :: (L1 ++ L2)) → P h') : pV h a ci k v P :=
  ⟨fs, H.x, hk, _, rfl, p _ (H.set.perm List.perm_middle)⟩
theorem st_fa {P : Hp → Nat → Nat → Prop} {n : Int32} {mk : Nat → vp_A} (H : HS h ((a, .inr (ci, fs)) :: L)) (hn : ¬ n < 0) (hN : n.toNatClampNeg = N) (hz : N * sz ≤ 536870912) (hk : k < fs.length) (hc : c + 1 ≤ kc) (hd : d + N ≤ ks) (p : ∀ q h' kc' ks', HS h' ((a, .inr (ci, fs.set k (.ref q))) :: (q, .inl (E.1 t, mk N)) :: L) → c ≤ kc' → d ≤ ks' → P h' kc' ks') : nA E h kc ks t sz n mk (fun q h4 kc5 ks6 => pV h4 a ci k (.ref q) (fun h8 => P h8 kc5 ks6)) := by
  refine ⟨N, kc - 1, ks - N, hn, hN, hz, by omega, by omega, fun q h1 hq e1 => ?_⟩
  subst e1
  exact st_pf [(q, .inl (E.1 t, mk N))] (HS.new H hq) hk (fun h' H' => p q _ _ _ H' (by omega) (by omega))
theorem st_list {Q : Hp → Prop} (H : HS h ((a, .inr (0, [.int 0, .null, .int 0])) :: L)) (p : ∀ h', HS h' ((a, LST E) :: L) → Q h') : m_Jx4a65c_init_da8c8 E a h kc ks Q :=
  st_pf [] H (show 0 < 3 by decide) (fun h1 H1 => st_pf [] H1 (show 1 < 3 by decide) (fun h2 H2 => p h2 H2))
theorem st_fl {P : Hp → Nat → Nat → Prop} (H : HS h ((a, .inr (ci, fs)) :: L)) (hk : k < fs.length) (hc : c + 1 ≤ kc) (hd : d + 3 ≤ ks) (p : ∀ l h' kc' ks', HS h' ((a, .inr (ci, fs.set k (.ref l))) :: (l, LST E) :: L) → c ≤ kc' → d ≤ ks' → P h' kc' ks') : nO h kc ks 0 3 [.int 0, .null, .int 0] (fun l h4 kc5 ks6 => m_Jx4a65c_init_da8c8 E l h4 0 0 (fun h9 => pV h9 a ci k (.ref l) (fun h11 => P h11 kc5 ks6))) :=
  st_nO H hc hd (fun l h1 kc1 ks1 H1 c1 d1 => st_list H1 (fun h2 H2 => st_pf [(l, LST E)] H2 hk (fun h3 H3 => p l h3 kc1 ks1 H3 c1 d1)))
theorem st_cK {P : Nat → Nat → Nat → Nat → Prop} (mc ms c d : Nat) (hm : c + mc ≤ kc) (hs : d + ms ≤ ks) (p : ∀ kc' ks', c ≤ kc' → d ≤ ks' → P mc ms kc' ks') : cK kc ks P :=
  ⟨mc, ms, kc - mc, ks - ms, by omega, by omega, p _ _ (by omega) (by omega)⟩
theorem s_init2 {Q : Hp → Prop} (H : HS h ((a, .inr (3, [.int 0, .int 0, .int 0, .null])) :: L)) (p : ∀ q h', HS h' ((a, .inr (3, [.int 0, .int 0, .int 0, .ref q])) :: (q, LNG E 12) :: L) → Q h') : m_X2_init E a h 1 12 Q :=
  st_fa (c := 0) (d := 0) (N := 12) H (by decide) (by decide +kernel) (by decide) (by simp) (by decide) (by decide) (fun q h' _ _ H' _ _ => p q h' H')
theorem s_init9 {Q : Hp → Prop} (H : HS h ((a, .inr (10, [.null, .int 0])) :: L)) (p : ∀ q h', HS h' ((a, .inr (10, [.ref q, .int 0])) :: (q, .inl (E.1 3, 60, .inr (.inr (.inr (.inr (fun _ => none)))))) :: L) → Q h') : m_X9_init E a h 1 60 Q :=
  st_fa (c := 0) (d := 0) (N := 60) H (by decide) (by decide +kernel) (by decide) (by simp) (by decide) (by decide) (fun q h' _ _ H' _ _ => p q h' H')
theorem s_init7 {Q : Hp → Prop} (H : HS h ((a, .inr (8, [.null, .null, .int 0, .int 0, .int 0])) :: L)) (p : ∀ l q h', HS h' ((a, .inr (8, [.ref l, .ref q, .int 0, .int 0, .int 0])) :: (q, LNG E 8) :: (l, LST E) :: L) → Q h') : m_X7_init E a h 2 11 Q :=
  st_fl (c := 1) (d := 8) H (by simp) (by decide) (by decide) (fun l h1 kc1 ks1 H1 c1 d1 => st_fa (c := 0) (d := 0) (N := 8) H1 (by decide) (by decide +kernel) (by decide) (by simp) (by omega) (by omega) (fun q h' _ _ H' _ _ => p l q h' H'))
/-- the world, with addresses of its own -/
def WRL (E : Ev) (a b3 b10 b4 b16 b11 b12 b13 b14 b15 b5 b7 b6 b8 : Nat) (L : List (Nat × va_E)) : List (Nat × va_E) :=
  (a, .inr (11, [.ref b3, .ref b4, .ref b12, .ref b13, .ref b14, .ref b15, .ref b5, .ref b6])) :: (b6, .inr (3, [.int 0, .int 0, .int 0, .ref b8])) :: (b8, LNG E 12) :: (b5, .inr (3, [.int 0, .int 0, .int 0, .ref b7])) :: (b7, LNG E 12) :: (b15, LST E) :: (b14, LST E) :: (b13, LST E) :: (b12, LST E) :: (b4, .inr (8, [.ref b16, .ref b11, .int 0, .int 0, .int 0])) :: (b11, LNG E 8) :: (b16, LST E) :: (b3, .inr (10, [.ref b10, .int 0])) :: (b10, .inl (E.1 3, 60, .inr (.inr (.inr (.inr (fun _ => none)))))) :: L
theorem s_init10 {Q : Hp → Prop} (H : HS h ((a, .inr (11, [.null, .null, .null, .null, .null, .null, .null, .null])) :: L)) (p : ∀ b3 b10 b4 b16 b11 b12 b13 b14 b15 b5 b7 b6 b8 h', HS h' (WRL E a b3 b10 b4 b16 b11 b12 b13 b14 b15 b5 b7 b6 b8 L) → Q h') : m_X10_init E a h 13 122 Q := by
  unfold m_X10_init
  refine st_nO (c := 12) (d := 120) H (by decide) (by decide) (fun b3 h1 kc1 ks1 H1 c1 d1 => ?_)
  refine st_cK 1 60 11 60 (by omega) (by omega) (fun kc2 ks2 c2 d2 => s_init9 H1 (fun b10 h2 H2 => ?_))
  refine st_pf [(b3, .inr (10, [.ref b10, .int 0])), (b10, .inl (E.1 3, 60, .inr (.inr (.inr (.inr (fun _ => none))))))] H2 (by simp) (fun h3 H3 => ?_)
  refine st_nO (c := 10) (d := 55) H3 (by omega) (by omega) (fun b4 h4 kc4 ks4 H4 c4 d4 => ?_)
  refine st_cK 2 11 8 44 (by omega) (by omega) (fun kc5 ks5 c5 d5 => s_init7 H4 (fun b16 b11 h5 H5 => ?_))
  refine st_pf [(b4, .inr (8, [.ref b16, .ref b11, .int 0, .int 0, .int 0])), (b11, LNG E 8), (b16, LST E)] H5 (by simp) (fun h6 H6 => ?_)
  refine st_fl (c := 7) (d := 41) H6 (by simp) (by omega) (by omega) (fun b12 h7 kc7 ks7 H7 c7 d7 => ?_)
  refine st_fl (c := 6) (d := 38) H7 (by simp) (by omega) (by omega) (fun b13 h8 kc8 ks8 H8 c8 d8 => ?_)
  refine st_fl (c := 5) (d := 35) H8 (by simp) (by omega) (by omega) (fun b14 h9 kc9 ks9 H9 c9 d9 => ?_)
  refine st_fl (c := 4) (d := 32) H9 (by simp) (by omega) (by omega) (fun b15 h10 kc10 ks10 H10 c10 d10 => ?_)
  refine st_nO (c := 3) (d := 28) H10 (by omega) (by omega) (fun b5 h11 kc11 ks11 H11 c11 d11 => ?_)
  refine st_cK 1 12 2 16 (by omega) (by omega) (fun kc12 ks12 c12 d12 => s_init2 H11 (fun b7 h12 H12 => ?_))
  refine st_pf [(b5, .inr (3, [.int 0, .int 0, .int 0, .ref b7])), (b7, LNG E 12)] H12 (by simp) (fun h13 H13 => ?_)
  refine st_nO (c := 1) (d := 12) H13 (by omega) (by omega) (fun b6 h14 kc14 ks14 H14 c14 d14 => ?_)
  refine st_cK 1 12 0 0 (by omega) (by omega) (fun kc15 ks15 c15 d15 => s_init2 H14 (fun b8 h15 H15 => ?_))
  refine st_pf [(b6, .inr (3, [.int 0, .int 0, .int 0, .ref b8])), (b8, LNG E 12)] H15 (by simp) (fun h16 H16 => ?_)
  exact p b3 b10 b4 b16 b11 b12 b13 b14 b15 b5 b7 b6 b8 h16 H16
theorem s_init3 {Q : Hp → Prop} (H : HS h ((a, .inr (4, [.null, .null, .null])) :: L)) (p : ∀ b17 b18 h', HS h' ((a, .inr (4, [.ref q, .ref b17, .ref b18])) :: (b18, LST E) :: (b17, LST E) :: L) → Q h') : m_X3_init E a (some q) h 2 6 Q := by
  unfold m_X3_init
  refine st_fl (c := 1) (d := 3) H (by simp) (by decide) (by decide) (fun b17 h1 kc1 ks1 H1 c1 d1 => ?_)
  refine st_fl (c := 0) (d := 0) H1 (by simp) (by omega) (by omega) (fun b18 h2 kc2 ks2 H2 c2 d2 => ?_)
  exact st_pf [] H2 (by simp) (fun h3 H3 => p b17 b18 h3 H3)
theorem s_init11 {Q : Hp → Prop} (H : HS h ((a, .inr (12, [.null, .null, .null, .int 0])) :: L)) (p : ∀ b1 b2 b9 b17 b18 b3 b10 b4 b16 b11 b12 b13 b14 b15 b5 b7 b6 b8 h', HS h' ((a, .inr (12, [.ref b1, .ref b2, .ref b9, .int 0])) :: (b9, .inl (E.1 0, 64, .inl (fun _ => 0))) :: (b2, .inr (4, [.ref b1, .ref b17, .ref b18])) :: (b18, LST E) :: (b17, LST E) :: WRL E b1 b3 b10 b4 b16 b11 b12 b13 b14 b15 b5 b7 b6 b8 L) → Q h') : m_X11_init E a h 18 203 Q := by
  unfold m_X11_init
  refine st_nO (c := 17) (d := 195) H (by decide) (by decide) (fun b1 h1 kc1 ks1 H1 c1 d1 => ?_)
  refine st_cK 13 122 4 73 (by omega) (by omega) (fun kc2 ks2 c2 d2 => s_init10 H1 (fun b3 b10 b4 b16 b11 b12 b13 b14 b15 b5 b7 b6 b8 h2 H2 => ?_))
  refine st_pf (WRL E b1 b3 b10 b4 b16 b11 b12 b13 b14 b15 b5 b7 b6 b8 []) H2 (by simp) (fun h3 H3 => ?_)
  refine st_nO (c := 3) (d := 70) H3 (by omega) (by omega) (fun b2 h4 kc4 ks4 H4 c4 d4 => ?_)
  have x4 : xh_at h4 a (.inr (12, [.ref b1, .null, .null, .int 0])) := H4.1 (a, .inr (12, [.ref b1, .null, .null, .int 0])) (List.mem_cons_of_mem _ List.mem_cons_self)
  refine gR_of x4 rfl ?_
  refine st_cK 2 6 1 64 (by omega) (by omega) (fun kc5 ks5 c5 d5 => s_init3 H4 (fun b17 b18 h5 H5 => ?_))
  refine st_pf [(b2, .inr (4, [.ref b1, .ref b17, .ref b18])), (b18, LST E), (b17, LST E)] H5 (by simp) (fun h6 H6 => ?_)
  refine st_fa (c := 0) (d := 0) (N := 64) H6 (by decide) (by decide +kernel) (by decide) (by simp) (by omega) (by omega) (fun b9 h7 kc7 ks7 H7 c7 d7 => ?_)
  exact st_pf [] H7 (by simp) (fun h8 H8 => p b1 b2 b9 b17 b18 b3 b10 b4 b16 b11 b12 b13 b14 b15 b5 b7 b6 b8 h8 H8)
end START2
