set_option maxRecDepth 100000 in
set_option maxHeartbeats 4000000 in
theorem z_isIn {E : Ev} {a0 : Nat} {ad : Nat → Nat} {r' : Int32} {s' : MS} {Q : Int32 → Hp → Prop} {s : MS} {h : Hp} {kc ks : Nat} {yp0 : Int64} {yp2 : Int64} {yp4 : Int64} (R0 : RepM E h a0 ad s) (hm : M_isIn s yp0 yp2 yp4 = some (r', s')) (hQ : ∀ h1, RepM E h1 a0 ad s' → xf (FM a0 ad) h h1 → Q r' h1)   : m_X12_isIn E yp0 yp2 yp4 h kc ks Q := by
  have F0 : xf (FM a0 ad) h h := xf.rf
  unfold M_isIn at hm
  unfold m_X12_isIn
  refine ⟨fun q2 => ?_, fun q2 => ?_⟩
  · rw [if_pos q2] at hm
    cases hm
    exact hQ _ R0 F0
  · rw [if_neg q2] at hm
    refine ⟨fun q1 => ?_, fun q1 => ?_⟩
    · rw [if_pos q1] at hm
      cases hm
      exact hQ _ R0 F0
    · rw [if_neg q1] at hm
      cases hm
      exact hQ _ R0 F0
set_option maxRecDepth 100000 in
set_option maxHeartbeats 4000000 in
theorem z_begin {E : Ev} {a0 : Nat} {ad : Nat → Nat} {s' : MS} {Q : Hp → Prop} {s : MS} {h : Hp} {kc ks : Nat} {yp1 : Int64} (R0 : RepM E h a0 ad s) (hm : M_begin s yp1 = some s') (hQ : ∀ h1, RepM E h1 a0 ad s' → xf (FM a0 ad) h h1 → Q h1)   : m_X12_begin E a0 yp1 h kc ks Q := by
  have F0 : xf (FM a0 ad) h h := xf.rf
  unfold M_begin at hm
  unfold m_X12_begin
  refine zr_R R0 rfl ?_
  have b1 : ¬ ((0 : Int32) < 0 ∨ 12 ≤ ((0 : Int32)).toNatClampNeg) := fun q => by rw [if_pos q] at hm; cases hm
  rw [if_neg b1] at hm
  refine zr_n ?_
  try dsimp only [lt1] at hm
  refine zr_sl R0 (by decide) b1 (fun h3 R3 f3 => ?_)
  have F3 := F0.tr f3
  obtain ⟨s2, e_s2⟩ : ∃ z, z = mL s 4 ((0 : Int32)).toNatClampNeg yp1 := ⟨_, rfl⟩
  rw [← e_s2] at R3
  try rw [← e_s2] at hm
  try dsimp only [lt1] at hm
  refine zr_pI R3 (by decide) rfl (fun h5 R5 f5 => ?_)
  have F5 := F3.tr f5
  obtain ⟨s4, e_s4⟩ : ∃ z, z = mI s2 5 1 := ⟨_, rfl⟩
  rw [← e_s4] at R5
  try rw [← e_s4] at hm
  cases hm
  exact hQ _ R5 F5
set_option maxRecDepth 100000 in
set_option maxHeartbeats 4000000 in
theorem z_more {E : Ev} {a0 : Nat} {ad : Nat → Nat} {s' : MS} {Q : Hp → Prop} {s : MS} {h : Hp} {kc ks : Nat} {yp1 : Int64} (R0 : RepM E h a0 ad s) (hm : M_more s yp1 = some s') (hQ : ∀ h1, RepM E h1 a0 ad s' → xf (FM a0 ad) h h1 → Q h1)   : m_X12_more E a0 yp1 h kc ks Q := by
  have F0 : xf (FM a0 ad) h h := xf.rf
  unfold M_more at hm
  unfold m_X12_more
  refine zr_R R0 rfl ?_
  refine zr_I R0 rfl ?_
  have b1 : ¬ (s.1 5 < 0 ∨ 12 ≤ (s.1 5).toNatClampNeg) := fun q => by rw [if_pos q] at hm; cases hm
  rw [if_neg b1] at hm
  refine zr_n ?_
  try dsimp only [lt1] at hm
  refine zr_sl R0 (by decide) b1 (fun h3 R3 f3 => ?_)
  have F3 := F0.tr f3
  obtain ⟨s2, e_s2⟩ : ∃ z, z = mL s 4 (s.1 5).toNatClampNeg yp1 := ⟨_, rfl⟩
  rw [← e_s2] at R3
  try rw [← e_s2] at hm
  refine zr_I R3 rfl ?_
  try dsimp only [lt1] at hm
  refine zr_pI R3 (by decide) rfl (fun h5 R5 f5 => ?_)
  have F5 := F3.tr f5
  obtain ⟨s4, e_s4⟩ : ∃ z, z = mI s2 5 ((s2.1 5) + 1) := ⟨_, rfl⟩
  rw [← e_s4] at R5
  try rw [← e_s4] at hm
  cases hm
  exact hQ _ R5 F5
set_option maxRecDepth 100000 in
set_option maxHeartbeats 4000000 in
theorem z_find_L101 {E : Ev} {a0 : Nat} {ad : Nat → Nat} {r' : Int32} {s' : MS} {K13 : MS → Int32 → Int32 → Option (Int32 × MS)} {J13 : Nat → Int32 → Int32 → Hp → Nat → Nat → Prop} {K58 : MS → Int32 → Int32 → Int32 → Int32 → Option (Int32 × MS)} {J58 : Nat → Int32 → Int32 → Int32 → Int32 → Hp → Nat → Nat → Prop} {Q : Int32 → Hp → Prop} {s : MS} {h : Hp} {kc ks : Nat} {xv4 : Int32} {xv5 : Int32} {xv7 : Int32} {w0 : Int32} (R0 : RepM E h a0 ad s) (hm : M_find_L101 s xv4 xv5 xv7 w0 K13 K58 = some (r', s')) (hK13 : ∀ (s1 : MS) (xv4 : Int32) (xv5 : Int32) (h1 : Hp) (kc1 ks1 : Nat), K13 s1 xv4 xv5 = some (r', s') → RepM E h1 a0 ad s1 → xf (FM a0 ad) h h1 → J13 a0 xv4 xv5 h1 kc1 ks1) (hK58 : ∀ (s1 : MS) (xv4 : Int32) (xv5 : Int32) (xv6 : Int32) (xv7 : Int32) (h1 : Hp) (kc1 ks1 : Nat), K58 s1 xv4 xv5 xv6 xv7 = some (r', s') → RepM E h1 a0 ad s1 → xf (FM a0 ad) h h1 → J58 a0 xv4 xv5 xv6 xv7 h1 kc1 ks1) (hQ : ∀ h1, RepM E h1 a0 ad s' → xf (FM a0 ad) h h1 → Q r' h1) : m_X12_find_L101 E a0 xv4 xv5 xv7 w0 h kc ks J13 J58 Q := by
  have F0 : xf (FM a0 ad) h h := xf.rf
  unfold M_find_L101 at hm
  unfold m_X12_find_L101
  exact hK58 _ _ _ _ _ _ _ _ hm R0 F0
set_option maxRecDepth 100000 in
set_option maxHeartbeats 4000000 in
theorem z_find_L109 {E : Ev} {a0 : Nat} {ad : Nat → Nat} {r' : Int32} {s' : MS} {K13 : MS → Int32 → Int32 → Option (Int32 × MS)} {J13 : Nat → Int32 → Int32 → Hp → Nat → Nat → Prop} {Q : Int32 → Hp → Prop} {s : MS} {h : Hp} {kc ks : Nat} {xv4 : Int32} {xv5 : Int32} {xv6 : Int32} (R0 : RepM E h a0 ad s) (hm : M_find_L109 s xv4 xv5 xv6 K13 = some (r', s')) (hK13 : ∀ (s1 : MS) (xv4 : Int32) (xv5 : Int32) (h1 : Hp) (kc1 ks1 : Nat), K13 s1 xv4 xv5 = some (r', s') → RepM E h1 a0 ad s1 → xf (FM a0 ad) h h1 → J13 a0 xv4 xv5 h1 kc1 ks1) (hQ : ∀ h1, RepM E h1 a0 ad s' → xf (FM a0 ad) h h1 → Q r' h1) : m_X12_find_L109 E a0 xv4 xv5 xv6 h kc ks J13 Q := by
  have F0 : xf (FM a0 ad) h h := xf.rf
  unfold M_find_L109 at hm
  unfold m_X12_find_L109
  refine ⟨fun q11 => ?_, fun q11 => ?_⟩
  · rw [if_pos q11] at hm
    exact hK13 _ _ _ _ _ _ hm R0 F0
  · rw [if_neg q11] at hm
    cases hm
    exact hQ _ R0 F0
set_option maxRecDepth 100000 in
set_option maxHeartbeats 4000000 in
theorem z_find_L58 {E : Ev} {a0 : Nat} {ad : Nat → Nat} {r' : Int32} {s' : MS} {K13 : MS → Int32 → Int32 → Option (Int32 × MS)} {J13 : Nat → Int32 → Int32 → Hp → Nat → Nat → Prop} {Q : Int32 → Hp → Prop} : ∀ (n : Nat) {s : MS} {h : Hp} {kc ks : Nat} {xv4 : Int32} {xv5 : Int32} {xv6 : Int32} {xv7 : Int32} (R0 : RepM E h a0 ad s) (hm : M_find_L58 n s xv4 xv5 xv6 xv7 K13 = some (r', s')) (hK13 : ∀ (s1 : MS) (xv4 : Int32) (xv5 : Int32) (h1 : Hp) (kc1 ks1 : Nat), K13 s1 xv4 xv5 = some (r', s') → RepM E h1 a0 ad s1 → xf (FM a0 ad) h h1 → J13 a0 xv4 xv5 h1 kc1 ks1) (hQ : ∀ h1, RepM E h1 a0 ad s' → xf (FM a0 ad) h h1 → Q r' h1), m_X12_find_L58 n E a0 xv4 xv5 xv6 xv7 h kc ks J13 Q := by
  intro n
  induction n with
  | zero => intro s h kc ks xv4 xv5 xv6 xv7 R0 hm; cases hm
  | succ n ih =>
    intro s h kc ks xv4 xv5 xv6 xv7 R0 hm hK13 hQ
    have F0 : xf (FM a0 ad) h h := xf.rf
    unfold M_find_L58 at hm
    unfold m_X12_find_L58
    refine zr_I R0 rfl ?_
    refine ⟨fun q10 => ?_, fun q10 => ?_⟩
    · rw [if_pos q10] at hm
      exact z_find_L109 R0 hm (fun u1 v0 v1 g1 kc1 ks1 j1 P1 f1 => hK13 u1 v0 v1 g1 kc1 ks1 j1 P1 (F0.tr f1)) (fun h1 R1 f1 => hQ h1 R1 (F0.tr f1))
    · rw [if_neg q10] at hm
      refine ⟨fun q9 => ?_, fun q9 => ?_⟩
      · rw [if_pos q9] at hm
        exact z_find_L109 R0 hm (fun u1 v0 v1 g1 kc1 ks1 j1 P1 f1 => hK13 u1 v0 v1 g1 kc1 ks1 j1 P1 (F0.tr f1)) (fun h1 R1 f1 => hQ h1 R1 (F0.tr f1))
      · rw [if_neg q9] at hm
        refine zr_R R0 rfl ?_
        have b6 : ¬ ((12 * xv5) + xv7 < 0 ∨ 49152 ≤ ((12 * xv5) + xv7).toNatClampNeg) := fun q => by rw [if_pos q] at hm; cases hm
        rw [if_neg b6] at hm
        refine zr_n ?_
        refine zr_l R0 (by decide) b6 ?_
        refine zr_R R0 rfl ?_
        have b7 : ¬ (xv7 < 0 ∨ 12 ≤ (xv7).toNatClampNeg) := fun q => by rw [if_pos q] at hm; cases hm
        rw [if_neg b7] at hm
        refine zr_n ?_
        refine zr_l R0 (by decide) b7 ?_
        refine ⟨fun q8 => ?_, fun q8 => ?_⟩
        · rw [if_pos q8] at hm
          exact z_find_L101 R0 hm (fun u1 v0 v1 g1 kc1 ks1 j1 P1 f1 => hK13 u1 v0 v1 g1 kc1 ks1 j1 P1 (F0.tr f1)) (fun u1 v0 v1 v2 v3 g1 kc1 ks1 j1 P1 f1 => ih P1 j1 (fun u2 v0 v1 g2 kc2 ks2 j2 P2 f2 => hK13 u2 v0 v1 g2 kc2 ks2 j2 P2 ((F0.tr f1).tr f2)) (fun h2 R2 f2 => hQ h2 R2 ((F0.tr f1).tr f2))) (fun h1 R1 f1 => hQ h1 R1 (F0.tr f1))
        · rw [if_neg q8] at hm
          exact z_find_L101 R0 hm (fun u1 v0 v1 g1 kc1 ks1 j1 P1 f1 => hK13 u1 v0 v1 g1 kc1 ks1 j1 P1 (F0.tr f1)) (fun u1 v0 v1 v2 v3 g1 kc1 ks1 j1 P1 f1 => ih P1 j1 (fun u2 v0 v1 g2 kc2 ks2 j2 P2 f2 => hK13 u2 v0 v1 g2 kc2 ks2 j2 P2 ((F0.tr f1).tr f2)) (fun h2 R2 f2 => hQ h2 R2 ((F0.tr f1).tr f2))) (fun h1 R1 f1 => hQ h1 R1 (F0.tr f1))
set_option maxRecDepth 100000 in
set_option maxHeartbeats 4000000 in
theorem z_find_L53 {E : Ev} {a0 : Nat} {ad : Nat → Nat} {r' : Int32} {s' : MS} {K13 : MS → Int32 → Int32 → Option (Int32 × MS)} {J13 : Nat → Int32 → Int32 → Hp → Nat → Nat → Prop} {Q : Int32 → Hp → Prop} {s : MS} {h : Hp} {kc ks : Nat} {xv4 : Int32} {xv5 : Int32} {w0 : Int32} (R0 : RepM E h a0 ad s) (hm : M_find_L53 s xv4 xv5 w0 K13 = some (r', s')) (hK13 : ∀ (s1 : MS) (xv4 : Int32) (xv5 : Int32) (h1 : Hp) (kc1 ks1 : Nat), K13 s1 xv4 xv5 = some (r', s') → RepM E h1 a0 ad s1 → xf (FM a0 ad) h h1 → J13 a0 xv4 xv5 h1 kc1 ks1) (hQ : ∀ h1, RepM E h1 a0 ad s' → xf (FM a0 ad) h h1 → Q r' h1) : m_X12_find_L53 E a0 xv4 xv5 w0 h kc ks J13 Q := by
  have F0 : xf (FM a0 ad) h h := xf.rf
  unfold M_find_L53 at hm
  unfold m_X12_find_L53
  refine ⟨mfu, ?_⟩
  exact z_find_L58 mfu R0 hm (fun u1 v0 v1 g1 kc1 ks1 j1 P1 f1 => hK13 u1 v0 v1 g1 kc1 ks1 j1 P1 (F0.tr f1)) (fun h1 R1 f1 => hQ h1 R1 (F0.tr f1))
set_option maxRecDepth 100000 in
set_option maxHeartbeats 4000000 in
theorem z_find_L52 {E : Ev} {a0 : Nat} {ad : Nat → Nat} {r' : Int32} {s' : MS} {K13 : MS → Int32 → Int32 → Option (Int32 × MS)} {J13 : Nat → Int32 → Int32 → Hp → Nat → Nat → Prop} {Q : Int32 → Hp → Prop} {s : MS} {h : Hp} {kc ks : Nat} {xv4 : Int32} {xv5 : Int32} (R0 : RepM E h a0 ad s) (hm : M_find_L52 s xv4 xv5 K13 = some (r', s')) (hK13 : ∀ (s1 : MS) (xv4 : Int32) (xv5 : Int32) (h1 : Hp) (kc1 ks1 : Nat), K13 s1 xv4 xv5 = some (r', s') → RepM E h1 a0 ad s1 → xf (FM a0 ad) h h1 → J13 a0 xv4 xv5 h1 kc1 ks1) (hQ : ∀ h1, RepM E h1 a0 ad s' → xf (FM a0 ad) h h1 → Q r' h1) : m_X12_find_L52 E a0 xv4 xv5 h kc ks J13 Q := by
  have F0 : xf (FM a0 ad) h h := xf.rf
  unfold M_find_L52 at hm
  unfold m_X12_find_L52
  exact z_find_L53 R0 hm (fun u1 v0 v1 g1 kc1 ks1 j1 P1 f1 => hK13 u1 v0 v1 g1 kc1 ks1 j1 P1 (F0.tr f1)) (fun h1 R1 f1 => hQ h1 R1 (F0.tr f1))
set_option maxRecDepth 100000 in
set_option maxHeartbeats 4000000 in
theorem z_find_L13 {E : Ev} {a0 : Nat} {ad : Nat → Nat} {r' : Int32} {s' : MS} {Q : Int32 → Hp → Prop} : ∀ (n : Nat) {s : MS} {h : Hp} {kc ks : Nat} {xv4 : Int32} {xv5 : Int32} (R0 : RepM E h a0 ad s) (hm : M_find_L13 n s xv4 xv5 = some (r', s')) (hQ : ∀ h1, RepM E h1 a0 ad s' → xf (FM a0 ad) h h1 → Q r' h1), m_X12_find_L13 n E a0 xv4 xv5 h kc ks Q := by
  intro n
  induction n with
  | zero => intro s h kc ks xv4 xv5 R0 hm; cases hm
  | succ n ih =>
    intro s h kc ks xv4 xv5 R0 hm  hQ
    have F0 : xf (FM a0 ad) h h := xf.rf
    unfold M_find_L13 at hm
    unfold m_X12_find_L13
    refine zr_I R0 rfl ?_
    refine ⟨fun q5 => ?_, fun q5 => ?_⟩
    · rw [if_pos q5] at hm
      cases hm
      exact hQ _ R0 F0
    · rw [if_neg q5] at hm
      refine zr_R R0 rfl ?_
      have b1 : ¬ (xv5 < 0 ∨ 4096 ≤ (xv5).toNatClampNeg) := fun q => by rw [if_pos q] at hm; cases hm
      rw [if_neg b1] at hm
      refine zr_n ?_
      refine zr_a R0 (n := 4096) (by decide) b1 ?_
      refine ⟨fun q4 => ?_, fun q4 => ?_⟩
      · rw [if_pos q4] at hm
        refine zr_R R0 rfl ?_
        have b2 : ¬ (xv5 < 0 ∨ 4096 ≤ (xv5).toNatClampNeg) := fun q => by rw [if_pos q] at hm; cases hm
        rw [if_neg b2] at hm
        refine zr_n ?_
        refine zr_a R0 (n := 4096) (by decide) b2 ?_
        refine zr_I R0 rfl ?_
        refine ⟨fun q3 => ?_, fun q3 => ?_⟩
        · rw [if_pos q3] at hm
          exact z_find_L53 R0 hm (fun u1 v0 v1 g1 kc1 ks1 j1 P1 f1 => ih P1 j1 (fun h2 R2 f2 => hQ h2 R2 ((F0.tr f1).tr f2))) (fun h1 R1 f1 => hQ h1 R1 (F0.tr f1))
        · rw [if_neg q3] at hm
          exact z_find_L52 R0 hm (fun u1 v0 v1 g1 kc1 ks1 j1 P1 f1 => ih P1 j1 (fun h2 R2 f2 => hQ h2 R2 ((F0.tr f1).tr f2))) (fun h1 R1 f1 => hQ h1 R1 (F0.tr f1))
      · rw [if_neg q4] at hm
        exact z_find_L52 R0 hm (fun u1 v0 v1 g1 kc1 ks1 j1 P1 f1 => ih P1 j1 (fun h2 R2 f2 => hQ h2 R2 ((F0.tr f1).tr f2))) (fun h1 R1 f1 => hQ h1 R1 (F0.tr f1))
set_option maxRecDepth 100000 in
set_option maxHeartbeats 4000000 in
theorem z_find {E : Ev} {a0 : Nat} {ad : Nat → Nat} {r' : Int32} {s' : MS} {Q : Int32 → Hp → Prop} {s : MS} {h : Hp} {kc ks : Nat} {xp1 : Int32} {yp2 : Int64} (R0 : RepM E h a0 ad s) (hm : M_find s xp1 yp2 = some (r', s')) (hQ : ∀ h1, RepM E h1 a0 ad s' → xf (FM a0 ad) h h1 → Q r' h1)   : m_X12_find E a0 xp1 yp2 h kc ks Q := by
  have F0 : xf (FM a0 ad) h h := xf.rf
  unfold M_find at hm
  unfold m_X12_find
  refine ⟨mfu, ?_⟩
  exact z_find_L13 mfu R0 hm (fun h1 R1 f1 => hQ h1 R1 (F0.tr f1))
set_option maxRecDepth 100000 in
set_option maxHeartbeats 4000000 in
theorem z_seal_L49 {E : Ev} {a0 : Nat} {ad : Nat → Nat} {r' : Int32} {s' : MS} {Q : Int32 → Hp → Prop} : ∀ (n : Nat) {s : MS} {h : Hp} {kc ks : Nat} {xv5 : Int32} (R0 : RepM E h a0 ad s) (hm : M_seal_L49 n s xv5 = some (r', s')) (hQ : ∀ h1, RepM E h1 a0 ad s' → xf (FM a0 ad) h h1 → Q r' h1), m_X12_seal_L49 n E a0 xv5 h kc ks Q := by
  intro n
  induction n with
  | zero => intro s h kc ks xv5 R0 hm; cases hm
  | succ n ih =>
    intro s h kc ks xv5 R0 hm  hQ
    have F0 : xf (FM a0 ad) h h := xf.rf
    unfold M_seal_L49 at hm
    unfold m_X12_seal_L49
    refine zr_I R0 rfl ?_
    refine ⟨fun q18 => ?_, fun q18 => ?_⟩
    · rw [if_pos q18] at hm
      refine zr_I R0 rfl ?_
      try dsimp only [lt1] at hm
      refine zr_pI R0 (by decide) rfl (fun h13 R13 f13 => ?_)
      have F13 := F0.tr f13
      obtain ⟨s12, e_s12⟩ : ∃ z, z = mI s 0 ((s.1 0) + 1) := ⟨_, rfl⟩
      rw [← e_s12] at R13
      try rw [← e_s12] at hm
      refine zr_I R13 rfl ?_
      cases hm
      exact hQ _ R13 F13
    · rw [if_neg q18] at hm
      refine zr_R R0 rfl ?_
      refine zr_I R0 rfl ?_
      refine zr_R R0 rfl ?_
      have b14 : ¬ (xv5 < 0 ∨ 12 ≤ (xv5).toNatClampNeg) := fun q => by rw [if_pos q] at hm; cases hm
      rw [if_neg b14] at hm
      refine zr_n ?_
      refine zr_l R0 (by decide) b14 ?_
      have b15 : ¬ ((12 * (s.1 0)) + xv5 < 0 ∨ 49152 ≤ ((12 * (s.1 0)) + xv5).toNatClampNeg) := fun q => by rw [if_pos q] at hm; cases hm
      rw [if_neg b15] at hm
      refine zr_n ?_
      try dsimp only [lt1] at hm
      refine zr_sl R0 (by decide) b15 (fun h17 R17 f17 => ?_)
      have F17 := F0.tr f17
      obtain ⟨s16, e_s16⟩ : ∃ z, z = mL s 3 ((12 * (s.1 0)) + xv5).toNatClampNeg (s.2.2.2 4 (xv5).toNatClampNeg) := ⟨_, rfl⟩
      rw [← e_s16] at R17
      try rw [← e_s16] at hm
      exact ih R17 hm (fun h1 R1 f1 => hQ h1 R1 (F17.tr f1))
set_option maxRecDepth 100000 in
set_option maxHeartbeats 4000000 in
theorem z_seal {E : Ev} {a0 : Nat} {ad : Nat → Nat} {r' : Int32} {s' : MS} {Q : Int32 → Hp → Prop} {s : MS} {h : Hp} {kc ks : Nat} {xp1 : Int32} {yp2 : Int64} (R0 : RepM E h a0 ad s) (hm : M_seal s xp1 yp2 = some (r', s')) (hQ : ∀ h1, RepM E h1 a0 ad s' → xf (FM a0 ad) h h1 → Q r' h1)   : m_X12_seal E a0 xp1 yp2 h kc ks Q := by
  have F0 : xf (FM a0 ad) h h := xf.rf
  unfold M_seal at hm
  unfold m_X12_seal
  obtain ⟨⟨x1, s2⟩, o4, hm⟩ := Option.bind_eq_some_iff.mp hm
  try dsimp only [lt1] at hm
  refine zr_O R0 ?_
  refine z_find R0 o4 (fun h3 R3 f3 => ?_)
  have F3 := F0.tr f3
  refine ⟨fun q11 => ?_, fun q11 => ?_⟩
  · rw [if_pos q11] at hm
    refine zr_R R3 rfl ?_
    refine zr_I R3 rfl ?_
    have b5 : ¬ (s2.1 0 < 0 ∨ 4096 ≤ (s2.1 0).toNatClampNeg) := fun q => by rw [if_pos q] at hm; cases hm
    rw [if_neg b5] at hm
    refine zr_n ?_
    try dsimp only [lt1] at hm
    refine zr_s R3 (n := 4096) (by decide) b5 (fun h7 R7 f7 => ?_)
    have F7 := F3.tr f7
    obtain ⟨s6, e_s6⟩ : ∃ z, z = mA s2 1 (s2.1 0).toNatClampNeg ((256 * xp1) + yp2.toInt32) := ⟨_, rfl⟩
    rw [← e_s6] at R7
    try rw [← e_s6] at hm
    refine zr_R R7 rfl ?_
    refine zr_I R7 rfl ?_
    refine zr_I R7 rfl ?_
    have b8 : ¬ (s6.1 0 < 0 ∨ 4096 ≤ (s6.1 0).toNatClampNeg) := fun q => by rw [if_pos q] at hm; cases hm
    rw [if_neg b8] at hm
    refine zr_n ?_
    try dsimp only [lt1] at hm
    refine zr_s R7 (n := 4096) (by decide) b8 (fun h10 R10 f10 => ?_)
    have F10 := F7.tr f10
    obtain ⟨s9, e_s9⟩ : ∃ z, z = mA s6 2 (s6.1 0).toNatClampNeg (s6.1 5) := ⟨_, rfl⟩
    rw [← e_s9] at R10
    try rw [← e_s9] at hm
    refine ⟨mfu, ?_⟩
    exact z_seal_L49 mfu R10 hm (fun h1 R1 f1 => hQ h1 R1 (F10.tr f1))
  · rw [if_neg q11] at hm
    cases hm
    exact hQ _ R3 F3
set_option maxRecDepth 100000 in
set_option maxHeartbeats 4000000 in
theorem z_isGood {E : Ev} {a0 : Nat} {ad : Nat → Nat} {r' : Int32} {s' : MS} {Q : Int32 → Hp → Prop} {s : MS} {h : Hp} {kc ks : Nat} {xp1 : Int32} {yp2 : Int64} {yp4 : Int64} (R0 : RepM E h a0 ad s) (hm : M_isGood s xp1 yp2 yp4 = some (r', s')) (hQ : ∀ h1, RepM E h1 a0 ad s' → xf (FM a0 ad) h h1 → Q r' h1)   : m_X12_isGood E a0 xp1 yp2 yp4 h kc ks Q := by
  have F0 : xf (FM a0 ad) h h := xf.rf
  unfold M_isGood at hm
  unfold m_X12_isGood
  refine ⟨fun q6 => ?_, fun q6 => ?_⟩
  · rw [if_pos q6] at hm
    cases hm
    exact hQ _ R0 F0
  · rw [if_neg q6] at hm
    obtain ⟨⟨x1, s2⟩, o4, hm⟩ := Option.bind_eq_some_iff.mp hm
    try dsimp only [lt1] at hm
    refine zr_O R0 ?_
    refine z_find R0 o4 (fun h3 R3 f3 => ?_)
    have F3 := F0.tr f3
    refine ⟨fun q5 => ?_, fun q5 => ?_⟩
    · rw [if_pos q5] at hm
      cases hm
      exact hQ _ R3 F3
    · rw [if_neg q5] at hm
      cases hm
      exact hQ _ R3 F3
set_option maxRecDepth 100000 in
set_option maxHeartbeats 4000000 in
theorem z_lengthOf {E : Ev} {a0 : Nat} {ad : Nat → Nat} {r' : Int32} {s' : MS} {Q : Int32 → Hp → Prop} {s : MS} {h : Hp} {kc ks : Nat} {xp0 : Int32} (R0 : RepM E h a0 ad s) (hm : M_lengthOf s xp0 = some (r', s')) (hQ : ∀ h1, RepM E h1 a0 ad s' → xf (FM a0 ad) h h1 → Q r' h1)   : m_X12_lengthOf E xp0 h kc ks Q := by
  have F0 : xf (FM a0 ad) h h := xf.rf
  unfold M_lengthOf at hm
  unfold m_X12_lengthOf
  refine ⟨fun q11 => ?_, fun q11 => ?_⟩
  · rw [if_pos q11] at hm
    cases hm
    exact hQ _ R0 F0
  · rw [if_neg q11] at hm
    refine ⟨fun q10 => ?_, fun q10 => ?_⟩
    · rw [if_pos q10] at hm
      cases hm
      exact hQ _ R0 F0
    · rw [if_neg q10] at hm
      refine ⟨fun q9 => ?_, fun q9 => ?_⟩
      · rw [if_pos q9] at hm
        cases hm
        exact hQ _ R0 F0
      · rw [if_neg q9] at hm
        refine ⟨fun q8 => ?_, fun q8 => ?_⟩
        · rw [if_pos q8] at hm
          cases hm
          exact hQ _ R0 F0
        · rw [if_neg q8] at hm
          refine ⟨fun q7 => ?_, fun q7 => ?_⟩
          · rw [if_pos q7] at hm
            cases hm
            exact hQ _ R0 F0
          · rw [if_neg q7] at hm
            refine ⟨fun q6 => ?_, fun q6 => ?_⟩
            · rw [if_pos q6] at hm
              cases hm
              exact hQ _ R0 F0
            · rw [if_neg q6] at hm
              refine ⟨fun q5 => ?_, fun q5 => ?_⟩
              · rw [if_pos q5] at hm
                cases hm
                exact hQ _ R0 F0
              · rw [if_neg q5] at hm
                refine ⟨fun q4 => ?_, fun q4 => ?_⟩
                · rw [if_pos q4] at hm
                  cases hm
                  exact hQ _ R0 F0
                · rw [if_neg q4] at hm
                  refine ⟨fun q3 => ?_, fun q3 => ?_⟩
                  · rw [if_pos q3] at hm
                    cases hm
                    exact hQ _ R0 F0
                  · rw [if_neg q3] at hm
                    refine ⟨fun q2 => ?_, fun q2 => ?_⟩
                    · rw [if_pos q2] at hm
                      cases hm
                      exact hQ _ R0 F0
                    · rw [if_neg q2] at hm
                      refine ⟨fun q1 => ?_, fun q1 => ?_⟩
                      · rw [if_pos q1] at hm
                        cases hm
                        exact hQ _ R0 F0
                      · rw [if_neg q1] at hm
                        cases hm
                        exact hQ _ R0 F0
set_option maxRecDepth 100000 in
set_option maxHeartbeats 4000000 in
theorem z_has_L87 {E : Ev} {a0 : Nat} {ad : Nat → Nat} {r' : Int32} {s' : MS} {Q : Int32 → Hp → Prop} {s : MS} {h : Hp} {kc ks : Nat}  (R0 : RepM E h a0 ad s) (hm : M_has_L87 s  = some (r', s')) (hQ : ∀ h1, RepM E h1 a0 ad s' → xf (FM a0 ad) h h1 → Q r' h1) : m_X12_has_L87 E  h kc ks Q := by
  have F0 : xf (FM a0 ad) h h := xf.rf
  unfold M_has_L87 at hm
  unfold m_X12_has_L87
  cases hm
  exact hQ _ R0 F0
set_option maxRecDepth 100000 in
set_option maxHeartbeats 4000000 in
theorem z_has_L138 {E : Ev} {a0 : Nat} {ad : Nat → Nat} {r' : Int32} {s' : MS} {Q : Int32 → Hp → Prop} {s : MS} {h : Hp} {kc ks : Nat}  (R0 : RepM E h a0 ad s) (hm : M_has_L138 s  = some (r', s')) (hQ : ∀ h1, RepM E h1 a0 ad s' → xf (FM a0 ad) h h1 → Q r' h1) : m_X12_has_L138 E  h kc ks Q := by
  have F0 : xf (FM a0 ad) h h := xf.rf
  unfold M_has_L138 at hm
  unfold m_X12_has_L138
  cases hm
  exact hQ _ R0 F0
set_option maxRecDepth 100000 in
set_option maxHeartbeats 4000000 in
theorem z_has_L167 {E : Ev} {a0 : Nat} {ad : Nat → Nat} {r' : Int32} {s' : MS} {Q : Int32 → Hp → Prop} {s : MS} {h : Hp} {kc ks : Nat}  (R0 : RepM E h a0 ad s) (hm : M_has_L167 s  = some (r', s')) (hQ : ∀ h1, RepM E h1 a0 ad s' → xf (FM a0 ad) h h1 → Q r' h1) : m_X12_has_L167 E  h kc ks Q := by
  have F0 : xf (FM a0 ad) h h := xf.rf
  unfold M_has_L167 at hm
  unfold m_X12_has_L167
  cases hm
  exact hQ _ R0 F0
set_option maxRecDepth 100000 in
set_option maxHeartbeats 4000000 in
theorem z_has_L191 {E : Ev} {a0 : Nat} {ad : Nat → Nat} {r' : Int32} {s' : MS} {Q : Int32 → Hp → Prop} {s : MS} {h : Hp} {kc ks : Nat}  (R0 : RepM E h a0 ad s) (hm : M_has_L191 s  = some (r', s')) (hQ : ∀ h1, RepM E h1 a0 ad s' → xf (FM a0 ad) h h1 → Q r' h1) : m_X12_has_L191 E  h kc ks Q := by
  have F0 : xf (FM a0 ad) h h := xf.rf
  unfold M_has_L191 at hm
  unfold m_X12_has_L191
  cases hm
  exact hQ _ R0 F0
set_option maxRecDepth 100000 in
set_option maxHeartbeats 4000000 in
theorem z_has_L225 {E : Ev} {a0 : Nat} {ad : Nat → Nat} {r' : Int32} {s' : MS} {Q : Int32 → Hp → Prop} {s : MS} {h : Hp} {kc ks : Nat}  (R0 : RepM E h a0 ad s) (hm : M_has_L225 s  = some (r', s')) (hQ : ∀ h1, RepM E h1 a0 ad s' → xf (FM a0 ad) h h1 → Q r' h1) : m_X12_has_L225 E  h kc ks Q := by
  have F0 : xf (FM a0 ad) h h := xf.rf
  unfold M_has_L225 at hm
  unfold m_X12_has_L225
  cases hm
  exact hQ _ R0 F0
set_option maxRecDepth 100000 in
set_option maxHeartbeats 4000000 in
theorem z_has_L243 {E : Ev} {a0 : Nat} {ad : Nat → Nat} {r' : Int32} {s' : MS} {Q : Int32 → Hp → Prop} {s : MS} {h : Hp} {kc ks : Nat}  (R0 : RepM E h a0 ad s) (hm : M_has_L243 s  = some (r', s')) (hQ : ∀ h1, RepM E h1 a0 ad s' → xf (FM a0 ad) h h1 → Q r' h1) : m_X12_has_L243 E  h kc ks Q := by
  have F0 : xf (FM a0 ad) h h := xf.rf
  unfold M_has_L243 at hm
  unfold m_X12_has_L243
  cases hm
  exact hQ _ R0 F0
set_option maxRecDepth 100000 in
set_option maxHeartbeats 4000000 in
theorem z_has_L261 {E : Ev} {a0 : Nat} {ad : Nat → Nat} {r' : Int32} {s' : MS} {Q : Int32 → Hp → Prop} {s : MS} {h : Hp} {kc ks : Nat}  (R0 : RepM E h a0 ad s) (hm : M_has_L261 s  = some (r', s')) (hQ : ∀ h1, RepM E h1 a0 ad s' → xf (FM a0 ad) h h1 → Q r' h1) : m_X12_has_L261 E  h kc ks Q := by
  have F0 : xf (FM a0 ad) h h := xf.rf
  unfold M_has_L261 at hm
  unfold m_X12_has_L261
  cases hm
  exact hQ _ R0 F0
set_option maxRecDepth 100000 in
set_option maxHeartbeats 4000000 in
theorem z_has {E : Ev} {a0 : Nat} {ad : Nat → Nat} {r' : Int32} {s' : MS} {Q : Int32 → Hp → Prop} {s : MS} {h : Hp} {kc ks : Nat} {xp0 : Int32} {xp1 : Int32} (R0 : RepM E h a0 ad s) (hm : M_has s xp0 xp1 = some (r', s')) (hQ : ∀ h1, RepM E h1 a0 ad s' → xf (FM a0 ad) h h1 → Q r' h1)   : m_X12_has E xp0 xp1 h kc ks Q := by
  have F0 : xf (FM a0 ad) h h := xf.rf
  unfold M_has at hm
  unfold m_X12_has
  refine ⟨fun q40 => ?_, fun q40 => ?_⟩
  · rw [if_pos q40] at hm
    refine ⟨fun q39 => ?_, fun q39 => ?_⟩
    · rw [if_pos q39] at hm
      cases hm
      exact hQ _ R0 F0
    · rw [if_neg q39] at hm
      cases hm
      exact hQ _ R0 F0
  · rw [if_neg q40] at hm
    refine ⟨fun q38 => ?_, fun q38 => ?_⟩
    · rw [if_pos q38] at hm
      refine ⟨fun q37 => ?_, fun q37 => ?_⟩
      · rw [if_pos q37] at hm
        exact z_has_L87 R0 hm (fun h1 R1 f1 => hQ h1 R1 (F0.tr f1))
      · rw [if_neg q37] at hm
        refine ⟨fun q36 => ?_, fun q36 => ?_⟩
        · rw [if_pos q36] at hm
          exact z_has_L87 R0 hm (fun h1 R1 f1 => hQ h1 R1 (F0.tr f1))
        · rw [if_neg q36] at hm
          refine ⟨fun q35 => ?_, fun q35 => ?_⟩
          · rw [if_pos q35] at hm
            exact z_has_L87 R0 hm (fun h1 R1 f1 => hQ h1 R1 (F0.tr f1))
          · rw [if_neg q35] at hm
            cases hm
            exact hQ _ R0 F0
    · rw [if_neg q38] at hm
      refine ⟨fun q34 => ?_, fun q34 => ?_⟩
      · rw [if_pos q34] at hm
        refine ⟨fun q33 => ?_, fun q33 => ?_⟩
        · rw [if_pos q33] at hm
          cases hm
          exact hQ _ R0 F0
        · rw [if_neg q33] at hm
          cases hm
          exact hQ _ R0 F0
      · rw [if_neg q34] at hm
        refine ⟨fun q32 => ?_, fun q32 => ?_⟩
        · rw [if_pos q32] at hm
          refine ⟨fun q31 => ?_, fun q31 => ?_⟩
          · rw [if_pos q31] at hm
            cases hm
            exact hQ _ R0 F0
          · rw [if_neg q31] at hm
            cases hm
            exact hQ _ R0 F0
        · rw [if_neg q32] at hm
          refine ⟨fun q30 => ?_, fun q30 => ?_⟩
          · rw [if_pos q30] at hm
            refine ⟨fun q29 => ?_, fun q29 => ?_⟩
            · rw [if_pos q29] at hm
              exact z_has_L138 R0 hm (fun h1 R1 f1 => hQ h1 R1 (F0.tr f1))
            · rw [if_neg q29] at hm
              refine ⟨fun q28 => ?_, fun q28 => ?_⟩
              · rw [if_pos q28] at hm
                exact z_has_L138 R0 hm (fun h1 R1 f1 => hQ h1 R1 (F0.tr f1))
              · rw [if_neg q28] at hm
                refine ⟨fun q27 => ?_, fun q27 => ?_⟩
                · rw [if_pos q27] at hm
                  exact z_has_L138 R0 hm (fun h1 R1 f1 => hQ h1 R1 (F0.tr f1))
                · rw [if_neg q27] at hm
                  refine ⟨fun q26 => ?_, fun q26 => ?_⟩
                  · rw [if_pos q26] at hm
                    exact z_has_L138 R0 hm (fun h1 R1 f1 => hQ h1 R1 (F0.tr f1))
                  · rw [if_neg q26] at hm
                    cases hm
                    exact hQ _ R0 F0
          · rw [if_neg q30] at hm
            refine ⟨fun q25 => ?_, fun q25 => ?_⟩
            · rw [if_pos q25] at hm
              refine ⟨fun q24 => ?_, fun q24 => ?_⟩
              · rw [if_pos q24] at hm
                exact z_has_L167 R0 hm (fun h1 R1 f1 => hQ h1 R1 (F0.tr f1))
              · rw [if_neg q24] at hm
                refine ⟨fun q23 => ?_, fun q23 => ?_⟩
                · rw [if_pos q23] at hm
                  exact z_has_L167 R0 hm (fun h1 R1 f1 => hQ h1 R1 (F0.tr f1))
                · rw [if_neg q23] at hm
                  refine ⟨fun q22 => ?_, fun q22 => ?_⟩
                  · rw [if_pos q22] at hm
                    exact z_has_L167 R0 hm (fun h1 R1 f1 => hQ h1 R1 (F0.tr f1))
                  · rw [if_neg q22] at hm
                    refine ⟨fun q21 => ?_, fun q21 => ?_⟩
                    · rw [if_pos q21] at hm
                      exact z_has_L167 R0 hm (fun h1 R1 f1 => hQ h1 R1 (F0.tr f1))
                    · rw [if_neg q21] at hm
                      cases hm
                      exact hQ _ R0 F0
            · rw [if_neg q25] at hm
              refine ⟨fun q20 => ?_, fun q20 => ?_⟩
              · rw [if_pos q20] at hm
                refine ⟨fun q19 => ?_, fun q19 => ?_⟩
                · rw [if_pos q19] at hm
                  exact z_has_L191 R0 hm (fun h1 R1 f1 => hQ h1 R1 (F0.tr f1))
                · rw [if_neg q19] at hm
                  refine ⟨fun q18 => ?_, fun q18 => ?_⟩
                  · rw [if_pos q18] at hm
                    exact z_has_L191 R0 hm (fun h1 R1 f1 => hQ h1 R1 (F0.tr f1))
                  · rw [if_neg q18] at hm
                    refine ⟨fun q17 => ?_, fun q17 => ?_⟩
                    · rw [if_pos q17] at hm
                      exact z_has_L191 R0 hm (fun h1 R1 f1 => hQ h1 R1 (F0.tr f1))
                    · rw [if_neg q17] at hm
                      cases hm
                      exact hQ _ R0 F0
              · rw [if_neg q20] at hm
                refine ⟨fun q16 => ?_, fun q16 => ?_⟩
                · rw [if_pos q16] at hm
                  refine ⟨fun q15 => ?_, fun q15 => ?_⟩
                  · rw [if_pos q15] at hm
                    exact z_has_L225 R0 hm (fun h1 R1 f1 => hQ h1 R1 (F0.tr f1))
                  · rw [if_neg q15] at hm
                    refine ⟨fun q14 => ?_, fun q14 => ?_⟩
                    · rw [if_pos q14] at hm
                      exact z_has_L225 R0 hm (fun h1 R1 f1 => hQ h1 R1 (F0.tr f1))
                    · rw [if_neg q14] at hm
                      refine ⟨fun q13 => ?_, fun q13 => ?_⟩
                      · rw [if_pos q13] at hm
                        exact z_has_L225 R0 hm (fun h1 R1 f1 => hQ h1 R1 (F0.tr f1))
                      · rw [if_neg q13] at hm
                        refine ⟨fun q12 => ?_, fun q12 => ?_⟩
                        · rw [if_pos q12] at hm
                          exact z_has_L225 R0 hm (fun h1 R1 f1 => hQ h1 R1 (F0.tr f1))
                        · rw [if_neg q12] at hm
                          refine ⟨fun q11 => ?_, fun q11 => ?_⟩
                          · rw [if_pos q11] at hm
                            exact z_has_L225 R0 hm (fun h1 R1 f1 => hQ h1 R1 (F0.tr f1))
                          · rw [if_neg q11] at hm
                            cases hm
                            exact hQ _ R0 F0
                · rw [if_neg q16] at hm
                  refine ⟨fun q10 => ?_, fun q10 => ?_⟩
                  · rw [if_pos q10] at hm
                    refine ⟨fun q9 => ?_, fun q9 => ?_⟩
                    · rw [if_pos q9] at hm
                      exact z_has_L243 R0 hm (fun h1 R1 f1 => hQ h1 R1 (F0.tr f1))
                    · rw [if_neg q9] at hm
                      refine ⟨fun q8 => ?_, fun q8 => ?_⟩
                      · rw [if_pos q8] at hm
                        exact z_has_L243 R0 hm (fun h1 R1 f1 => hQ h1 R1 (F0.tr f1))
                      · rw [if_neg q8] at hm
                        cases hm
                        exact hQ _ R0 F0
                  · rw [if_neg q10] at hm
                    refine ⟨fun q7 => ?_, fun q7 => ?_⟩
                    · rw [if_pos q7] at hm
                      refine ⟨fun q6 => ?_, fun q6 => ?_⟩
                      · rw [if_pos q6] at hm
                        exact z_has_L261 R0 hm (fun h1 R1 f1 => hQ h1 R1 (F0.tr f1))
                      · rw [if_neg q6] at hm
                        refine ⟨fun q5 => ?_, fun q5 => ?_⟩
                        · rw [if_pos q5] at hm
                          exact z_has_L261 R0 hm (fun h1 R1 f1 => hQ h1 R1 (F0.tr f1))
                        · rw [if_neg q5] at hm
                          cases hm
                          exact hQ _ R0 F0
                    · rw [if_neg q7] at hm
                      refine ⟨fun q4 => ?_, fun q4 => ?_⟩
                      · rw [if_pos q4] at hm
                        refine ⟨fun q3 => ?_, fun q3 => ?_⟩
                        · rw [if_pos q3] at hm
                          exact z_has_L191 R0 hm (fun h1 R1 f1 => hQ h1 R1 (F0.tr f1))
                        · rw [if_neg q3] at hm
                          refine ⟨fun q2 => ?_, fun q2 => ?_⟩
                          · rw [if_pos q2] at hm
                            exact z_has_L191 R0 hm (fun h1 R1 f1 => hQ h1 R1 (F0.tr f1))
                          · rw [if_neg q2] at hm
                            refine ⟨fun q1 => ?_, fun q1 => ?_⟩
                            · rw [if_pos q1] at hm
                              exact z_has_L191 R0 hm (fun h1 R1 f1 => hQ h1 R1 (F0.tr f1))
                            · rw [if_neg q1] at hm
                              cases hm
                              exact hQ _ R0 F0
                      · rw [if_neg q4] at hm
                        cases hm
                        exact hQ _ R0 F0
set_option maxRecDepth 100000 in
set_option maxHeartbeats 4000000 in
theorem z_lie {E : Ev} {a0 : Nat} {ad : Nat → Nat} {s' : MS} {Q : Hp → Prop} {s : MS} {h : Hp} {kc ks : Nat} {xp1 : Int32} {xp2 : Int32} {xp3 : Int32} {xp4 : Int32} {xp5 : Int32} (R0 : RepM E h a0 ad s) (hm : M_lie s xp1 xp2 xp3 xp4 xp5 = some s') (hQ : ∀ h1, RepM E h1 a0 ad s' → xf (FM a0 ad) h h1 → Q h1)   : m_X12_lie E a0 xp1 xp2 xp3 xp4 xp5 h kc ks Q := by
  have F0 : xf (FM a0 ad) h h := xf.rf
  unfold M_lie at hm
  unfold m_X12_lie
  refine zr_R R0 rfl ?_
  refine zr_I R0 rfl ?_
  have b1 : ¬ (s.1 6 < 0 ∨ 60 ≤ (s.1 6).toNatClampNeg) := fun q => by rw [if_pos q] at hm; cases hm
  rw [if_neg b1] at hm
  refine zr_n ?_
  try dsimp only [lt1] at hm
  refine zr_s R0 (n := 60) (by decide) b1 (fun h3 R3 f3 => ?_)
  have F3 := F0.tr f3
  obtain ⟨s2, e_s2⟩ : ∃ z, z = mA s 7 (s.1 6).toNatClampNeg xp1 := ⟨_, rfl⟩
  rw [← e_s2] at R3
  try rw [← e_s2] at hm
  refine zr_R R3 rfl ?_
  refine zr_I R3 rfl ?_
  have b4 : ¬ (s2.1 6 < 0 ∨ 60 ≤ (s2.1 6).toNatClampNeg) := fun q => by rw [if_pos q] at hm; cases hm
  rw [if_neg b4] at hm
  refine zr_n ?_
  try dsimp only [lt1] at hm
  refine zr_s R3 (n := 60) (by decide) b4 (fun h6 R6 f6 => ?_)
  have F6 := F3.tr f6
  obtain ⟨s5, e_s5⟩ : ∃ z, z = mA s2 8 (s2.1 6).toNatClampNeg xp2 := ⟨_, rfl⟩
  rw [← e_s5] at R6
  try rw [← e_s5] at hm
  refine zr_R R6 rfl ?_
  refine zr_I R6 rfl ?_
  have b7 : ¬ (s5.1 6 < 0 ∨ 60 ≤ (s5.1 6).toNatClampNeg) := fun q => by rw [if_pos q] at hm; cases hm
  rw [if_neg b7] at hm
  refine zr_n ?_
  try dsimp only [lt1] at hm
  refine zr_s R6 (n := 60) (by decide) b7 (fun h9 R9 f9 => ?_)
  have F9 := F6.tr f9
  obtain ⟨s8, e_s8⟩ : ∃ z, z = mA s5 9 (s5.1 6).toNatClampNeg xp3 := ⟨_, rfl⟩
  rw [← e_s8] at R9
  try rw [← e_s8] at hm
  refine zr_R R9 rfl ?_
  refine zr_I R9 rfl ?_
  have b10 : ¬ (s8.1 6 < 0 ∨ 60 ≤ (s8.1 6).toNatClampNeg) := fun q => by rw [if_pos q] at hm; cases hm
  rw [if_neg b10] at hm
  refine zr_n ?_
  try dsimp only [lt1] at hm
  refine zr_s R9 (n := 60) (by decide) b10 (fun h12 R12 f12 => ?_)
  have F12 := F9.tr f12
  obtain ⟨s11, e_s11⟩ : ∃ z, z = mA s8 10 (s8.1 6).toNatClampNeg xp4 := ⟨_, rfl⟩
  rw [← e_s11] at R12
  try rw [← e_s11] at hm
  refine zr_R R12 rfl ?_
  refine zr_I R12 rfl ?_
  have b13 : ¬ (s11.1 6 < 0 ∨ 60 ≤ (s11.1 6).toNatClampNeg) := fun q => by rw [if_pos q] at hm; cases hm
  rw [if_neg b13] at hm
  refine zr_n ?_
  try dsimp only [lt1] at hm
  refine zr_s R12 (n := 60) (by decide) b13 (fun h15 R15 f15 => ?_)
  have F15 := F12.tr f15
  obtain ⟨s14, e_s14⟩ : ∃ z, z = mA s11 11 (s11.1 6).toNatClampNeg xp5 := ⟨_, rfl⟩
  rw [← e_s14] at R15
  try rw [← e_s14] at hm
  refine zr_I R15 rfl ?_
  try dsimp only [lt1] at hm
  refine zr_pI R15 (by decide) rfl (fun h17 R17 f17 => ?_)
  have F17 := F15.tr f17
  obtain ⟨s16, e_s16⟩ : ∃ z, z = mI s14 6 ((s14.1 6) + 1) := ⟨_, rfl⟩
  rw [← e_s16] at R17
  try rw [← e_s16] at hm
  cases hm
  exact hQ _ R17 F17
set_option maxRecDepth 100000 in
set_option maxHeartbeats 4000000 in
theorem z_send_L146 {E : Ev} {a0 : Nat} {ad : Nat → Nat} {r' : Int32} {s' : MS} {K34 : MS → Int32 → Int32 → Int32 → Int32 → Int32 → Int32 → Int32 → Int32 → Option (Int32 × MS)} {J34 : Nat → Int32 → Int32 → Int32 → Int32 → Int32 → Int32 → Int32 → Int32 → Hp → Nat → Nat → Prop} {Q : Int32 → Hp → Prop} {s : MS} {h : Hp} {kc ks : Nat} {xv1 : Int32} {xv2 : Int32} {xv3 : Int32} {xv4 : Int32} {xv5 : Int32} {xv6 : Int32} {xv7 : Int32} {xv8 : Int32} (R0 : RepM E h a0 ad s) (hm : M_send_L146 s xv1 xv2 xv3 xv4 xv5 xv6 xv7 xv8 K34 = some (r', s')) (hK34 : ∀ (s1 : MS) (xv1 : Int32) (xv2 : Int32) (xv3 : Int32) (xv4 : Int32) (xv5 : Int32) (xv6 : Int32) (xv7 : Int32) (xv8 : Int32) (h1 : Hp) (kc1 ks1 : Nat), K34 s1 xv1 xv2 xv3 xv4 xv5 xv6 xv7 xv8 = some (r', s') → RepM E h1 a0 ad s1 → xf (FM a0 ad) h h1 → J34 a0 xv1 xv2 xv3 xv4 xv5 xv6 xv7 xv8 h1 kc1 ks1) (hQ : ∀ h1, RepM E h1 a0 ad s' → xf (FM a0 ad) h h1 → Q r' h1) : m_X12_send_L146 E a0 xv1 xv2 xv3 xv4 xv5 xv6 xv7 xv8 h kc ks J34 Q := by
  have F0 : xf (FM a0 ad) h h := xf.rf
  unfold M_send_L146 at hm
  unfold m_X12_send_L146
  exact hK34 _ _ _ _ _ _ _ _ _ _ _ _ hm R0 F0
set_option maxRecDepth 100000 in
set_option maxHeartbeats 4000000 in
theorem z_send_L86 {E : Ev} {a0 : Nat} {ad : Nat → Nat} {r' : Int32} {s' : MS} {K34 : MS → Int32 → Int32 → Int32 → Int32 → Int32 → Int32 → Int32 → Int32 → Option (Int32 × MS)} {J34 : Nat → Int32 → Int32 → Int32 → Int32 → Int32 → Int32 → Int32 → Int32 → Hp → Nat → Nat → Prop} {Q : Int32 → Hp → Prop} : ∀ (n : Nat) {s : MS} {h : Hp} {kc ks : Nat} {xv1 : Int32} {xv2 : Int32} {xv3 : Int32} {xv4 : Int32} {xv5 : Int32} {xv6 : Int32} {xv7 : Int32} {xv8 : Int32} {xv9 : Int32} {xv10 : Int32} (R0 : RepM E h a0 ad s) (hm : M_send_L86 n s xv1 xv2 xv3 xv4 xv5 xv6 xv7 xv8 xv9 xv10 K34 = some (r', s')) (hK34 : ∀ (s1 : MS) (xv1 : Int32) (xv2 : Int32) (xv3 : Int32) (xv4 : Int32) (xv5 : Int32) (xv6 : Int32) (xv7 : Int32) (xv8 : Int32) (h1 : Hp) (kc1 ks1 : Nat), K34 s1 xv1 xv2 xv3 xv4 xv5 xv6 xv7 xv8 = some (r', s') → RepM E h1 a0 ad s1 → xf (FM a0 ad) h h1 → J34 a0 xv1 xv2 xv3 xv4 xv5 xv6 xv7 xv8 h1 kc1 ks1) (hQ : ∀ h1, RepM E h1 a0 ad s' → xf (FM a0 ad) h h1 → Q r' h1), m_X12_send_L86 n E a0 xv1 xv2 xv3 xv4 xv5 xv6 xv7 xv8 xv9 xv10 h kc ks J34 Q := by
  intro n
  induction n with
  | zero => intro s h kc ks xv1 xv2 xv3 xv4 xv5 xv6 xv7 xv8 xv9 xv10 R0 hm; cases hm
  | succ n ih =>
    intro s h kc ks xv1 xv2 xv3 xv4 xv5 xv6 xv7 xv8 xv9 xv10 R0 hm hK34 hQ
    have F0 : xf (FM a0 ad) h h := xf.rf
    unfold M_send_L86 at hm
    unfold m_X12_send_L86
    refine ⟨fun q30 => ?_, fun q30 => ?_⟩
    · rw [if_pos q30] at hm
      exact z_send_L146 R0 hm (fun u1 v0 v1 v2 v3 v4 v5 v6 v7 g1 kc1 ks1 j1 P1 f1 => hK34 u1 v0 v1 v2 v3 v4 v5 v6 v7 g1 kc1 ks1 j1 P1 (F0.tr f1)) (fun h1 R1 f1 => hQ h1 R1 (F0.tr f1))
    · rw [if_neg q30] at hm
      refine zr_R R0 rfl ?_
      refine zr_R R0 rfl ?_
      have b25 : ¬ (xv8 < 0 ∨ 12 ≤ (xv8).toNatClampNeg) := fun q => by rw [if_pos q] at hm; cases hm
      rw [if_neg b25] at hm
      refine zr_n ?_
      refine zr_l R0 (by decide) b25 ?_
      intro x26 e_x26
      try dsimp only [lt1] at hm
      try rw [← e_x26] at hm
      have b27 : ¬ (((xv6 + xv7) + 2) + xv10 < 0 ∨ 3840 ≤ (((xv6 + xv7) + 2) + xv10).toNatClampNeg) := fun q => by rw [if_pos q] at hm; cases hm
      rw [if_neg b27] at hm
      refine zr_n ?_
      try dsimp only [lt1] at hm
      refine zr_s R0 (n := 3840) (by decide) b27 (fun h29 R29 f29 => ?_)
      have F29 := F0.tr f29
      obtain ⟨s28, e_s28⟩ : ∃ z, z = mA s 12 (((xv6 + xv7) + 2) + xv10).toNatClampNeg x26 := ⟨_, rfl⟩
      rw [← e_s28] at R29
      try rw [← e_s28] at hm
      exact ih R29 hm (fun u1 v0 v1 v2 v3 v4 v5 v6 v7 g1 kc1 ks1 j1 P1 f1 => hK34 u1 v0 v1 v2 v3 v4 v5 v6 v7 g1 kc1 ks1 j1 P1 (F29.tr f1)) (fun h1 R1 f1 => hQ h1 R1 (F29.tr f1))
set_option maxRecDepth 100000 in
set_option maxHeartbeats 4000000 in
theorem z_send_L34 {E : Ev} {a0 : Nat} {ad : Nat → Nat} {r' : Int32} {s' : MS} {Q : Int32 → Hp → Prop} : ∀ (n : Nat) {s : MS} {h : Hp} {kc ks : Nat} {xv1 : Int32} {xv2 : Int32} {xv3 : Int32} {xv4 : Int32} {xv5 : Int32} {xv6 : Int32} {xv7 : Int32} {xv8 : Int32} (R0 : RepM E h a0 ad s) (hm : M_send_L34 n s xv1 xv2 xv3 xv4 xv5 xv6 xv7 xv8 = some (r', s')) (hQ : ∀ h1, RepM E h1 a0 ad s' → xf (FM a0 ad) h h1 → Q r' h1), m_X12_send_L34 n E a0 xv1 xv2 xv3 xv4 xv5 xv6 xv7 xv8 h kc ks Q := by
  intro n
  induction n with
  | zero => intro s h kc ks xv1 xv2 xv3 xv4 xv5 xv6 xv7 xv8 R0 hm; cases hm
  | succ n ih =>
    intro s h kc ks xv1 xv2 xv3 xv4 xv5 xv6 xv7 xv8 R0 hm  hQ
    have F0 : xf (FM a0 ad) h h := xf.rf
    unfold M_send_L34 at hm
    unfold m_X12_send_L34
    refine ⟨fun q24 => ?_, fun q24 => ?_⟩
    · rw [if_pos q24] at hm
      obtain ⟨s6, o8, hm⟩ := Option.bind_eq_some_iff.mp hm
      refine zr_O R0 ?_
      refine z_lie R0 o8 (fun h7 R7 f7 => ?_)
      have F7 := F0.tr f7
      cases hm
      exact hQ _ R7 F7
    · rw [if_neg q24] at hm
      obtain ⟨⟨x9, s10⟩, o12, hm⟩ := Option.bind_eq_some_iff.mp hm
      try dsimp only [lt1] at hm
      refine z_has R0 o12 (fun h11 R11 f11 => ?_)
      have F11 := F0.tr f11
      refine ⟨fun q23 => ?_, fun q23 => ?_⟩
      · rw [if_pos q23] at hm
        exact z_send_L146 R11 hm (fun u1 v0 v1 v2 v3 v4 v5 v6 v7 g1 kc1 ks1 j1 P1 f1 => ih P1 j1 (fun h2 R2 f2 => hQ h2 R2 ((F11.tr f1).tr f2))) (fun h1 R1 f1 => hQ h1 R1 (F11.tr f1))
      · rw [if_neg q23] at hm
        obtain ⟨⟨x13, s14⟩, o16, hm⟩ := Option.bind_eq_some_iff.mp hm
        try dsimp only [lt1] at hm
        refine z_lengthOf R11 o16 (fun h15 R15 f15 => ?_)
        have F15 := F11.tr f15
        refine zr_R R15 rfl ?_
        have b17 : ¬ (xv6 + xv7 < 0 ∨ 3840 ≤ (xv6 + xv7).toNatClampNeg) := fun q => by rw [if_pos q] at hm; cases hm
        rw [if_neg b17] at hm
        refine zr_n ?_
        try dsimp only [lt1] at hm
        refine zr_s R15 (n := 3840) (by decide) b17 (fun h19 R19 f19 => ?_)
        have F19 := F15.tr f19
        obtain ⟨s18, e_s18⟩ : ∃ z, z = mA s14 12 (xv6 + xv7).toNatClampNeg xv8 := ⟨_, rfl⟩
        rw [← e_s18] at R19
        try rw [← e_s18] at hm
        refine zr_R R19 rfl ?_
        have b20 : ¬ ((xv6 + xv7) + 1 < 0 ∨ 3840 ≤ ((xv6 + xv7) + 1).toNatClampNeg) := fun q => by rw [if_pos q] at hm; cases hm
        rw [if_neg b20] at hm
        refine zr_n ?_
        try dsimp only [lt1] at hm
        refine zr_s R19 (n := 3840) (by decide) b20 (fun h22 R22 f22 => ?_)
        have F22 := F19.tr f22
        obtain ⟨s21, e_s21⟩ : ∃ z, z = mA s18 12 ((xv6 + xv7) + 1).toNatClampNeg x13 := ⟨_, rfl⟩
        rw [← e_s21] at R22
        try rw [← e_s21] at hm
        refine ⟨mfu, ?_⟩
        exact z_send_L86 mfu R22 hm (fun u1 v0 v1 v2 v3 v4 v5 v6 v7 g1 kc1 ks1 j1 P1 f1 => ih P1 j1 (fun h2 R2 f2 => hQ h2 R2 ((F22.tr f1).tr f2))) (fun h1 R1 f1 => hQ h1 R1 (F22.tr f1))
set_option maxRecDepth 100000 in
set_option maxHeartbeats 4000000 in
theorem z_send {E : Ev} {a0 : Nat} {ad : Nat → Nat} {r' : Int32} {s' : MS} {Q : Int32 → Hp → Prop} {s : MS} {h : Hp} {kc ks : Nat} {xp1 : Int32} {xp2 : Int32} {xp3 : Int32} {xp4 : Int32} {xp5 : Int32} (R0 : RepM E h a0 ad s) (hm : M_send s xp1 xp2 xp3 xp4 xp5 = some (r', s')) (hQ : ∀ h1, RepM E h1 a0 ad s' → xf (FM a0 ad) h h1 → Q r' h1)   : m_X12_send E a0 xp1 xp2 xp3 xp4 xp5 h kc ks Q := by
  have F0 : xf (FM a0 ad) h h := xf.rf
  unfold M_send at hm
  unfold m_X12_send
  refine zr_I R0 rfl ?_
  refine ⟨fun q4 => ?_, fun q4 => ?_⟩
  · rw [if_pos q4] at hm
    cases hm
    exact hQ _ R0 F0
  · rw [if_neg q4] at hm
    refine zr_I R0 rfl ?_
    refine zr_R R0 rfl ?_
    have b1 : ¬ (64 * (s.1 6) < 0 ∨ 3840 ≤ (64 * (s.1 6)).toNatClampNeg) := fun q => by rw [if_pos q] at hm; cases hm
    rw [if_neg b1] at hm
    refine zr_n ?_
    try dsimp only [lt1] at hm
    refine zr_s R0 (n := 3840) (by decide) b1 (fun h3 R3 f3 => ?_)
    have F3 := F0.tr f3
    obtain ⟨s2, e_s2⟩ : ∃ z, z = mA s 12 (64 * (s.1 6)).toNatClampNeg xp1 := ⟨_, rfl⟩
    rw [← e_s2] at R3
    try rw [← e_s2] at hm
    refine ⟨mfu, ?_⟩
    exact z_send_L34 mfu R3 hm (fun h1 R1 f1 => hQ h1 R1 (F3.tr f1))
set_option maxRecDepth 100000 in
set_option maxHeartbeats 4000000 in
theorem z_isMessage {E : Ev} {a0 : Nat} {ad : Nat → Nat} {r' : Int32} {s' : MS} {Q : Int32 → Hp → Prop} {s : MS} {h : Hp} {kc ks : Nat} {xp1 : Int32} (R0 : RepM E h a0 ad s) (hm : M_isMessage s xp1 = some (r', s')) (hQ : ∀ h1, RepM E h1 a0 ad s' → xf (FM a0 ad) h h1 → Q r' h1)   : m_X12_isMessage E a0 xp1 h kc ks Q := by
  have F0 : xf (FM a0 ad) h h := xf.rf
  unfold M_isMessage at hm
  unfold m_X12_isMessage
  refine ⟨fun q2 => ?_, fun q2 => ?_⟩
  · rw [if_pos q2] at hm
    cases hm
    exact hQ _ R0 F0
  · rw [if_neg q2] at hm
    refine zr_I R0 rfl ?_
    refine ⟨fun q1 => ?_, fun q1 => ?_⟩
    · rw [if_pos q1] at hm
      cases hm
      exact hQ _ R0 F0
    · rw [if_neg q1] at hm
      cases hm
      exact hQ _ R0 F0
set_option maxRecDepth 100000 in
set_option maxHeartbeats 4000000 in
theorem z_remove_L92 {E : Ev} {a0 : Nat} {ad : Nat → Nat} {s' : MS} {K12 : MS → Int32 → Option MS} {J12 : Nat → Int32 → Hp → Nat → Nat → Prop} {Q : Hp → Prop} : ∀ (n : Nat) {s : MS} {h : Hp} {kc ks : Nat} {xv2 : Int32} {xv3 : Int32} (R0 : RepM E h a0 ad s) (hm : M_remove_L92 n s xv2 xv3 K12 = some s') (hK12 : ∀ (s1 : MS) (xv2 : Int32) (h1 : Hp) (kc1 ks1 : Nat), K12 s1 xv2 = some s' → RepM E h1 a0 ad s1 → xf (FM a0 ad) h h1 → J12 a0 xv2 h1 kc1 ks1) (hQ : ∀ h1, RepM E h1 a0 ad s' → xf (FM a0 ad) h h1 → Q h1), m_X12_remove_L92 n E a0 xv2 xv3 h kc ks J12 Q := by
  intro n
  induction n with
  | zero => intro s h kc ks xv2 xv3 R0 hm; cases hm
  | succ n ih =>
    intro s h kc ks xv2 xv3 R0 hm hK12 hQ
    have F0 : xf (FM a0 ad) h h := xf.rf
    unfold M_remove_L92 at hm
    unfold m_X12_remove_L92
    refine ⟨fun q28 => ?_, fun q28 => ?_⟩
    · rw [if_pos q28] at hm
      exact hK12 _ _ _ _ _ hm R0 F0
    · rw [if_neg q28] at hm
      refine zr_R R0 rfl ?_
      refine zr_R R0 rfl ?_
      have b24 : ¬ ((64 * (xv2 + 1)) + xv3 < 0 ∨ 3840 ≤ ((64 * (xv2 + 1)) + xv3).toNatClampNeg) := fun q => by rw [if_pos q] at hm; cases hm
      rw [if_neg b24] at hm
      refine zr_n ?_
      refine zr_a R0 (n := 3840) (by decide) b24 ?_
      have b25 : ¬ ((64 * xv2) + xv3 < 0 ∨ 3840 ≤ ((64 * xv2) + xv3).toNatClampNeg) := fun q => by rw [if_pos q] at hm; cases hm
      rw [if_neg b25] at hm
      refine zr_n ?_
      try dsimp only [lt1] at hm
      refine zr_s R0 (n := 3840) (by decide) b25 (fun h27 R27 f27 => ?_)
      have F27 := F0.tr f27
      obtain ⟨s26, e_s26⟩ : ∃ z, z = mA s 12 ((64 * xv2) + xv3).toNatClampNeg (s.2.2.1 12 ((64 * (xv2 + 1)) + xv3).toNatClampNeg) := ⟨_, rfl⟩
      rw [← e_s26] at R27
      try rw [← e_s26] at hm
      exact ih R27 hm (fun u1 v0 g1 kc1 ks1 j1 P1 f1 => hK12 u1 v0 g1 kc1 ks1 j1 P1 (F27.tr f1)) (fun h1 R1 f1 => hQ h1 R1 (F27.tr f1))
set_option maxRecDepth 100000 in
set_option maxHeartbeats 4000000 in
theorem z_remove_L12 {E : Ev} {a0 : Nat} {ad : Nat → Nat} {s' : MS} {Q : Hp → Prop} : ∀ (n : Nat) {s : MS} {h : Hp} {kc ks : Nat} {xv2 : Int32} (R0 : RepM E h a0 ad s) (hm : M_remove_L12 n s xv2 = some s') (hQ : ∀ h1, RepM E h1 a0 ad s' → xf (FM a0 ad) h h1 → Q h1), m_X12_remove_L12 n E a0 xv2 h kc ks Q := by
  intro n
  induction n with
  | zero => intro s h kc ks xv2 R0 hm; cases hm
  | succ n ih =>
    intro s h kc ks xv2 R0 hm  hQ
    have F0 : xf (FM a0 ad) h h := xf.rf
    unfold M_remove_L12 at hm
    unfold m_X12_remove_L12
    refine zr_I R0 rfl ?_
    refine ⟨fun q23 => ?_, fun q23 => ?_⟩
    · rw [if_pos q23] at hm
      cases hm
      exact hQ _ R0 F0
    · rw [if_neg q23] at hm
      refine zr_R R0 rfl ?_
      refine zr_R R0 rfl ?_
      have b3 : ¬ (xv2 + 1 < 0 ∨ 60 ≤ (xv2 + 1).toNatClampNeg) := fun q => by rw [if_pos q] at hm; cases hm
      rw [if_neg b3] at hm
      refine zr_n ?_
      refine zr_a R0 (n := 60) (by decide) b3 ?_
      have b4 : ¬ (xv2 < 0 ∨ 60 ≤ (xv2).toNatClampNeg) := fun q => by rw [if_pos q] at hm; cases hm
      rw [if_neg b4] at hm
      refine zr_n ?_
      try dsimp only [lt1] at hm
      refine zr_s R0 (n := 60) (by decide) b4 (fun h6 R6 f6 => ?_)
      have F6 := F0.tr f6
      obtain ⟨s5, e_s5⟩ : ∃ z, z = mA s 7 (xv2).toNatClampNeg (s.2.2.1 7 (xv2 + 1).toNatClampNeg) := ⟨_, rfl⟩
      rw [← e_s5] at R6
      try rw [← e_s5] at hm
      refine zr_R R6 rfl ?_
      refine zr_R R6 rfl ?_
      have b7 : ¬ (xv2 + 1 < 0 ∨ 60 ≤ (xv2 + 1).toNatClampNeg) := fun q => by rw [if_pos q] at hm; cases hm
      rw [if_neg b7] at hm
      refine zr_n ?_
      refine zr_a R6 (n := 60) (by decide) b7 ?_
      have b8 : ¬ (xv2 < 0 ∨ 60 ≤ (xv2).toNatClampNeg) := fun q => by rw [if_pos q] at hm; cases hm
      rw [if_neg b8] at hm
      refine zr_n ?_
      try dsimp only [lt1] at hm
      refine zr_s R6 (n := 60) (by decide) b8 (fun h10 R10 f10 => ?_)
      have F10 := F6.tr f10
      obtain ⟨s9, e_s9⟩ : ∃ z, z = mA s5 8 (xv2).toNatClampNeg (s5.2.2.1 8 (xv2 + 1).toNatClampNeg) := ⟨_, rfl⟩
      rw [← e_s9] at R10
      try rw [← e_s9] at hm
      refine zr_R R10 rfl ?_
      refine zr_R R10 rfl ?_
      have b11 : ¬ (xv2 + 1 < 0 ∨ 60 ≤ (xv2 + 1).toNatClampNeg) := fun q => by rw [if_pos q] at hm; cases hm
      rw [if_neg b11] at hm
      refine zr_n ?_
      refine zr_a R10 (n := 60) (by decide) b11 ?_
      have b12 : ¬ (xv2 < 0 ∨ 60 ≤ (xv2).toNatClampNeg) := fun q => by rw [if_pos q] at hm; cases hm
      rw [if_neg b12] at hm
      refine zr_n ?_
      try dsimp only [lt1] at hm
      refine zr_s R10 (n := 60) (by decide) b12 (fun h14 R14 f14 => ?_)
      have F14 := F10.tr f14
      obtain ⟨s13, e_s13⟩ : ∃ z, z = mA s9 9 (xv2).toNatClampNeg (s9.2.2.1 9 (xv2 + 1).toNatClampNeg) := ⟨_, rfl⟩
      rw [← e_s13] at R14
      try rw [← e_s13] at hm
      refine zr_R R14 rfl ?_
      refine zr_R R14 rfl ?_
      have b15 : ¬ (xv2 + 1 < 0 ∨ 60 ≤ (xv2 + 1).toNatClampNeg) := fun q => by rw [if_pos q] at hm; cases hm
      rw [if_neg b15] at hm
      refine zr_n ?_
      refine zr_a R14 (n := 60) (by decide) b15 ?_
      have b16 : ¬ (xv2 < 0 ∨ 60 ≤ (xv2).toNatClampNeg) := fun q => by rw [if_pos q] at hm; cases hm
      rw [if_neg b16] at hm
      refine zr_n ?_
      try dsimp only [lt1] at hm
      refine zr_s R14 (n := 60) (by decide) b16 (fun h18 R18 f18 => ?_)
      have F18 := F14.tr f18
      obtain ⟨s17, e_s17⟩ : ∃ z, z = mA s13 10 (xv2).toNatClampNeg (s13.2.2.1 10 (xv2 + 1).toNatClampNeg) := ⟨_, rfl⟩
      rw [← e_s17] at R18
      try rw [← e_s17] at hm
      refine zr_R R18 rfl ?_
      refine zr_R R18 rfl ?_
      have b19 : ¬ (xv2 + 1 < 0 ∨ 60 ≤ (xv2 + 1).toNatClampNeg) := fun q => by rw [if_pos q] at hm; cases hm
      rw [if_neg b19] at hm
      refine zr_n ?_
      refine zr_a R18 (n := 60) (by decide) b19 ?_
      have b20 : ¬ (xv2 < 0 ∨ 60 ≤ (xv2).toNatClampNeg) := fun q => by rw [if_pos q] at hm; cases hm
      rw [if_neg b20] at hm
      refine zr_n ?_
      try dsimp only [lt1] at hm
      refine zr_s R18 (n := 60) (by decide) b20 (fun h22 R22 f22 => ?_)
      have F22 := F18.tr f22
      obtain ⟨s21, e_s21⟩ : ∃ z, z = mA s17 11 (xv2).toNatClampNeg (s17.2.2.1 11 (xv2 + 1).toNatClampNeg) := ⟨_, rfl⟩
      rw [← e_s21] at R22
      try rw [← e_s21] at hm
      refine ⟨mfu, ?_⟩
      exact z_remove_L92 mfu R22 hm (fun u1 v0 g1 kc1 ks1 j1 P1 f1 => ih P1 j1 (fun h2 R2 f2 => hQ h2 R2 ((F22.tr f1).tr f2))) (fun h1 R1 f1 => hQ h1 R1 (F22.tr f1))
set_option maxRecDepth 100000 in
set_option maxHeartbeats 4000000 in
theorem z_remove {E : Ev} {a0 : Nat} {ad : Nat → Nat} {s' : MS} {Q : Hp → Prop} {s : MS} {h : Hp} {kc ks : Nat} {xp1 : Int32} (R0 : RepM E h a0 ad s) (hm : M_remove s xp1 = some s') (hQ : ∀ h1, RepM E h1 a0 ad s' → xf (FM a0 ad) h h1 → Q h1)   : m_X12_remove E a0 xp1 h kc ks Q := by
  have F0 : xf (FM a0 ad) h h := xf.rf
  unfold M_remove at hm
  unfold m_X12_remove
  refine zr_I R0 rfl ?_
  try dsimp only [lt1] at hm
  refine zr_pI R0 (by decide) rfl (fun h2 R2 f2 => ?_)
  have F2 := F0.tr f2
  obtain ⟨s1, e_s1⟩ : ∃ z, z = mI s 6 ((s.1 6) - 1) := ⟨_, rfl⟩
  rw [← e_s1] at R2
  try rw [← e_s1] at hm
  refine ⟨mfu, ?_⟩
  exact z_remove_L12 mfu R2 hm (fun h1 R1 f1 => hQ h1 R1 (F2.tr f1))
set_option maxRecDepth 100000 in
set_option maxHeartbeats 4000000 in
theorem z_read_L137 {E : Ev} {a0 : Nat} {ad : Nat → Nat} {r' : Int32} {s' : MS} {K24 : MS → Int32 → Int32 → Int32 → Option (Int32 × MS)} {J24 : Nat → Int32 → Int32 → Int32 → Hp → Nat → Nat → Prop} {Q : Int32 → Hp → Prop} {s : MS} {h : Hp} {kc ks : Nat} {xv1 : Int32} {xv2 : Int32} {xv3 : Int32} (R0 : RepM E h a0 ad s) (hm : M_read_L137 s xv1 xv2 xv3 K24 = some (r', s')) (hK24 : ∀ (s1 : MS) (xv1 : Int32) (xv2 : Int32) (xv3 : Int32) (h1 : Hp) (kc1 ks1 : Nat), K24 s1 xv1 xv2 xv3 = some (r', s') → RepM E h1 a0 ad s1 → xf (FM a0 ad) h h1 → J24 a0 xv1 xv2 xv3 h1 kc1 ks1) (hQ : ∀ h1, RepM E h1 a0 ad s' → xf (FM a0 ad) h h1 → Q r' h1) : m_X12_read_L137 E a0 xv1 xv2 xv3 h kc ks J24 Q := by
  have F0 : xf (FM a0 ad) h h := xf.rf
  unfold M_read_L137 at hm
  unfold m_X12_read_L137
  exact hK24 _ _ _ _ _ _ _ hm R0 F0
set_option maxRecDepth 100000 in
set_option maxHeartbeats 4000000 in
theorem z_read_L88 {E : Ev} {a0 : Nat} {ad : Nat → Nat} {r' : Int32} {s' : MS} {K24 : MS → Int32 → Int32 → Int32 → Option (Int32 × MS)} {J24 : Nat → Int32 → Int32 → Int32 → Hp → Nat → Nat → Prop} {Q : Int32 → Hp → Prop} : ∀ (n : Nat) {s : MS} {h : Hp} {kc ks : Nat} {xv1 : Int32} {xv2 : Int32} {xv3 : Int32} {xv4 : Int32} {yv5 : Int64} {xv7 : Int32} (R0 : RepM E h a0 ad s) (hm : M_read_L88 n s xv1 xv2 xv3 xv4 yv5 xv7 K24 = some (r', s')) (hK24 : ∀ (s1 : MS) (xv1 : Int32) (xv2 : Int32) (xv3 : Int32) (h1 : Hp) (kc1 ks1 : Nat), K24 s1 xv1 xv2 xv3 = some (r', s') → RepM E h1 a0 ad s1 → xf (FM a0 ad) h h1 → J24 a0 xv1 xv2 xv3 h1 kc1 ks1) (hQ : ∀ h1, RepM E h1 a0 ad s' → xf (FM a0 ad) h h1 → Q r' h1), m_X12_read_L88 n E a0 xv1 xv2 xv3 xv4 yv5 xv7 h kc ks J24 Q := by
  intro n
  induction n with
  | zero => intro s h kc ks xv1 xv2 xv3 xv4 yv5 xv7 R0 hm; cases hm
  | succ n ih =>
    intro s h kc ks xv1 xv2 xv3 xv4 yv5 xv7 R0 hm hK24 hQ
    have F0 : xf (FM a0 ad) h h := xf.rf
    unfold M_read_L88 at hm
    unfold m_X12_read_L88
    refine ⟨fun q24 => ?_, fun q24 => ?_⟩
    · rw [if_pos q24] at hm
      refine zr_R R0 rfl ?_
      have b20 : ¬ (xv3 < 0 ∨ 12 ≤ (xv3).toNatClampNeg) := fun q => by rw [if_pos q] at hm; cases hm
      rw [if_neg b20] at hm
      refine zr_n ?_
      try dsimp only [lt1] at hm
      refine zr_sl R0 (by decide) b20 (fun h22 R22 f22 => ?_)
      have F22 := F0.tr f22
      obtain ⟨s21, e_s21⟩ : ∃ z, z = mL s 17 (xv3).toNatClampNeg yv5 := ⟨_, rfl⟩
      rw [← e_s21] at R22
      try rw [← e_s21] at hm
      exact z_read_L137 R22 hm (fun u1 v0 v1 v2 g1 kc1 ks1 j1 P1 f1 => hK24 u1 v0 v1 v2 g1 kc1 ks1 j1 P1 (F22.tr f1)) (fun h1 R1 f1 => hQ h1 R1 (F22.tr f1))
    · rw [if_neg q24] at hm
      refine zr_R R0 rfl ?_
      have b23 : ¬ ((xv2 + 2) + xv7 < 0 ∨ 64 ≤ ((xv2 + 2) + xv7).toNatClampNeg) := fun q => by rw [if_pos q] at hm; cases hm
      rw [if_neg b23] at hm
      refine zr_n ?_
      refine zr_a R0 (n := 64) (by decide) b23 ?_
      exact ih R0 hm (fun u1 v0 v1 v2 g1 kc1 ks1 j1 P1 f1 => hK24 u1 v0 v1 v2 g1 kc1 ks1 j1 P1 (F0.tr f1)) (fun h1 R1 f1 => hQ h1 R1 (F0.tr f1))
set_option maxRecDepth 100000 in
set_option maxHeartbeats 4000000 in
theorem z_read_L24 {E : Ev} {a0 : Nat} {ad : Nat → Nat} {r' : Int32} {s' : MS} {Q : Int32 → Hp → Prop} : ∀ (n : Nat) {s : MS} {h : Hp} {kc ks : Nat} {xv1 : Int32} {xv2 : Int32} {xv3 : Int32} (R0 : RepM E h a0 ad s) (hm : M_read_L24 n s xv1 xv2 xv3 = some (r', s')) (hQ : ∀ h1, RepM E h1 a0 ad s' → xf (FM a0 ad) h h1 → Q r' h1), m_X12_read_L24 n E a0 xv1 xv2 xv3 h kc ks Q := by
  intro n
  induction n with
  | zero => intro s h kc ks xv1 xv2 xv3 R0 hm; cases hm
  | succ n ih =>
    intro s h kc ks xv1 xv2 xv3 R0 hm  hQ
    have F0 : xf (FM a0 ad) h h := xf.rf
    unfold M_read_L24 at hm
    unfold m_X12_read_L24
    refine ⟨fun q19 => ?_, fun q19 => ?_⟩
    · rw [if_pos q19] at hm
      refine zr_I R0 rfl ?_
      refine ⟨fun q4 => ?_, fun q4 => ?_⟩
      · rw [if_pos q4] at hm
        cases hm
        exact hQ _ R0 F0
      · rw [if_neg q4] at hm
        cases hm
        exact hQ _ R0 F0
    · rw [if_neg q19] at hm
      obtain ⟨⟨x5, s6⟩, o8, hm⟩ := Option.bind_eq_some_iff.mp hm
      try dsimp only [lt1] at hm
      refine z_has R0 o8 (fun h7 R7 f7 => ?_)
      have F7 := F0.tr f7
      refine ⟨fun q18 => ?_, fun q18 => ?_⟩
      · rw [if_pos q18] at hm
        exact z_read_L137 R7 hm (fun u1 v0 v1 v2 g1 kc1 ks1 j1 P1 f1 => ih P1 j1 (fun h2 R2 f2 => hQ h2 R2 ((F7.tr f1).tr f2))) (fun h1 R1 f1 => hQ h1 R1 (F7.tr f1))
      · rw [if_neg q18] at hm
        obtain ⟨⟨x9, s10⟩, o12, hm⟩ := Option.bind_eq_some_iff.mp hm
        try dsimp only [lt1] at hm
        refine z_lengthOf R7 o12 (fun h11 R11 f11 => ?_)
        have F11 := F7.tr f11
        refine zr_I R11 rfl ?_
        refine ⟨fun q17 => ?_, fun q17 => ?_⟩
        · rw [if_pos q17] at hm
          cases hm
          exact hQ _ R11 F11
        · rw [if_neg q17] at hm
          refine zr_R R11 rfl ?_
          have b13 : ¬ (xv2 < 0 ∨ 64 ≤ (xv2).toNatClampNeg) := fun q => by rw [if_pos q] at hm; cases hm
          rw [if_neg b13] at hm
          refine zr_n ?_
          refine zr_a R11 (n := 64) (by decide) b13 ?_
          refine ⟨fun q16 => ?_, fun q16 => ?_⟩
          · rw [if_pos q16] at hm
            refine zr_R R11 rfl ?_
            have b14 : ¬ (xv2 + 1 < 0 ∨ 64 ≤ (xv2 + 1).toNatClampNeg) := fun q => by rw [if_pos q] at hm; cases hm
            rw [if_neg b14] at hm
            refine zr_n ?_
            refine zr_a R11 (n := 64) (by decide) b14 ?_
            refine ⟨fun q15 => ?_, fun q15 => ?_⟩
            · rw [if_pos q15] at hm
              refine ⟨mfu, ?_⟩
              exact z_read_L88 mfu R11 hm (fun u1 v0 v1 v2 g1 kc1 ks1 j1 P1 f1 => ih P1 j1 (fun h2 R2 f2 => hQ h2 R2 ((F11.tr f1).tr f2))) (fun h1 R1 f1 => hQ h1 R1 (F11.tr f1))
            · rw [if_neg q15] at hm
              cases hm
              exact hQ _ R11 F11
          · rw [if_neg q16] at hm
            cases hm
            exact hQ _ R11 F11
set_option maxRecDepth 100000 in
set_option maxHeartbeats 4000000 in
theorem z_read {E : Ev} {a0 : Nat} {ad : Nat → Nat} {r' : Int32} {s' : MS} {Q : Int32 → Hp → Prop} {s : MS} {h : Hp} {kc ks : Nat}  (R0 : RepM E h a0 ad s) (hm : M_read s  = some (r', s')) (hQ : ∀ h1, RepM E h1 a0 ad s' → xf (FM a0 ad) h h1 → Q r' h1)   : m_X12_read E a0  h kc ks Q := by
  have F0 : xf (FM a0 ad) h h := xf.rf
  unfold M_read at hm
  unfold m_X12_read
  refine zr_R R0 rfl ?_
  have b1 : ¬ ((0 : Int32) < 0 ∨ 64 ≤ ((0 : Int32)).toNatClampNeg) := fun q => by rw [if_pos q] at hm; cases hm
  rw [if_neg b1] at hm
  refine zr_n ?_
  refine zr_a R0 (n := 64) (by decide) b1 ?_
  refine ⟨fun q3 => ?_, fun q3 => ?_⟩
  · rw [if_pos q3] at hm
    cases hm
    exact hQ _ R0 F0
  · rw [if_neg q3] at hm
    refine ⟨fun q2 => ?_, fun q2 => ?_⟩
    · rw [if_pos q2] at hm
      refine ⟨mfu, ?_⟩
      exact z_read_L24 mfu R0 hm (fun h1 R1 f1 => hQ h1 R1 (F0.tr f1))
    · rw [if_neg q2] at hm
      cases hm
      exact hQ _ R0 F0
set_option maxRecDepth 100000 in
set_option maxHeartbeats 4000000 in
theorem z_writes_L84 {E : Ev} {a0 : Nat} {ad : Nat → Nat} {r' : Int32} {s' : MS} {Q : Int32 → Hp → Prop} {s : MS} {h : Hp} {kc ks : Nat} {w0 : Int32} {w1 : Int32} (R0 : RepM E h a0 ad s) (hm : M_writes_L84 s w0 w1 = some (r', s')) (hQ : ∀ h1, RepM E h1 a0 ad s' → xf (FM a0 ad) h h1 → Q r' h1) : m_X12_writes_L84 E w0 w1 (some (ad 35)) h kc ks Q := by
  have F0 : xf (FM a0 ad) h h := xf.rf
  unfold M_writes_L84 at hm
  unfold m_X12_writes_L84
  have b25 : ¬ (w1 < 0 ∨ 16 ≤ (w1).toNatClampNeg) := fun q => by rw [if_pos q] at hm; cases hm
  rw [if_neg b25] at hm
  refine zr_n ?_
  try dsimp only [lt1] at hm
  refine zr_s R0 (n := 16) (by decide) b25 (fun h27 R27 f27 => ?_)
  have F27 := F0.tr f27
  obtain ⟨s26, e_s26⟩ : ∃ z, z = mA s 35 (w1).toNatClampNeg w0 := ⟨_, rfl⟩
  rw [← e_s26] at R27
  try rw [← e_s26] at hm
  cases hm
  exact hQ _ R27 F27
set_option maxRecDepth 100000 in
set_option maxHeartbeats 4000000 in
theorem z_writes {E : Ev} {a0 : Nat} {ad : Nat → Nat} {r' : Int32} {s' : MS} {Q : Int32 → Hp → Prop} {s : MS} {h : Hp} {kc ks : Nat} {xp1 : Int32} (R0 : RepM E h a0 ad s) (hm : M_writes s xp1 = some (r', s')) (hQ : ∀ h1, RepM E h1 a0 ad s' → xf (FM a0 ad) h h1 → Q r' h1)   : m_X12_writes E a0 xp1 h kc ks Q := by
  have F0 : xf (FM a0 ad) h h := xf.rf
  unfold M_writes at hm
  unfold m_X12_writes
  refine zr_R R0 rfl ?_
  have b1 : ¬ (xp1 < 0 ∨ 16 ≤ (xp1).toNatClampNeg) := fun q => by rw [if_pos q] at hm; cases hm
  rw [if_neg b1] at hm
  refine zr_n ?_
  refine zr_a R0 (n := 16) (by decide) b1 ?_
  refine ⟨fun q24 => ?_, fun q24 => ?_⟩
  · rw [if_pos q24] at hm
    refine zr_R R0 rfl ?_
    have b6 : ¬ (xp1 < 0 ∨ 16 ≤ (xp1).toNatClampNeg) := fun q => by rw [if_pos q] at hm; cases hm
    rw [if_neg b6] at hm
    refine zr_n ?_
    try dsimp only [lt1] at hm
    refine zr_s R0 (n := 16) (by decide) b6 (fun h8 R8 f8 => ?_)
    have F8 := F0.tr f8
    obtain ⟨s7, e_s7⟩ : ∃ z, z = mA s 35 (xp1).toNatClampNeg (-1) := ⟨_, rfl⟩
    rw [← e_s7] at R8
    try rw [← e_s7] at hm
    refine zr_R R8 rfl ?_
    have b9 : ¬ (xp1 < 0 ∨ 16 ≤ (xp1).toNatClampNeg) := fun q => by rw [if_pos q] at hm; cases hm
    rw [if_neg b9] at hm
    refine zr_n ?_
    try dsimp only [lt1] at hm
    refine zr_s R8 (n := 16) (by decide) b9 (fun h11 R11 f11 => ?_)
    have F11 := F8.tr f11
    obtain ⟨s10, e_s10⟩ : ∃ z, z = mA s7 30 (xp1).toNatClampNeg 0 := ⟨_, rfl⟩
    rw [← e_s10] at R11
    try rw [← e_s10] at hm
    refine zr_R R11 rfl ?_
    have b12 : ¬ (xp1 < 0 ∨ 16 ≤ (xp1).toNatClampNeg) := fun q => by rw [if_pos q] at hm; cases hm
    rw [if_neg b12] at hm
    refine zr_n ?_
    try dsimp only [lt1] at hm
    refine zr_s R11 (n := 16) (by decide) b12 (fun h14 R14 f14 => ?_)
    have F14 := F11.tr f14
    obtain ⟨s13, e_s13⟩ : ∃ z, z = mA s10 31 (xp1).toNatClampNeg 0 := ⟨_, rfl⟩
    rw [← e_s13] at R14
    try rw [← e_s13] at hm
    refine zr_R R14 rfl ?_
    have b15 : ¬ (xp1 < 0 ∨ 16 ≤ (xp1).toNatClampNeg) := fun q => by rw [if_pos q] at hm; cases hm
    rw [if_neg b15] at hm
    refine zr_n ?_
    try dsimp only [lt1] at hm
    refine zr_sl R14 (by decide) b15 (fun h17 R17 f17 => ?_)
    have F17 := F14.tr f17
    obtain ⟨s16, e_s16⟩ : ∃ z, z = mL s13 32 (xp1).toNatClampNeg 0 := ⟨_, rfl⟩
    rw [← e_s16] at R17
    try rw [← e_s16] at hm
    refine zr_R R17 rfl ?_
    have b18 : ¬ (xp1 < 0 ∨ 16 ≤ (xp1).toNatClampNeg) := fun q => by rw [if_pos q] at hm; cases hm
    rw [if_neg b18] at hm
    refine zr_n ?_
    try dsimp only [lt1] at hm
    refine zr_sl R17 (by decide) b18 (fun h20 R20 f20 => ?_)
    have F20 := F17.tr f20
    obtain ⟨s19, e_s19⟩ : ∃ z, z = mL s16 33 (xp1).toNatClampNeg 0 := ⟨_, rfl⟩
    rw [← e_s19] at R20
    try rw [← e_s19] at hm
    refine zr_R R20 rfl ?_
    have b21 : ¬ (xp1 < 0 ∨ 16 ≤ (xp1).toNatClampNeg) := fun q => by rw [if_pos q] at hm; cases hm
    rw [if_neg b21] at hm
    refine zr_n ?_
    try dsimp only [lt1] at hm
    refine zr_sl R20 (by decide) b21 (fun h23 R23 f23 => ?_)
    have F23 := F20.tr f23
    obtain ⟨s22, e_s22⟩ : ∃ z, z = mL s19 34 (xp1).toNatClampNeg 0 := ⟨_, rfl⟩
    rw [← e_s22] at R23
    try rw [← e_s22] at hm
    cases hm
    exact hQ _ R23 F23
  · rw [if_neg q24] at hm
    refine zr_R R0 rfl ?_
    refine zr_R R0 rfl ?_
    have b2 : ¬ (xp1 < 0 ∨ 16 ≤ (xp1).toNatClampNeg) := fun q => by rw [if_pos q] at hm; cases hm
    rw [if_neg b2] at hm
    refine zr_n ?_
    refine zr_a R0 (n := 16) (by decide) b2 ?_
    refine ⟨fun q5 => ?_, fun q5 => ?_⟩
    · rw [if_pos q5] at hm
      refine zr_R R0 rfl ?_
      have b3 : ¬ (xp1 < 0 ∨ 16 ≤ (xp1).toNatClampNeg) := fun q => by rw [if_pos q] at hm; cases hm
      rw [if_neg b3] at hm
      refine zr_n ?_
      refine zr_a R0 (n := 16) (by decide) b3 ?_
      exact z_writes_L84 R0 hm (fun h1 R1 f1 => hQ h1 R1 (F0.tr f1))
    · rw [if_neg q5] at hm
      refine zr_R R0 rfl ?_
      have b4 : ¬ (xp1 < 0 ∨ 16 ≤ (xp1).toNatClampNeg) := fun q => by rw [if_pos q] at hm; cases hm
      rw [if_neg b4] at hm
      refine zr_n ?_
      refine zr_a R0 (n := 16) (by decide) b4 ?_
      exact z_writes_L84 R0 hm (fun h1 R1 f1 => hQ h1 R1 (F0.tr f1))
set_option maxRecDepth 100000 in
set_option maxHeartbeats 4000000 in
theorem z_reply {E : Ev} {a0 : Nat} {ad : Nat → Nat} {s' : MS} {Q : Hp → Prop} {s : MS} {h : Hp} {kc ks : Nat} {xp1 : Int32} {xp2 : Int32} (R0 : RepM E h a0 ad s) (hm : M_reply s xp1 xp2 = some s') (hQ : ∀ h1, RepM E h1 a0 ad s' → xf (FM a0 ad) h h1 → Q h1)   : m_X12_reply E a0 xp1 xp2 h kc ks Q := by
  have F0 : xf (FM a0 ad) h h := xf.rf
  unfold M_reply at hm
  unfold m_X12_reply
  refine zr_I R0 rfl ?_
  refine zr_I R0 rfl ?_
  obtain ⟨⟨x1, s2⟩, o4, hm⟩ := Option.bind_eq_some_iff.mp hm
  try dsimp only [lt1] at hm
  refine zr_O R0 ?_
  refine z_send R0 o4 (fun h3 R3 f3 => ?_)
  have F3 := F0.tr f3
  cases hm
  exact hQ _ R3 F3
set_option maxRecDepth 100000 in
set_option maxHeartbeats 4000000 in
theorem z_typePin_L126 {E : Ev} {a0 : Nat} {ad : Nat → Nat} {s' : MS} {Q : Hp → Prop} {s : MS} {h : Hp} {kc ks : Nat} {xv1 : Int32} {w0 : Int64} {w1 : Int32} (R0 : RepM E h a0 ad s) (hm : M_typePin_L126 s xv1 w0 w1 = some s') (hQ : ∀ h1, RepM E h1 a0 ad s' → xf (FM a0 ad) h h1 → Q h1) : m_X12_typePin_L126 E a0 xv1 w0 w1 (some (ad 18)) h kc ks Q := by
  have F0 : xf (FM a0 ad) h h := xf.rf
  unfold M_typePin_L126 at hm
  unfold m_X12_typePin_L126
  have b39 : ¬ (w1 < 0 ∨ 12 ≤ (w1).toNatClampNeg) := fun q => by rw [if_pos q] at hm; cases hm
  rw [if_neg b39] at hm
  refine zr_n ?_
  try dsimp only [lt1] at hm
  refine zr_sl R0 (by decide) b39 (fun h41 R41 f41 => ?_)
  have F41 := F0.tr f41
  obtain ⟨s40, e_s40⟩ : ∃ z, z = mL s 18 (w1).toNatClampNeg w0 := ⟨_, rfl⟩
  rw [← e_s40] at R41
  try rw [← e_s40] at hm
  obtain ⟨s43, o45, hm⟩ := Option.bind_eq_some_iff.mp hm
  refine zr_O R41 ?_
  refine z_reply R41 o45 (fun h44 R44 f44 => ?_)
  have F44 := F41.tr f44
  cases hm
  exact hQ _ R44 F44
set_option maxRecDepth 100000 in
set_option maxHeartbeats 4000000 in
theorem z_typePin_L110 {E : Ev} {a0 : Nat} {ad : Nat → Nat} {s' : MS} {Q : Hp → Prop} {s : MS} {h : Hp} {kc ks : Nat} {xv1 : Int32} {xv2 : Int32} {w0 : Int32} {w1 : Int32} (R0 : RepM E h a0 ad s) (hm : M_typePin_L110 s xv1 xv2 w0 w1 = some s') (hQ : ∀ h1, RepM E h1 a0 ad s' → xf (FM a0 ad) h h1 → Q h1) : m_X12_typePin_L110 E a0 xv1 xv2 w0 w1 (some (ad 31)) h kc ks Q := by
  have F0 : xf (FM a0 ad) h h := xf.rf
  unfold M_typePin_L110 at hm
  unfold m_X12_typePin_L110
  have b35 : ¬ (w1 < 0 ∨ 16 ≤ (w1).toNatClampNeg) := fun q => by rw [if_pos q] at hm; cases hm
  rw [if_neg b35] at hm
  refine zr_n ?_
  try dsimp only [lt1] at hm
  refine zr_s R0 (n := 16) (by decide) b35 (fun h37 R37 f37 => ?_)
  have F37 := F0.tr f37
  obtain ⟨s36, e_s36⟩ : ∃ z, z = mA s 31 (w1).toNatClampNeg w0 := ⟨_, rfl⟩
  rw [← e_s36] at R37
  try rw [← e_s36] at hm
  refine zr_R R37 rfl ?_
  refine ⟨fun q38 => ?_, fun q38 => ?_⟩
  · rw [if_pos q38] at hm
    exact z_typePin_L126 R37 hm (fun h1 R1 f1 => hQ h1 R1 (F37.tr f1))
  · rw [if_neg q38] at hm
    exact z_typePin_L126 R37 hm (fun h1 R1 f1 => hQ h1 R1 (F37.tr f1))
set_option maxRecDepth 100000 in
set_option maxHeartbeats 4000000 in
theorem z_typePin_L96 {E : Ev} {a0 : Nat} {ad : Nat → Nat} {s' : MS} {Q : Hp → Prop} {s : MS} {h : Hp} {kc ks : Nat} {xv1 : Int32} {xv2 : Int32} (R0 : RepM E h a0 ad s) (hm : M_typePin_L96 s xv1 xv2 = some s') (hQ : ∀ h1, RepM E h1 a0 ad s' → xf (FM a0 ad) h h1 → Q h1) : m_X12_typePin_L96 E a0 xv1 xv2 h kc ks Q := by
  have F0 : xf (FM a0 ad) h h := xf.rf
  unfold M_typePin_L96 at hm
  unfold m_X12_typePin_L96
  refine zr_R R0 rfl ?_
  refine ⟨fun q34 => ?_, fun q34 => ?_⟩
  · rw [if_pos q34] at hm
    exact z_typePin_L110 R0 hm (fun h1 R1 f1 => hQ h1 R1 (F0.tr f1))
  · rw [if_neg q34] at hm
    exact z_typePin_L110 R0 hm (fun h1 R1 f1 => hQ h1 R1 (F0.tr f1))
set_option maxRecDepth 100000 in
set_option maxHeartbeats 4000000 in
theorem z_typePin_L75 {E : Ev} {a0 : Nat} {ad : Nat → Nat} {s' : MS} {Q : Hp → Prop} {s : MS} {h : Hp} {kc ks : Nat} {xv1 : Int32} {w0 : Int32} (R0 : RepM E h a0 ad s) (hm : M_typePin_L75 s xv1 w0 = some s') (hQ : ∀ h1, RepM E h1 a0 ad s' → xf (FM a0 ad) h h1 → Q h1) : m_X12_typePin_L75 E a0 xv1 w0 h kc ks Q := by
  have F0 : xf (FM a0 ad) h h := xf.rf
  unfold M_typePin_L75 at hm
  unfold m_X12_typePin_L75
  refine ⟨fun q33 => ?_, fun q33 => ?_⟩
  · rw [if_pos q33] at hm
    exact z_typePin_L96 R0 hm (fun h1 R1 f1 => hQ h1 R1 (F0.tr f1))
  · rw [if_neg q33] at hm
    obtain ⟨⟨x25, s26⟩, o28, hm⟩ := Option.bind_eq_some_iff.mp hm
    try dsimp only [lt1] at hm
    refine zr_O R0 ?_
    refine z_writes R0 o28 (fun h27 R27 f27 => ?_)
    have F27 := F0.tr f27
    refine ⟨fun q32 => ?_, fun q32 => ?_⟩
    · rw [if_pos q32] at hm
      cases hm
      exact hQ _ R27 F27
    · rw [if_neg q32] at hm
      refine zr_R R27 rfl ?_
      have b29 : ¬ (xv1 < 0 ∨ 16 ≤ (xv1).toNatClampNeg) := fun q => by rw [if_pos q] at hm; cases hm
      rw [if_neg b29] at hm
      refine zr_n ?_
      try dsimp only [lt1] at hm
      refine zr_s R27 (n := 16) (by decide) b29 (fun h31 R31 f31 => ?_)
      have F31 := F27.tr f31
      obtain ⟨s30, e_s30⟩ : ∃ z, z = mA s26 28 (xv1).toNatClampNeg 3 := ⟨_, rfl⟩
      rw [← e_s30] at R31
      try rw [← e_s30] at hm
      exact z_typePin_L96 R31 hm (fun h1 R1 f1 => hQ h1 R1 (F31.tr f1))
set_option maxRecDepth 100000 in
set_option maxHeartbeats 4000000 in
theorem z_typePin {E : Ev} {a0 : Nat} {ad : Nat → Nat} {s' : MS} {Q : Hp → Prop} {s : MS} {h : Hp} {kc ks : Nat} {xp1 : Int32} (R0 : RepM E h a0 ad s) (hm : M_typePin s xp1 = some s') (hQ : ∀ h1, RepM E h1 a0 ad s' → xf (FM a0 ad) h h1 → Q h1)   : m_X12_typePin E a0 xp1 h kc ks Q := by
  have F0 : xf (FM a0 ad) h h := xf.rf
  unfold M_typePin at hm
  unfold m_X12_typePin
  refine zr_R R0 rfl ?_
  have b1 : ¬ (xp1 < 0 ∨ 16 ≤ (xp1).toNatClampNeg) := fun q => by rw [if_pos q] at hm; cases hm
  rw [if_neg b1] at hm
  refine zr_n ?_
  refine zr_a R0 (n := 16) (by decide) b1 ?_
  refine ⟨fun q24 => ?_, fun q24 => ?_⟩
  · rw [if_pos q24] at hm
    refine zr_R R0 rfl ?_
    have b14 : ¬ (xp1 < 0 ∨ 16 ≤ (xp1).toNatClampNeg) := fun q => by rw [if_pos q] at hm; cases hm
    rw [if_neg b14] at hm
    refine zr_n ?_
    try dsimp only [lt1] at hm
    refine zr_s R0 (n := 16) (by decide) b14 (fun h16 R16 f16 => ?_)
    have F16 := F0.tr f16
    obtain ⟨s15, e_s15⟩ : ∃ z, z = mA s 31 (xp1).toNatClampNeg 2 := ⟨_, rfl⟩
    rw [← e_s15] at R16
    try rw [← e_s15] at hm
    refine zr_R R16 rfl ?_
    have b17 : ¬ ((6 : Int32) < 0 ∨ 12 ≤ ((6 : Int32)).toNatClampNeg) := fun q => by rw [if_pos q] at hm; cases hm
    rw [if_neg b17] at hm
    refine zr_n ?_
    try dsimp only [lt1] at hm
    refine zr_sl R16 (by decide) b17 (fun h19 R19 f19 => ?_)
    have F19 := F16.tr f19
    obtain ⟨s18, e_s18⟩ : ∃ z, z = mL s15 18 ((6 : Int32)).toNatClampNeg 2 := ⟨_, rfl⟩
    rw [← e_s18] at R19
    try rw [← e_s18] at hm
    obtain ⟨s21, o23, hm⟩ := Option.bind_eq_some_iff.mp hm
    refine zr_O R19 ?_
    refine z_reply R19 o23 (fun h22 R22 f22 => ?_)
    have F22 := F19.tr f22
    cases hm
    exact hQ _ R22 F22
  · rw [if_neg q24] at hm
    obtain ⟨⟨x2, s3⟩, o5, hm⟩ := Option.bind_eq_some_iff.mp hm
    try dsimp only [lt1] at hm
    refine zr_O R0 ?_
    refine z_writes R0 o5 (fun h4 R4 f4 => ?_)
    have F4 := F0.tr f4
    refine ⟨fun q13 => ?_, fun q13 => ?_⟩
    · rw [if_pos q13] at hm
      cases hm
      exact hQ _ R4 F4
    · rw [if_neg q13] at hm
      refine zr_R R4 rfl ?_
      have b6 : ¬ (xp1 < 0 ∨ 16 ≤ (xp1).toNatClampNeg) := fun q => by rw [if_pos q] at hm; cases hm
      rw [if_neg b6] at hm
      refine zr_n ?_
      refine zr_a R4 (n := 16) (by decide) b6 ?_
      have b7 : ¬ (xp1 < 0 ∨ 16 ≤ (xp1).toNatClampNeg) := fun q => by rw [if_pos q] at hm; cases hm
      rw [if_neg b7] at hm
      try dsimp only [lt1] at hm
      refine zr_s R4 (n := 16) (by decide) b7 (fun h9 R9 f9 => ?_)
      have F9 := F4.tr f9
      obtain ⟨s8, e_s8⟩ : ∃ z, z = mA s3 28 (xp1).toNatClampNeg ((s3.2.2.1 28 (xp1).toNatClampNeg) - 1) := ⟨_, rfl⟩
      rw [← e_s8] at R9
      try rw [← e_s8] at hm
      refine zr_R R9 rfl ?_
      have b10 : ¬ ((9 : Int32) < 0 ∨ 12 ≤ ((9 : Int32)).toNatClampNeg) := fun q => by rw [if_pos q] at hm; cases hm
      rw [if_neg b10] at hm
      refine zr_n ?_
      refine zr_l R9 (by decide) b10 ?_
      refine zr_R R9 rfl ?_
      have b11 : ¬ (xp1 < 0 ∨ 16 ≤ (xp1).toNatClampNeg) := fun q => by rw [if_pos q] at hm; cases hm
      rw [if_neg b11] at hm
      refine zr_n ?_
      refine zr_a R9 (n := 16) (by decide) b11 ?_
      refine ⟨fun q12 => ?_, fun q12 => ?_⟩
      · rw [if_pos q12] at hm
        exact z_typePin_L75 R9 hm (fun h1 R1 f1 => hQ h1 R1 (F9.tr f1))
      · rw [if_neg q12] at hm
        exact z_typePin_L75 R9 hm (fun h1 R1 f1 => hQ h1 R1 (F9.tr f1))
set_option maxRecDepth 100000 in
set_option maxHeartbeats 4000000 in
theorem z_answer_L373 {E : Ev} {a0 : Nat} {ad : Nat → Nat} {s' : MS} {Q : Hp → Prop} {s : MS} {h : Hp} {kc ks : Nat} {xv1 : Int32} {w0 : Int32} {w1 : Int32} (R0 : RepM E h a0 ad s) (hm : M_answer_L373 s xv1 w0 w1 = some s') (hQ : ∀ h1, RepM E h1 a0 ad s' → xf (FM a0 ad) h h1 → Q h1) : m_X12_answer_L373 E a0 xv1 w0 w1 (some (ad 30)) h kc ks Q := by
  have F0 : xf (FM a0 ad) h h := xf.rf
  unfold M_answer_L373 at hm
  unfold m_X12_answer_L373
  have b110 : ¬ (w1 < 0 ∨ 16 ≤ (w1).toNatClampNeg) := fun q => by rw [if_pos q] at hm; cases hm
  rw [if_neg b110] at hm
  refine zr_n ?_
  try dsimp only [lt1] at hm
  refine zr_s R0 (n := 16) (by decide) b110 (fun h112 R112 f112 => ?_)
  have F112 := F0.tr f112
  obtain ⟨s111, e_s111⟩ : ∃ z, z = mA s 30 (w1).toNatClampNeg w0 := ⟨_, rfl⟩
  rw [← e_s111] at R112
  try rw [← e_s111] at hm
  obtain ⟨s114, o116, hm⟩ := Option.bind_eq_some_iff.mp hm
  refine zr_O R112 ?_
  refine z_reply R112 o116 (fun h115 R115 f115 => ?_)
  have F115 := F112.tr f115
  cases hm
  exact hQ _ R115 F115
set_option maxRecDepth 100000 in
set_option maxHeartbeats 4000000 in
theorem z_answer_L97 {E : Ev} {a0 : Nat} {ad : Nat → Nat} {s' : MS} {Q : Hp → Prop} {s : MS} {h : Hp} {kc ks : Nat} {xv1 : Int32} {yv4 : Int64} {xv6 : Int32} (R0 : RepM E h a0 ad s) (hm : M_answer_L97 s xv1 yv4 xv6 = some s') (hQ : ∀ h1, RepM E h1 a0 ad s' → xf (FM a0 ad) h h1 → Q h1) : m_X12_answer_L97 E a0 xv1 yv4 xv6 h kc ks Q := by
  have F0 : xf (FM a0 ad) h h := xf.rf
  unfold M_answer_L97 at hm
  unfold m_X12_answer_L97
  refine zr_R R0 rfl ?_
  have b21 : ¬ (xv1 < 0 ∨ 16 ≤ (xv1).toNatClampNeg) := fun q => by rw [if_pos q] at hm; cases hm
  rw [if_neg b21] at hm
  refine zr_n ?_
  try dsimp only [lt1] at hm
  refine zr_sl R0 (by decide) b21 (fun h23 R23 f23 => ?_)
  have F23 := F0.tr f23
  obtain ⟨s22, e_s22⟩ : ∃ z, z = mL s 32 (xv1).toNatClampNeg yv4 := ⟨_, rfl⟩
  rw [← e_s22] at R23
  try rw [← e_s22] at hm
  refine zr_R R23 rfl ?_
  refine zr_R R23 rfl ?_
  have b24 : ¬ ((4 : Int32) < 0 ∨ 12 ≤ ((4 : Int32)).toNatClampNeg) := fun q => by rw [if_pos q] at hm; cases hm
  rw [if_neg b24] at hm
  refine zr_n ?_
  refine zr_l R23 (by decide) b24 ?_
  have b25 : ¬ (xv1 < 0 ∨ 16 ≤ (xv1).toNatClampNeg) := fun q => by rw [if_pos q] at hm; cases hm
  rw [if_neg b25] at hm
  refine zr_n ?_
  try dsimp only [lt1] at hm
  refine zr_sl R23 (by decide) b25 (fun h27 R27 f27 => ?_)
  have F27 := F23.tr f27
  obtain ⟨s26, e_s26⟩ : ∃ z, z = mL s22 33 (xv1).toNatClampNeg (s22.2.2.2 17 ((4 : Int32)).toNatClampNeg) := ⟨_, rfl⟩
  rw [← e_s26] at R27
  try rw [← e_s26] at hm
  refine zr_R R27 rfl ?_
  refine zr_R R27 rfl ?_
  have b28 : ¬ ((5 : Int32) < 0 ∨ 12 ≤ ((5 : Int32)).toNatClampNeg) := fun q => by rw [if_pos q] at hm; cases hm
  rw [if_neg b28] at hm
  refine zr_n ?_
  refine zr_l R27 (by decide) b28 ?_
  have b29 : ¬ (xv1 < 0 ∨ 16 ≤ (xv1).toNatClampNeg) := fun q => by rw [if_pos q] at hm; cases hm
  rw [if_neg b29] at hm
  refine zr_n ?_
  try dsimp only [lt1] at hm
  refine zr_sl R27 (by decide) b29 (fun h31 R31 f31 => ?_)
  have F31 := F27.tr f31
  obtain ⟨s30, e_s30⟩ : ∃ z, z = mL s26 34 (xv1).toNatClampNeg (s26.2.2.2 17 ((5 : Int32)).toNatClampNeg) := ⟨_, rfl⟩
  rw [← e_s30] at R31
  try rw [← e_s30] at hm
  obtain ⟨s33, o35, hm⟩ := Option.bind_eq_some_iff.mp hm
  refine zr_O R31 ?_
  refine z_begin R31 o35 (fun h34 R34 f34 => ?_)
  have F34 := F31.tr f34
  obtain ⟨s37, o39, hm⟩ := Option.bind_eq_some_iff.mp hm
  refine zr_O R34 ?_
  refine z_more R34 o39 (fun h38 R38 f38 => ?_)
  have F38 := F34.tr f38
  obtain ⟨s41, o43, hm⟩ := Option.bind_eq_some_iff.mp hm
  refine zr_O R38 ?_
  refine z_more R38 o43 (fun h42 R42 f42 => ?_)
  have F42 := F38.tr f42
  refine zr_R R42 rfl ?_
  have b44 : ¬ ((4 : Int32) < 0 ∨ 12 ≤ ((4 : Int32)).toNatClampNeg) := fun q => by rw [if_pos q] at hm; cases hm
  rw [if_neg b44] at hm
  refine zr_n ?_
  refine zr_l R42 (by decide) b44 ?_
  obtain ⟨s46, o48, hm⟩ := Option.bind_eq_some_iff.mp hm
  refine zr_O R42 ?_
  refine z_more R42 o48 (fun h47 R47 f47 => ?_)
  have F47 := F42.tr f47
  refine zr_R R47 rfl ?_
  have b49 : ¬ ((5 : Int32) < 0 ∨ 12 ≤ ((5 : Int32)).toNatClampNeg) := fun q => by rw [if_pos q] at hm; cases hm
  rw [if_neg b49] at hm
  refine zr_n ?_
  refine zr_l R47 (by decide) b49 ?_
  obtain ⟨s51, o53, hm⟩ := Option.bind_eq_some_iff.mp hm
  refine zr_O R47 ?_
  refine z_more R47 o53 (fun h52 R52 f52 => ?_)
  have F52 := F47.tr f52
  refine zr_R R52 rfl ?_
  have b54 : ¬ (xv1 < 0 ∨ 16 ≤ (xv1).toNatClampNeg) := fun q => by rw [if_pos q] at hm; cases hm
  rw [if_neg b54] at hm
  refine zr_n ?_
  refine zr_a R52 (n := 16) (by decide) b54 ?_
  obtain ⟨s56, o58, hm⟩ := Option.bind_eq_some_iff.mp hm
  refine zr_O R52 ?_
  refine z_more R52 o58 (fun h57 R57 f57 => ?_)
  have F57 := F52.tr f57
  refine zr_R R57 rfl ?_
  have b59 : ¬ (xv1 < 0 ∨ 16 ≤ (xv1).toNatClampNeg) := fun q => by rw [if_pos q] at hm; cases hm
  rw [if_neg b59] at hm
  refine zr_n ?_
  refine zr_a R57 (n := 16) (by decide) b59 ?_
  obtain ⟨s61, o63, hm⟩ := Option.bind_eq_some_iff.mp hm
  refine zr_O R57 ?_
  refine z_more R57 o63 (fun h62 R62 f62 => ?_)
  have F62 := F57.tr f62
  refine zr_R R62 rfl ?_
  refine zr_R R62 rfl ?_
  have b64 : ¬ (xv1 < 0 ∨ 16 ≤ (xv1).toNatClampNeg) := fun q => by rw [if_pos q] at hm; cases hm
  rw [if_neg b64] at hm
  refine zr_n ?_
  refine zr_a R62 (n := 16) (by decide) b64 ?_
  have b65 : ¬ ((2 : Int32) < 0 ∨ 12 ≤ ((2 : Int32)).toNatClampNeg) := fun q => by rw [if_pos q] at hm; cases hm
  rw [if_neg b65] at hm
  refine zr_n ?_
  try dsimp only [lt1] at hm
  refine zr_sl R62 (by decide) b65 (fun h67 R67 f67 => ?_)
  have F67 := F62.tr f67
  obtain ⟨s66, e_s66⟩ : ∃ z, z = mL s61 18 ((2 : Int32)).toNatClampNeg ((s61.2.2.1 27 (xv1).toNatClampNeg).toInt64) := ⟨_, rfl⟩
  rw [← e_s66] at R67
  try rw [← e_s66] at hm
  refine zr_R R67 rfl ?_
  refine zr_R R67 rfl ?_
  have b68 : ¬ (xv1 < 0 ∨ 16 ≤ (xv1).toNatClampNeg) := fun q => by rw [if_pos q] at hm; cases hm
  rw [if_neg b68] at hm
  refine zr_n ?_
  refine zr_a R67 (n := 16) (by decide) b68 ?_
  have b69 : ¬ ((6 : Int32) < 0 ∨ 12 ≤ ((6 : Int32)).toNatClampNeg) := fun q => by rw [if_pos q] at hm; cases hm
  rw [if_neg b69] at hm
  refine zr_n ?_
  try dsimp only [lt1] at hm
  refine zr_sl R67 (by decide) b69 (fun h71 R71 f71 => ?_)
  have F71 := F67.tr f71
  obtain ⟨s70, e_s70⟩ : ∃ z, z = mL s66 18 ((6 : Int32)).toNatClampNeg ((s66.2.2.1 31 (xv1).toNatClampNeg).toInt64) := ⟨_, rfl⟩
  rw [← e_s70] at R71
  try rw [← e_s70] at hm
  refine zr_R R71 rfl ?_
  have b72 : ¬ ((7 : Int32) < 0 ∨ 12 ≤ ((7 : Int32)).toNatClampNeg) := fun q => by rw [if_pos q] at hm; cases hm
  rw [if_neg b72] at hm
  refine zr_n ?_
  try dsimp only [lt1] at hm
  refine zr_sl R71 (by decide) b72 (fun h74 R74 f74 => ?_)
  have F74 := F71.tr f74
  obtain ⟨s73, e_s73⟩ : ∃ z, z = mL s70 18 ((7 : Int32)).toNatClampNeg xv6.toInt64 := ⟨_, rfl⟩
  rw [← e_s73] at R74
  try rw [← e_s73] at hm
  refine zr_R R74 rfl ?_
  obtain ⟨⟨x75, s76⟩, o78, hm⟩ := Option.bind_eq_some_iff.mp hm
  try dsimp only [lt1] at hm
  refine zr_O R74 ?_
  refine z_seal R74 o78 (fun h77 R77 f77 => ?_)
  have F77 := F74.tr f77
  have b79 : ¬ ((8 : Int32) < 0 ∨ 12 ≤ ((8 : Int32)).toNatClampNeg) := fun q => by rw [if_pos q] at hm; cases hm
  rw [if_neg b79] at hm
  refine zr_n ?_
  try dsimp only [lt1] at hm
  refine zr_sl R77 (by decide) b79 (fun h81 R81 f81 => ?_)
  have F81 := F77.tr f81
  obtain ⟨s80, e_s80⟩ : ∃ z, z = mL s76 18 ((8 : Int32)).toNatClampNeg x75.toInt64 := ⟨_, rfl⟩
  rw [← e_s80] at R81
  try rw [← e_s80] at hm
  refine zr_I R81 rfl ?_
  refine zr_R R81 rfl ?_
  have b82 : ¬ (7 * (s80.1 59) < 0 ∨ 4200 ≤ (7 * (s80.1 59)).toNatClampNeg) := fun q => by rw [if_pos q] at hm; cases hm
  rw [if_neg b82] at hm
  refine zr_n ?_
  try dsimp only [lt1] at hm
  refine zr_sl R81 (by decide) b82 (fun h84 R84 f84 => ?_)
  have F84 := F81.tr f84
  obtain ⟨s83, e_s83⟩ : ∃ z, z = mL s80 60 (7 * (s80.1 59)).toNatClampNeg xv1.toInt64 := ⟨_, rfl⟩
  rw [← e_s83] at R84
  try rw [← e_s83] at hm
  refine zr_R R84 rfl ?_
  refine zr_R R84 rfl ?_
  have b85 : ¬ (xv1 < 0 ∨ 16 ≤ (xv1).toNatClampNeg) := fun q => by rw [if_pos q] at hm; cases hm
  rw [if_neg b85] at hm
  refine zr_n ?_
  refine zr_a R84 (n := 16) (by decide) b85 ?_
  have b86 : ¬ ((7 * (s80.1 59)) + 1 < 0 ∨ 4200 ≤ ((7 * (s80.1 59)) + 1).toNatClampNeg) := fun q => by rw [if_pos q] at hm; cases hm
  rw [if_neg b86] at hm
  refine zr_n ?_
  try dsimp only [lt1] at hm
  refine zr_sl R84 (by decide) b86 (fun h88 R88 f88 => ?_)
  have F88 := F84.tr f88
  obtain ⟨s87, e_s87⟩ : ∃ z, z = mL s83 60 ((7 * (s80.1 59)) + 1).toNatClampNeg ((s83.2.2.1 27 (xv1).toNatClampNeg).toInt64) := ⟨_, rfl⟩
  rw [← e_s87] at R88
  try rw [← e_s87] at hm
  refine zr_R R88 rfl ?_
  have b89 : ¬ ((7 * (s80.1 59)) + 2 < 0 ∨ 4200 ≤ ((7 * (s80.1 59)) + 2).toNatClampNeg) := fun q => by rw [if_pos q] at hm; cases hm
  rw [if_neg b89] at hm
  refine zr_n ?_
  try dsimp only [lt1] at hm
  refine zr_sl R88 (by decide) b89 (fun h91 R91 f91 => ?_)
  have F91 := F88.tr f91
  obtain ⟨s90, e_s90⟩ : ∃ z, z = mL s87 60 ((7 * (s80.1 59)) + 2).toNatClampNeg yv4 := ⟨_, rfl⟩
  rw [← e_s90] at R91
  try rw [← e_s90] at hm
  refine zr_R R91 rfl ?_
  refine zr_R R91 rfl ?_
  have b92 : ¬ ((4 : Int32) < 0 ∨ 12 ≤ ((4 : Int32)).toNatClampNeg) := fun q => by rw [if_pos q] at hm; cases hm
  rw [if_neg b92] at hm
  refine zr_n ?_
  refine zr_l R91 (by decide) b92 ?_
  have b93 : ¬ ((7 * (s80.1 59)) + 3 < 0 ∨ 4200 ≤ ((7 * (s80.1 59)) + 3).toNatClampNeg) := fun q => by rw [if_pos q] at hm; cases hm
  rw [if_neg b93] at hm
  refine zr_n ?_
  try dsimp only [lt1] at hm
  refine zr_sl R91 (by decide) b93 (fun h95 R95 f95 => ?_)
  have F95 := F91.tr f95
  obtain ⟨s94, e_s94⟩ : ∃ z, z = mL s90 60 ((7 * (s80.1 59)) + 3).toNatClampNeg (s90.2.2.2 17 ((4 : Int32)).toNatClampNeg) := ⟨_, rfl⟩
  rw [← e_s94] at R95
  try rw [← e_s94] at hm
  refine zr_R R95 rfl ?_
  refine zr_R R95 rfl ?_
  have b96 : ¬ ((5 : Int32) < 0 ∨ 12 ≤ ((5 : Int32)).toNatClampNeg) := fun q => by rw [if_pos q] at hm; cases hm
  rw [if_neg b96] at hm
  refine zr_n ?_
  refine zr_l R95 (by decide) b96 ?_
  have b97 : ¬ ((7 * (s80.1 59)) + 4 < 0 ∨ 4200 ≤ ((7 * (s80.1 59)) + 4).toNatClampNeg) := fun q => by rw [if_pos q] at hm; cases hm
  rw [if_neg b97] at hm
  refine zr_n ?_
  try dsimp only [lt1] at hm
  refine zr_sl R95 (by decide) b97 (fun h99 R99 f99 => ?_)
  have F99 := F95.tr f99
  obtain ⟨s98, e_s98⟩ : ∃ z, z = mL s94 60 ((7 * (s80.1 59)) + 4).toNatClampNeg (s94.2.2.2 17 ((5 : Int32)).toNatClampNeg) := ⟨_, rfl⟩
  rw [← e_s98] at R99
  try rw [← e_s98] at hm
  refine zr_R R99 rfl ?_
  refine zr_R R99 rfl ?_
  have b100 : ¬ (xv1 < 0 ∨ 16 ≤ (xv1).toNatClampNeg) := fun q => by rw [if_pos q] at hm; cases hm
  rw [if_neg b100] at hm
  refine zr_n ?_
  refine zr_a R99 (n := 16) (by decide) b100 ?_
  have b101 : ¬ ((7 * (s80.1 59)) + 5 < 0 ∨ 4200 ≤ ((7 * (s80.1 59)) + 5).toNatClampNeg) := fun q => by rw [if_pos q] at hm; cases hm
  rw [if_neg b101] at hm
  refine zr_n ?_
  try dsimp only [lt1] at hm
  refine zr_sl R99 (by decide) b101 (fun h103 R103 f103 => ?_)
  have F103 := F99.tr f103
  obtain ⟨s102, e_s102⟩ : ∃ z, z = mL s98 60 ((7 * (s80.1 59)) + 5).toNatClampNeg ((s98.2.2.1 31 (xv1).toNatClampNeg).toInt64) := ⟨_, rfl⟩
  rw [← e_s102] at R103
  try rw [← e_s102] at hm
  refine zr_R R103 rfl ?_
  have b104 : ¬ ((7 * (s80.1 59)) + 6 < 0 ∨ 4200 ≤ ((7 * (s80.1 59)) + 6).toNatClampNeg) := fun q => by rw [if_pos q] at hm; cases hm
  rw [if_neg b104] at hm
  refine zr_n ?_
  try dsimp only [lt1] at hm
  refine zr_sl R103 (by decide) b104 (fun h106 R106 f106 => ?_)
  have F106 := F103.tr f106
  obtain ⟨s105, e_s105⟩ : ∃ z, z = mL s102 60 ((7 * (s80.1 59)) + 6).toNatClampNeg xv6.toInt64 := ⟨_, rfl⟩
  rw [← e_s105] at R106
  try rw [← e_s105] at hm
  refine zr_I R106 rfl ?_
  try dsimp only [lt1] at hm
  refine zr_pI R106 (by decide) rfl (fun h108 R108 f108 => ?_)
  have F108 := F106.tr f108
  obtain ⟨s107, e_s107⟩ : ∃ z, z = mI s105 59 ((s105.1 59) + 1) := ⟨_, rfl⟩
  rw [← e_s107] at R108
  try rw [← e_s107] at hm
  refine zr_R R108 rfl ?_
  refine ⟨fun q109 => ?_, fun q109 => ?_⟩
  · rw [if_pos q109] at hm
    exact z_answer_L373 R108 hm (fun h1 R1 f1 => hQ h1 R1 (F108.tr f1))
  · rw [if_neg q109] at hm
    exact z_answer_L373 R108 hm (fun h1 R1 f1 => hQ h1 R1 (F108.tr f1))
set_option maxRecDepth 100000 in
set_option maxHeartbeats 4000000 in
theorem z_answer_L34 {E : Ev} {a0 : Nat} {ad : Nat → Nat} {s' : MS} {Q : Hp → Prop} {s : MS} {h : Hp} {kc ks : Nat} {xv1 : Int32} {yv4 : Int64} (R0 : RepM E h a0 ad s) (hm : M_answer_L34 s xv1 yv4 = some s') (hQ : ∀ h1, RepM E h1 a0 ad s' → xf (FM a0 ad) h h1 → Q h1) : m_X12_answer_L34 E a0 xv1 yv4 h kc ks Q := by
  have F0 : xf (FM a0 ad) h h := xf.rf
  unfold M_answer_L34 at hm
  unfold m_X12_answer_L34
  exact z_answer_L97 R0 hm (fun h1 R1 f1 => hQ h1 R1 (F0.tr f1))
set_option maxRecDepth 100000 in
set_option maxHeartbeats 4000000 in
theorem z_answer {E : Ev} {a0 : Nat} {ad : Nat → Nat} {s' : MS} {Q : Hp → Prop} {s : MS} {h : Hp} {kc ks : Nat} {xp1 : Int32} (R0 : RepM E h a0 ad s) (hm : M_answer s xp1 = some s') (hQ : ∀ h1, RepM E h1 a0 ad s' → xf (FM a0 ad) h h1 → Q h1)   : m_X12_answer E a0 xp1 h kc ks Q := by
  have F0 : xf (FM a0 ad) h h := xf.rf
  unfold M_answer at hm
  unfold m_X12_answer
  refine zr_R R0 rfl ?_
  have b1 : ¬ ((7 : Int32) < 0 ∨ 12 ≤ ((7 : Int32)).toNatClampNeg) := fun q => by rw [if_pos q] at hm; cases hm
  rw [if_neg b1] at hm
  refine zr_n ?_
  refine zr_l R0 (by decide) b1 ?_
  refine zr_R R0 rfl ?_
  have b2 : ¬ ((3 : Int32) < 0 ∨ 12 ≤ ((3 : Int32)).toNatClampNeg) := fun q => by rw [if_pos q] at hm; cases hm
  rw [if_neg b2] at hm
  refine zr_n ?_
  refine zr_l R0 (by decide) b2 ?_
  refine zr_R R0 rfl ?_
  have b3 : ¬ (xp1 < 0 ∨ 16 ≤ (xp1).toNatClampNeg) := fun q => by rw [if_pos q] at hm; cases hm
  rw [if_neg b3] at hm
  refine zr_n ?_
  refine zr_a R0 (n := 16) (by decide) b3 ?_
  refine ⟨fun q20 => ?_, fun q20 => ?_⟩
  · rw [if_pos q20] at hm
    exact z_answer_L34 R0 hm (fun h1 R1 f1 => hQ h1 R1 (F0.tr f1))
  · rw [if_neg q20] at hm
    refine ⟨fun q19 => ?_, fun q19 => ?_⟩
    · rw [if_pos q19] at hm
      exact z_answer_L34 R0 hm (fun h1 R1 f1 => hQ h1 R1 (F0.tr f1))
    · rw [if_neg q19] at hm
      refine ⟨fun q18 => ?_, fun q18 => ?_⟩
      · rw [if_pos q18] at hm
        refine zr_R R0 rfl ?_
        have b4 : ¬ (xp1 < 0 ∨ 16 ≤ (xp1).toNatClampNeg) := fun q => by rw [if_pos q] at hm; cases hm
        rw [if_neg b4] at hm
        refine zr_n ?_
        refine zr_l R0 (by decide) b4 ?_
        refine ⟨fun q17 => ?_, fun q17 => ?_⟩
        · rw [if_pos q17] at hm
          exact z_answer_L97 R0 hm (fun h1 R1 f1 => hQ h1 R1 (F0.tr f1))
        · rw [if_neg q17] at hm
          refine zr_R R0 rfl ?_
          have b5 : ¬ (xp1 < 0 ∨ 16 ≤ (xp1).toNatClampNeg) := fun q => by rw [if_pos q] at hm; cases hm
          rw [if_neg b5] at hm
          refine zr_n ?_
          refine zr_a R0 (n := 16) (by decide) b5 ?_
          refine zr_R R0 rfl ?_
          have b6 : ¬ (xp1 < 0 ∨ 16 ≤ (xp1).toNatClampNeg) := fun q => by rw [if_pos q] at hm; cases hm
          rw [if_neg b6] at hm
          refine zr_n ?_
          refine zr_a R0 (n := 16) (by decide) b6 ?_
          refine ⟨fun q16 => ?_, fun q16 => ?_⟩
          · rw [if_pos q16] at hm
            exact z_answer_L97 R0 hm (fun h1 R1 f1 => hQ h1 R1 (F0.tr f1))
          · rw [if_neg q16] at hm
            obtain ⟨⟨x7, s8⟩, o10, hm⟩ := Option.bind_eq_some_iff.mp hm
            try dsimp only [lt1] at hm
            refine zr_O R0 ?_
            refine z_writes R0 o10 (fun h9 R9 f9 => ?_)
            have F9 := F0.tr f9
            refine ⟨fun q15 => ?_, fun q15 => ?_⟩
            · rw [if_pos q15] at hm
              cases hm
              exact hQ _ R9 F9
            · rw [if_neg q15] at hm
              refine zr_R R9 rfl ?_
              have b11 : ¬ (xp1 < 0 ∨ 16 ≤ (xp1).toNatClampNeg) := fun q => by rw [if_pos q] at hm; cases hm
              rw [if_neg b11] at hm
              refine zr_n ?_
              refine zr_a R9 (n := 16) (by decide) b11 ?_
              have b12 : ¬ (xp1 < 0 ∨ 16 ≤ (xp1).toNatClampNeg) := fun q => by rw [if_pos q] at hm; cases hm
              rw [if_neg b12] at hm
              try dsimp only [lt1] at hm
              refine zr_s R9 (n := 16) (by decide) b12 (fun h14 R14 f14 => ?_)
              have F14 := F9.tr f14
              obtain ⟨s13, e_s13⟩ : ∃ z, z = mA s8 29 (xp1).toNatClampNeg ((s8.2.2.1 29 (xp1).toNatClampNeg) + 1) := ⟨_, rfl⟩
              rw [← e_s13] at R14
              try rw [← e_s13] at hm
              exact z_answer_L97 R14 hm (fun h1 R1 f1 => hQ h1 R1 (F14.tr f1))
      · rw [if_neg q18] at hm
        exact z_answer_L97 R0 hm (fun h1 R1 f1 => hQ h1 R1 (F0.tr f1))
set_option maxRecDepth 100000 in
set_option maxHeartbeats 4000000 in
theorem z_finish_L99 {E : Ev} {a0 : Nat} {ad : Nat → Nat} {s' : MS} {Q : Hp → Prop} {s : MS} {h : Hp} {kc ks : Nat} {xv1 : Int32} {w0 : Int32} (R0 : RepM E h a0 ad s) (hm : M_finish_L99 s xv1 w0 = some s') (hQ : ∀ h1, RepM E h1 a0 ad s' → xf (FM a0 ad) h h1 → Q h1) : m_X12_finish_L99 E a0 xv1 w0 h kc ks Q := by
  have F0 : xf (FM a0 ad) h h := xf.rf
  unfold M_finish_L99 at hm
  unfold m_X12_finish_L99
  obtain ⟨s38, o40, hm⟩ := Option.bind_eq_some_iff.mp hm
  refine zr_O R0 ?_
  refine z_begin R0 o40 (fun h39 R39 f39 => ?_)
  have F39 := F0.tr f39
  obtain ⟨s42, o44, hm⟩ := Option.bind_eq_some_iff.mp hm
  refine zr_O R39 ?_
  refine z_more R39 o44 (fun h43 R43 f43 => ?_)
  have F43 := F39.tr f43
  refine zr_R R43 rfl ?_
  have b45 : ¬ (xv1 < 0 ∨ 16 ≤ (xv1).toNatClampNeg) := fun q => by rw [if_pos q] at hm; cases hm
  rw [if_neg b45] at hm
  refine zr_n ?_
  refine zr_l R43 (by decide) b45 ?_
  obtain ⟨s47, o49, hm⟩ := Option.bind_eq_some_iff.mp hm
  refine zr_O R43 ?_
  refine z_more R43 o49 (fun h48 R48 f48 => ?_)
  have F48 := F43.tr f48
  refine zr_R R48 rfl ?_
  have b50 : ¬ (xv1 < 0 ∨ 16 ≤ (xv1).toNatClampNeg) := fun q => by rw [if_pos q] at hm; cases hm
  rw [if_neg b50] at hm
  refine zr_n ?_
  refine zr_l R48 (by decide) b50 ?_
  obtain ⟨s52, o54, hm⟩ := Option.bind_eq_some_iff.mp hm
  refine zr_O R48 ?_
  refine z_more R48 o54 (fun h53 R53 f53 => ?_)
  have F53 := F48.tr f53
  refine zr_R R53 rfl ?_
  have b55 : ¬ (xv1 < 0 ∨ 16 ≤ (xv1).toNatClampNeg) := fun q => by rw [if_pos q] at hm; cases hm
  rw [if_neg b55] at hm
  refine zr_n ?_
  refine zr_l R53 (by decide) b55 ?_
  obtain ⟨s57, o59, hm⟩ := Option.bind_eq_some_iff.mp hm
  refine zr_O R53 ?_
  refine z_more R53 o59 (fun h58 R58 f58 => ?_)
  have F58 := F53.tr f58
  refine zr_R R58 rfl ?_
  have b60 : ¬ (xv1 < 0 ∨ 16 ≤ (xv1).toNatClampNeg) := fun q => by rw [if_pos q] at hm; cases hm
  rw [if_neg b60] at hm
  refine zr_n ?_
  refine zr_a R58 (n := 16) (by decide) b60 ?_
  obtain ⟨s62, o64, hm⟩ := Option.bind_eq_some_iff.mp hm
  refine zr_O R58 ?_
  refine z_more R58 o64 (fun h63 R63 f63 => ?_)
  have F63 := F58.tr f63
  refine zr_R R63 rfl ?_
  have b65 : ¬ ((7 : Int32) < 0 ∨ 12 ≤ ((7 : Int32)).toNatClampNeg) := fun q => by rw [if_pos q] at hm; cases hm
  rw [if_neg b65] at hm
  refine zr_n ?_
  try dsimp only [lt1] at hm
  refine zr_sl R63 (by decide) b65 (fun h67 R67 f67 => ?_)
  have F67 := F63.tr f67
  obtain ⟨s66, e_s66⟩ : ∃ z, z = mL s62 18 ((7 : Int32)).toNatClampNeg w0.toInt64 := ⟨_, rfl⟩
  rw [← e_s66] at R67
  try rw [← e_s66] at hm
  refine zr_R R67 rfl ?_
  obtain ⟨⟨x68, s69⟩, o71, hm⟩ := Option.bind_eq_some_iff.mp hm
  try dsimp only [lt1] at hm
  refine zr_O R67 ?_
  refine z_seal R67 o71 (fun h70 R70 f70 => ?_)
  have F70 := F67.tr f70
  have b72 : ¬ ((8 : Int32) < 0 ∨ 12 ≤ ((8 : Int32)).toNatClampNeg) := fun q => by rw [if_pos q] at hm; cases hm
  rw [if_neg b72] at hm
  refine zr_n ?_
  try dsimp only [lt1] at hm
  refine zr_sl R70 (by decide) b72 (fun h74 R74 f74 => ?_)
  have F74 := F70.tr f74
  obtain ⟨s73, e_s73⟩ : ∃ z, z = mL s69 18 ((8 : Int32)).toNatClampNeg x68.toInt64 := ⟨_, rfl⟩
  rw [← e_s73] at R74
  try rw [← e_s73] at hm
  refine zr_R R74 rfl ?_
  have b75 : ¬ (xv1 < 0 ∨ 16 ≤ (xv1).toNatClampNeg) := fun q => by rw [if_pos q] at hm; cases hm
  rw [if_neg b75] at hm
  refine zr_n ?_
  try dsimp only [lt1] at hm
  refine zr_s R74 (n := 16) (by decide) b75 (fun h77 R77 f77 => ?_)
  have F77 := F74.tr f77
  obtain ⟨s76, e_s76⟩ : ∃ z, z = mA s73 30 (xv1).toNatClampNeg 0 := ⟨_, rfl⟩
  rw [← e_s76] at R77
  try rw [← e_s76] at hm
  obtain ⟨s79, o81, hm⟩ := Option.bind_eq_some_iff.mp hm
  refine zr_O R77 ?_
  refine z_reply R77 o81 (fun h80 R80 f80 => ?_)
  have F80 := F77.tr f80
  cases hm
  exact hQ _ R80 F80
set_option maxRecDepth 100000 in
set_option maxHeartbeats 4000000 in
theorem z_finish_L90 {E : Ev} {a0 : Nat} {ad : Nat → Nat} {s' : MS} {Q : Hp → Prop} {s : MS} {h : Hp} {kc ks : Nat} {xv1 : Int32} {xv2 : Int32} (R0 : RepM E h a0 ad s) (hm : M_finish_L90 s xv1 xv2 = some s') (hQ : ∀ h1, RepM E h1 a0 ad s' → xf (FM a0 ad) h h1 → Q h1) : m_X12_finish_L90 E a0 xv1 xv2 h kc ks Q := by
  have F0 : xf (FM a0 ad) h h := xf.rf
  unfold M_finish_L90 at hm
  unfold m_X12_finish_L90
  refine ⟨fun q36 => ?_, fun q36 => ?_⟩
  · rw [if_pos q36] at hm
    exact z_finish_L99 R0 hm (fun h1 R1 f1 => hQ h1 R1 (F0.tr f1))
  · rw [if_neg q36] at hm
    exact z_finish_L99 R0 hm (fun h1 R1 f1 => hQ h1 R1 (F0.tr f1))
set_option maxRecDepth 100000 in
set_option maxHeartbeats 4000000 in
theorem z_finish_L69 {E : Ev} {a0 : Nat} {ad : Nat → Nat} {s' : MS} {Q : Hp → Prop} {s : MS} {h : Hp} {kc ks : Nat} {xv1 : Int32} {w0 : Int32} (R0 : RepM E h a0 ad s) (hm : M_finish_L69 s xv1 w0 = some s') (hQ : ∀ h1, RepM E h1 a0 ad s' → xf (FM a0 ad) h h1 → Q h1) : m_X12_finish_L69 E a0 xv1 w0 h kc ks Q := by
  have F0 : xf (FM a0 ad) h h := xf.rf
  unfold M_finish_L69 at hm
  unfold m_X12_finish_L69
  refine ⟨fun q35 => ?_, fun q35 => ?_⟩
  · rw [if_pos q35] at hm
    exact z_finish_L90 R0 hm (fun h1 R1 f1 => hQ h1 R1 (F0.tr f1))
  · rw [if_neg q35] at hm
    obtain ⟨⟨x27, s28⟩, o30, hm⟩ := Option.bind_eq_some_iff.mp hm
    try dsimp only [lt1] at hm
    refine zr_O R0 ?_
    refine z_writes R0 o30 (fun h29 R29 f29 => ?_)
    have F29 := F0.tr f29
    refine ⟨fun q34 => ?_, fun q34 => ?_⟩
    · rw [if_pos q34] at hm
      cases hm
      exact hQ _ R29 F29
    · rw [if_neg q34] at hm
      refine zr_R R29 rfl ?_
      have b31 : ¬ (xv1 < 0 ∨ 16 ≤ (xv1).toNatClampNeg) := fun q => by rw [if_pos q] at hm; cases hm
      rw [if_neg b31] at hm
      refine zr_n ?_
      try dsimp only [lt1] at hm
      refine zr_s R29 (n := 16) (by decide) b31 (fun h33 R33 f33 => ?_)
      have F33 := F29.tr f33
      obtain ⟨s32, e_s32⟩ : ∃ z, z = mA s28 29 (xv1).toNatClampNeg 0 := ⟨_, rfl⟩
      rw [← e_s32] at R33
      try rw [← e_s32] at hm
      exact z_finish_L90 R33 hm (fun h1 R1 f1 => hQ h1 R1 (F33.tr f1))
set_option maxRecDepth 100000 in
set_option maxHeartbeats 4000000 in
theorem z_finish_L68 {E : Ev} {a0 : Nat} {ad : Nat → Nat} {s' : MS} {Q : Hp → Prop} {s : MS} {h : Hp} {kc ks : Nat} {xv1 : Int32} (R0 : RepM E h a0 ad s) (hm : M_finish_L68 s xv1 = some s') (hQ : ∀ h1, RepM E h1 a0 ad s' → xf (FM a0 ad) h h1 → Q h1) : m_X12_finish_L68 E a0 xv1 h kc ks Q := by
  have F0 : xf (FM a0 ad) h h := xf.rf
  unfold M_finish_L68 at hm
  unfold m_X12_finish_L68
  exact z_finish_L69 R0 hm (fun h1 R1 f1 => hQ h1 R1 (F0.tr f1))
set_option maxRecDepth 100000 in
set_option maxHeartbeats 4000000 in
theorem z_finish {E : Ev} {a0 : Nat} {ad : Nat → Nat} {s' : MS} {Q : Hp → Prop} {s : MS} {h : Hp} {kc ks : Nat} {xp1 : Int32} (R0 : RepM E h a0 ad s) (hm : M_finish s xp1 = some s') (hQ : ∀ h1, RepM E h1 a0 ad s' → xf (FM a0 ad) h h1 → Q h1)   : m_X12_finish E a0 xp1 h kc ks Q := by
  have F0 : xf (FM a0 ad) h h := xf.rf
  unfold M_finish at hm
  unfold m_X12_finish
  obtain ⟨s2, o4, hm⟩ := Option.bind_eq_some_iff.mp hm
  refine zr_O R0 ?_
  refine z_begin R0 o4 (fun h3 R3 f3 => ?_)
  have F3 := F0.tr f3
  obtain ⟨s6, o8, hm⟩ := Option.bind_eq_some_iff.mp hm
  refine zr_O R3 ?_
  refine z_more R3 o8 (fun h7 R7 f7 => ?_)
  have F7 := F3.tr f7
  refine zr_R R7 rfl ?_
  have b9 : ¬ (xp1 < 0 ∨ 16 ≤ (xp1).toNatClampNeg) := fun q => by rw [if_pos q] at hm; cases hm
  rw [if_neg b9] at hm
  refine zr_n ?_
  refine zr_a R7 (n := 16) (by decide) b9 ?_
  obtain ⟨s11, o13, hm⟩ := Option.bind_eq_some_iff.mp hm
  refine zr_O R7 ?_
  refine z_more R7 o13 (fun h12 R12 f12 => ?_)
  have F12 := F7.tr f12
  refine zr_R R12 rfl ?_
  have b14 : ¬ ((10 : Int32) < 0 ∨ 12 ≤ ((10 : Int32)).toNatClampNeg) := fun q => by rw [if_pos q] at hm; cases hm
  rw [if_neg b14] at hm
  refine zr_n ?_
  refine zr_l R12 (by decide) b14 ?_
  obtain ⟨s16, o18, hm⟩ := Option.bind_eq_some_iff.mp hm
  refine zr_O R12 ?_
  refine z_more R12 o18 (fun h17 R17 f17 => ?_)
  have F17 := F12.tr f17
  refine zr_R R17 rfl ?_
  have b19 : ¬ ((10 : Int32) < 0 ∨ 12 ≤ ((10 : Int32)).toNatClampNeg) := fun q => by rw [if_pos q] at hm; cases hm
  rw [if_neg b19] at hm
  refine zr_n ?_
  refine zr_l R17 (by decide) b19 ?_
  refine ⟨fun q26 => ?_, fun q26 => ?_⟩
  · rw [if_pos q26] at hm
    refine zr_R R17 rfl ?_
    have b20 : ¬ ((8 : Int32) < 0 ∨ 12 ≤ ((8 : Int32)).toNatClampNeg) := fun q => by rw [if_pos q] at hm; cases hm
    rw [if_neg b20] at hm
    refine zr_n ?_
    refine zr_l R17 (by decide) b20 ?_
    obtain ⟨⟨x21, s22⟩, o24, hm⟩ := Option.bind_eq_some_iff.mp hm
    try dsimp only [lt1] at hm
    refine zr_O R17 ?_
    refine z_isGood R17 o24 (fun h23 R23 f23 => ?_)
    have F23 := F17.tr f23
    refine ⟨fun q25 => ?_, fun q25 => ?_⟩
    · rw [if_pos q25] at hm
      exact z_finish_L68 R23 hm (fun h1 R1 f1 => hQ h1 R1 (F23.tr f1))
    · rw [if_neg q25] at hm
      exact z_finish_L69 R23 hm (fun h1 R1 f1 => hQ h1 R1 (F23.tr f1))
  · rw [if_neg q26] at hm
    exact z_finish_L68 R17 hm (fun h1 R1 f1 => hQ h1 R1 (F17.tr f1))
set_option maxRecDepth 100000 in
set_option maxHeartbeats 4000000 in
theorem z_toCard_L170 {E : Ev} {a0 : Nat} {ad : Nat → Nat} {r' : Int32} {s' : MS} {Q : Int32 → Hp → Prop} {s : MS} {h : Hp} {kc ks : Nat} {xv1 : Int32} {xv2 : Int32} (R0 : RepM E h a0 ad s) (hm : M_toCard_L170 s xv1 xv2 = some (r', s')) (hQ : ∀ h1, RepM E h1 a0 ad s' → xf (FM a0 ad) h h1 → Q r' h1) : m_X12_toCard_L170 E a0 xv1 xv2 h kc ks Q := by
  have F0 : xf (FM a0 ad) h h := xf.rf
  unfold M_toCard_L170 at hm
  unfold m_X12_toCard_L170
  refine ⟨fun q75 => ?_, fun q75 => ?_⟩
  · rw [if_pos q75] at hm
    refine zr_R R0 rfl ?_
    have b69 : ¬ (xv1 < 0 ∨ 16 ≤ (xv1).toNatClampNeg) := fun q => by rw [if_pos q] at hm; cases hm
    rw [if_neg b69] at hm
    refine zr_n ?_
    refine zr_a R0 (n := 16) (by decide) b69 ?_
    refine ⟨fun q74 => ?_, fun q74 => ?_⟩
    · rw [if_pos q74] at hm
      obtain ⟨s71, o73, hm⟩ := Option.bind_eq_some_iff.mp hm
      refine zr_O R0 ?_
      refine z_finish R0 o73 (fun h72 R72 f72 => ?_)
      have F72 := F0.tr f72
      cases hm
      exact hQ _ R72 F72
    · rw [if_neg q74] at hm
      cases hm
      exact hQ _ R0 F0
  · rw [if_neg q75] at hm
    cases hm
    exact hQ _ R0 F0
set_option maxRecDepth 100000 in
set_option maxHeartbeats 4000000 in
theorem z_toCard_L148 {E : Ev} {a0 : Nat} {ad : Nat → Nat} {r' : Int32} {s' : MS} {Q : Int32 → Hp → Prop} {s : MS} {h : Hp} {kc ks : Nat} {xv1 : Int32} {xv2 : Int32} (R0 : RepM E h a0 ad s) (hm : M_toCard_L148 s xv1 xv2 = some (r', s')) (hQ : ∀ h1, RepM E h1 a0 ad s' → xf (FM a0 ad) h h1 → Q r' h1) : m_X12_toCard_L148 E a0 xv1 xv2 h kc ks Q := by
  have F0 : xf (FM a0 ad) h h := xf.rf
  unfold M_toCard_L148 at hm
  unfold m_X12_toCard_L148
  refine ⟨fun q68 => ?_, fun q68 => ?_⟩
  · rw [if_pos q68] at hm
    refine zr_R R0 rfl ?_
    have b62 : ¬ (xv1 < 0 ∨ 16 ≤ (xv1).toNatClampNeg) := fun q => by rw [if_pos q] at hm; cases hm
    rw [if_neg b62] at hm
    refine zr_n ?_
    refine zr_a R0 (n := 16) (by decide) b62 ?_
    refine ⟨fun q67 => ?_, fun q67 => ?_⟩
    · rw [if_pos q67] at hm
      obtain ⟨s64, o66, hm⟩ := Option.bind_eq_some_iff.mp hm
      refine zr_O R0 ?_
      refine z_answer R0 o66 (fun h65 R65 f65 => ?_)
      have F65 := F0.tr f65
      cases hm
      exact hQ _ R65 F65
    · rw [if_neg q67] at hm
      exact z_toCard_L170 R0 hm (fun h1 R1 f1 => hQ h1 R1 (F0.tr f1))
  · rw [if_neg q68] at hm
    exact z_toCard_L170 R0 hm (fun h1 R1 f1 => hQ h1 R1 (F0.tr f1))
set_option maxRecDepth 100000 in
set_option maxHeartbeats 4000000 in
theorem z_toCard_L126 {E : Ev} {a0 : Nat} {ad : Nat → Nat} {r' : Int32} {s' : MS} {Q : Int32 → Hp → Prop} {s : MS} {h : Hp} {kc ks : Nat} {xv1 : Int32} {xv2 : Int32} (R0 : RepM E h a0 ad s) (hm : M_toCard_L126 s xv1 xv2 = some (r', s')) (hQ : ∀ h1, RepM E h1 a0 ad s' → xf (FM a0 ad) h h1 → Q r' h1) : m_X12_toCard_L126 E a0 xv1 xv2 h kc ks Q := by
  have F0 : xf (FM a0 ad) h h := xf.rf
  unfold M_toCard_L126 at hm
  unfold m_X12_toCard_L126
  refine ⟨fun q61 => ?_, fun q61 => ?_⟩
  · rw [if_pos q61] at hm
    refine zr_R R0 rfl ?_
    have b55 : ¬ (xv1 < 0 ∨ 16 ≤ (xv1).toNatClampNeg) := fun q => by rw [if_pos q] at hm; cases hm
    rw [if_neg b55] at hm
    refine zr_n ?_
    refine zr_a R0 (n := 16) (by decide) b55 ?_
    refine ⟨fun q60 => ?_, fun q60 => ?_⟩
    · rw [if_pos q60] at hm
      obtain ⟨s57, o59, hm⟩ := Option.bind_eq_some_iff.mp hm
      refine zr_O R0 ?_
      refine z_typePin R0 o59 (fun h58 R58 f58 => ?_)
      have F58 := F0.tr f58
      cases hm
      exact hQ _ R58 F58
    · rw [if_neg q60] at hm
      exact z_toCard_L148 R0 hm (fun h1 R1 f1 => hQ h1 R1 (F0.tr f1))
  · rw [if_neg q61] at hm
    exact z_toCard_L148 R0 hm (fun h1 R1 f1 => hQ h1 R1 (F0.tr f1))
set_option maxRecDepth 100000 in
set_option maxHeartbeats 4000000 in
theorem z_toCard {E : Ev} {a0 : Nat} {ad : Nat → Nat} {r' : Int32} {s' : MS} {Q : Int32 → Hp → Prop} {s : MS} {h : Hp} {kc ks : Nat} {xp1 : Int32} {xp2 : Int32} (R0 : RepM E h a0 ad s) (hm : M_toCard s xp1 xp2 = some (r', s')) (hQ : ∀ h1, RepM E h1 a0 ad s' → xf (FM a0 ad) h h1 → Q r' h1)   : m_X12_toCard E a0 xp1 xp2 h kc ks Q := by
  have F0 : xf (FM a0 ad) h h := xf.rf
  unfold M_toCard at hm
  unfold m_X12_toCard
  refine ⟨fun q54 => ?_, fun q54 => ?_⟩
  · rw [if_pos q54] at hm
    refine zr_R R0 rfl ?_
    have b1 : ¬ (xp1 < 0 ∨ 16 ≤ (xp1).toNatClampNeg) := fun q => by rw [if_pos q] at hm; cases hm
    rw [if_neg b1] at hm
    refine zr_n ?_
    refine zr_a R0 (n := 16) (by decide) b1 ?_
    refine ⟨fun q53 => ?_, fun q53 => ?_⟩
    · rw [if_pos q53] at hm
      exact z_toCard_L126 R0 hm (fun h1 R1 f1 => hQ h1 R1 (F0.tr f1))
    · rw [if_neg q53] at hm
      obtain ⟨⟨x2, s3⟩, o5, hm⟩ := Option.bind_eq_some_iff.mp hm
      try dsimp only [lt1] at hm
      refine zr_O R0 ?_
      refine z_writes R0 o5 (fun h4 R4 f4 => ?_)
      have F4 := F0.tr f4
      refine ⟨fun q52 => ?_, fun q52 => ?_⟩
      · rw [if_pos q52] at hm
        cases hm
        exact hQ _ R4 F4
      · rw [if_neg q52] at hm
        refine zr_R R4 rfl ?_
        have b6 : ¬ (xp1 < 0 ∨ 16 ≤ (xp1).toNatClampNeg) := fun q => by rw [if_pos q] at hm; cases hm
        rw [if_neg b6] at hm
        refine zr_n ?_
        refine zr_a R4 (n := 16) (by decide) b6 ?_
        have b7 : ¬ (xp1 < 0 ∨ 16 ≤ (xp1).toNatClampNeg) := fun q => by rw [if_pos q] at hm; cases hm
        rw [if_neg b7] at hm
        try dsimp only [lt1] at hm
        refine zr_s R4 (n := 16) (by decide) b7 (fun h9 R9 f9 => ?_)
        have F9 := F4.tr f9
        obtain ⟨s8, e_s8⟩ : ∃ z, z = mA s3 27 (xp1).toNatClampNeg ((s3.2.2.1 27 (xp1).toNatClampNeg) + 1) := ⟨_, rfl⟩
        rw [← e_s8] at R9
        try rw [← e_s8] at hm
        refine zr_R R9 rfl ?_
        have b10 : ¬ (xp1 < 0 ∨ 16 ≤ (xp1).toNatClampNeg) := fun q => by rw [if_pos q] at hm; cases hm
        rw [if_neg b10] at hm
        refine zr_n ?_
        try dsimp only [lt1] at hm
        refine zr_s R9 (n := 16) (by decide) b10 (fun h12 R12 f12 => ?_)
        have F12 := F9.tr f12
        obtain ⟨s11, e_s11⟩ : ∃ z, z = mA s8 30 (xp1).toNatClampNeg 1 := ⟨_, rfl⟩
        rw [← e_s11] at R12
        try rw [← e_s11] at hm
        refine zr_R R12 rfl ?_
        have b13 : ¬ (xp1 < 0 ∨ 16 ≤ (xp1).toNatClampNeg) := fun q => by rw [if_pos q] at hm; cases hm
        rw [if_neg b13] at hm
        refine zr_n ?_
        try dsimp only [lt1] at hm
        refine zr_s R12 (n := 16) (by decide) b13 (fun h15 R15 f15 => ?_)
        have F15 := F12.tr f15
        obtain ⟨s14, e_s14⟩ : ∃ z, z = mA s11 31 (xp1).toNatClampNeg 0 := ⟨_, rfl⟩
        rw [← e_s14] at R15
        try rw [← e_s14] at hm
        obtain ⟨s17, o19, hm⟩ := Option.bind_eq_some_iff.mp hm
        refine zr_O R15 ?_
        refine z_begin R15 o19 (fun h18 R18 f18 => ?_)
        have F18 := F15.tr f18
        obtain ⟨s21, o23, hm⟩ := Option.bind_eq_some_iff.mp hm
        refine zr_O R18 ?_
        refine z_more R18 o23 (fun h22 R22 f22 => ?_)
        have F22 := F18.tr f22
        refine zr_R R22 rfl ?_
        have b24 : ¬ (xp1 < 0 ∨ 16 ≤ (xp1).toNatClampNeg) := fun q => by rw [if_pos q] at hm; cases hm
        rw [if_neg b24] at hm
        refine zr_n ?_
        refine zr_a R22 (n := 16) (by decide) b24 ?_
        obtain ⟨s26, o28, hm⟩ := Option.bind_eq_some_iff.mp hm
        refine zr_O R22 ?_
        refine z_more R22 o28 (fun h27 R27 f27 => ?_)
        have F27 := F22.tr f27
        refine zr_R R27 rfl ?_
        have b29 : ¬ ((4 : Int32) < 0 ∨ 12 ≤ ((4 : Int32)).toNatClampNeg) := fun q => by rw [if_pos q] at hm; cases hm
        rw [if_neg b29] at hm
        refine zr_n ?_
        refine zr_l R27 (by decide) b29 ?_
        obtain ⟨s31, o33, hm⟩ := Option.bind_eq_some_iff.mp hm
        refine zr_O R27 ?_
        refine z_more R27 o33 (fun h32 R32 f32 => ?_)
        have F32 := F27.tr f32
        refine zr_R R32 rfl ?_
        have b34 : ¬ ((1 : Int32) < 0 ∨ 12 ≤ ((1 : Int32)).toNatClampNeg) := fun q => by rw [if_pos q] at hm; cases hm
        rw [if_neg b34] at hm
        refine zr_n ?_
        try dsimp only [lt1] at hm
        refine zr_sl R32 (by decide) b34 (fun h36 R36 f36 => ?_)
        have F36 := F32.tr f36
        obtain ⟨s35, e_s35⟩ : ∃ z, z = mL s31 18 ((1 : Int32)).toNatClampNeg xp1.toInt64 := ⟨_, rfl⟩
        rw [← e_s35] at R36
        try rw [← e_s35] at hm
        refine zr_R R36 rfl ?_
        refine zr_R R36 rfl ?_
        have b37 : ¬ (xp1 < 0 ∨ 16 ≤ (xp1).toNatClampNeg) := fun q => by rw [if_pos q] at hm; cases hm
        rw [if_neg b37] at hm
        refine zr_n ?_
        refine zr_a R36 (n := 16) (by decide) b37 ?_
        have b38 : ¬ ((2 : Int32) < 0 ∨ 12 ≤ ((2 : Int32)).toNatClampNeg) := fun q => by rw [if_pos q] at hm; cases hm
        rw [if_neg b38] at hm
        refine zr_n ?_
        try dsimp only [lt1] at hm
        refine zr_sl R36 (by decide) b38 (fun h40 R40 f40 => ?_)
        have F40 := F36.tr f40
        obtain ⟨s39, e_s39⟩ : ∃ z, z = mL s35 18 ((2 : Int32)).toNatClampNeg ((s35.2.2.1 27 (xp1).toNatClampNeg).toInt64) := ⟨_, rfl⟩
        rw [← e_s39] at R40
        try rw [← e_s39] at hm
        refine zr_R R40 rfl ?_
        obtain ⟨⟨x41, s42⟩, o44, hm⟩ := Option.bind_eq_some_iff.mp hm
        try dsimp only [lt1] at hm
        refine zr_O R40 ?_
        refine z_seal R40 o44 (fun h43 R43 f43 => ?_)
        have F43 := F40.tr f43
        have b45 : ¬ ((8 : Int32) < 0 ∨ 12 ≤ ((8 : Int32)).toNatClampNeg) := fun q => by rw [if_pos q] at hm; cases hm
        rw [if_neg b45] at hm
        refine zr_n ?_
        try dsimp only [lt1] at hm
        refine zr_sl R43 (by decide) b45 (fun h47 R47 f47 => ?_)
        have F47 := F43.tr f47
        obtain ⟨s46, e_s46⟩ : ∃ z, z = mL s42 18 ((8 : Int32)).toNatClampNeg x41.toInt64 := ⟨_, rfl⟩
        rw [← e_s46] at R47
        try rw [← e_s46] at hm
        obtain ⟨s49, o51, hm⟩ := Option.bind_eq_some_iff.mp hm
        refine zr_O R47 ?_
        refine z_reply R47 o51 (fun h50 R50 f50 => ?_)
        have F50 := F47.tr f50
        cases hm
        exact hQ _ R50 F50
  · rw [if_neg q54] at hm
    exact z_toCard_L126 R0 hm (fun h1 R1 f1 => hQ h1 R1 (F0.tr f1))
set_option maxRecDepth 100000 in
set_option maxHeartbeats 4000000 in
theorem z_end {E : Ev} {a0 : Nat} {ad : Nat → Nat} {s' : MS} {Q : Hp → Prop} {s : MS} {h : Hp} {kc ks : Nat} {xp1 : Int32} {xp2 : Int32} (R0 : RepM E h a0 ad s) (hm : M_end s xp1 xp2 = some s') (hQ : ∀ h1, RepM E h1 a0 ad s' → xf (FM a0 ad) h h1 → Q h1)   : m_X12_end E a0 xp1 xp2 h kc ks Q := by
  have F0 : xf (FM a0 ad) h h := xf.rf
  unfold M_end at hm
  unfold m_X12_end
  refine zr_R R0 rfl ?_
  have b1 : ¬ (xp1 < 0 ∨ 8 ≤ (xp1).toNatClampNeg) := fun q => by rw [if_pos q] at hm; cases hm
  rw [if_neg b1] at hm
  refine zr_n ?_
  try dsimp only [lt1] at hm
  refine zr_s R0 (n := 8) (by decide) b1 (fun h3 R3 f3 => ?_)
  have F3 := F0.tr f3
  obtain ⟨s2, e_s2⟩ : ∃ z, z = mA s 40 (xp1).toNatClampNeg xp2 := ⟨_, rfl⟩
  rw [← e_s2] at R3
  try rw [← e_s2] at hm
  refine zr_R R3 rfl ?_
  have b4 : ¬ (xp1 < 0 ∨ 8 ≤ (xp1).toNatClampNeg) := fun q => by rw [if_pos q] at hm; cases hm
  rw [if_neg b4] at hm
  refine zr_n ?_
  try dsimp only [lt1] at hm
  refine zr_s R3 (n := 8) (by decide) b4 (fun h6 R6 f6 => ?_)
  have F6 := F3.tr f6
  obtain ⟨s5, e_s5⟩ : ∃ z, z = mA s2 41 (xp1).toNatClampNeg 0 := ⟨_, rfl⟩
  rw [← e_s5] at R6
  try rw [← e_s5] at hm
  cases hm
  exact hQ _ R6 F6
set_option maxRecDepth 100000 in
set_option maxHeartbeats 4000000 in
theorem z_toItsCard {E : Ev} {a0 : Nat} {ad : Nat → Nat} {s' : MS} {Q : Hp → Prop} {s : MS} {h : Hp} {kc ks : Nat} {xp1 : Int32} {xp2 : Int32} {xp3 : Int32} (R0 : RepM E h a0 ad s) (hm : M_toItsCard s xp1 xp2 xp3 = some s') (hQ : ∀ h1, RepM E h1 a0 ad s' → xf (FM a0 ad) h h1 → Q h1)   : m_X12_toItsCard E a0 xp1 xp2 xp3 h kc ks Q := by
  have F0 : xf (FM a0 ad) h h := xf.rf
  unfold M_toItsCard at hm
  unfold m_X12_toItsCard
  refine zr_R R0 rfl ?_
  have b1 : ¬ (xp1 < 0 ∨ 8 ≤ (xp1).toNatClampNeg) := fun q => by rw [if_pos q] at hm; cases hm
  rw [if_neg b1] at hm
  refine zr_n ?_
  refine zr_a R0 (n := 8) (by decide) b1 ?_
  obtain ⟨⟨x2, s3⟩, o5, hm⟩ := Option.bind_eq_some_iff.mp hm
  try dsimp only [lt1] at hm
  refine zr_O R0 ?_
  refine z_send R0 o5 (fun h4 R4 f4 => ?_)
  have F4 := F0.tr f4
  refine zr_R R4 rfl ?_
  have b6 : ¬ (xp1 < 0 ∨ 8 ≤ (xp1).toNatClampNeg) := fun q => by rw [if_pos q] at hm; cases hm
  rw [if_neg b6] at hm
  refine zr_n ?_
  try dsimp only [lt1] at hm
  refine zr_s R4 (n := 8) (by decide) b6 (fun h8 R8 f8 => ?_)
  have F8 := F4.tr f8
  obtain ⟨s7, e_s7⟩ : ∃ z, z = mA s3 41 (xp1).toNatClampNeg xp3 := ⟨_, rfl⟩
  rw [← e_s7] at R8
  try rw [← e_s7] at hm
  refine zr_R R8 rfl ?_
  refine zr_J R8 rfl ?_
  have b9 : ¬ (xp1 < 0 ∨ 8 ≤ (xp1).toNatClampNeg) := fun q => by rw [if_pos q] at hm; cases hm
  rw [if_neg b9] at hm
  refine zr_n ?_
  try dsimp only [lt1] at hm
  refine zr_sl R8 (by decide) b9 (fun h11 R11 f11 => ?_)
  have F11 := F8.tr f11
  obtain ⟨s10, e_s10⟩ : ∃ z, z = mL s7 42 (xp1).toNatClampNeg s7.2.1 := ⟨_, rfl⟩
  rw [← e_s10] at R11
  try rw [← e_s10] at hm
  cases hm
  exact hQ _ R11 F11
set_option maxRecDepth 100000 in
set_option maxHeartbeats 4000000 in
theorem z_ask_L61 {E : Ev} {a0 : Nat} {ad : Nat → Nat} {s' : MS} {Q : Hp → Prop} {s : MS} {h : Hp} {kc ks : Nat} {xv1 : Int32} {w0 : Int64} {w1 : Int32} (R0 : RepM E h a0 ad s) (hm : M_ask_L61 s xv1 w0 w1 = some s') (hQ : ∀ h1, RepM E h1 a0 ad s' → xf (FM a0 ad) h h1 → Q h1) : m_X12_ask_L61 E a0 xv1 w0 w1 (some (ad 18)) h kc ks Q := by
  have F0 : xf (FM a0 ad) h h := xf.rf
  unfold M_ask_L61 at hm
  unfold m_X12_ask_L61
  have b15 : ¬ (w1 < 0 ∨ 12 ≤ (w1).toNatClampNeg) := fun q => by rw [if_pos q] at hm; cases hm
  rw [if_neg b15] at hm
  refine zr_n ?_
  try dsimp only [lt1] at hm
  refine zr_sl R0 (by decide) b15 (fun h17 R17 f17 => ?_)
  have F17 := F0.tr f17
  obtain ⟨s16, e_s16⟩ : ∃ z, z = mL s 18 (w1).toNatClampNeg w0 := ⟨_, rfl⟩
  rw [← e_s16] at R17
  try rw [← e_s16] at hm
  obtain ⟨s19, o21, hm⟩ := Option.bind_eq_some_iff.mp hm
  refine zr_O R17 ?_
  refine z_toItsCard R17 o21 (fun h20 R20 f20 => ?_)
  have F20 := F17.tr f20
  cases hm
  exact hQ _ R20 F20
set_option maxRecDepth 100000 in
set_option maxHeartbeats 4000000 in
theorem z_ask {E : Ev} {a0 : Nat} {ad : Nat → Nat} {s' : MS} {Q : Hp → Prop} {s : MS} {h : Hp} {kc ks : Nat} {xp1 : Int32} (R0 : RepM E h a0 ad s) (hm : M_ask s xp1 = some s') (hQ : ∀ h1, RepM E h1 a0 ad s' → xf (FM a0 ad) h h1 → Q h1)   : m_X12_ask E a0 xp1 h kc ks Q := by
  have F0 : xf (FM a0 ad) h h := xf.rf
  unfold M_ask at hm
  unfold m_X12_ask
  refine zr_R R0 rfl ?_
  refine zr_R R0 rfl ?_
  have b1 : ¬ (xp1 < 0 ∨ 8 ≤ (xp1).toNatClampNeg) := fun q => by rw [if_pos q] at hm; cases hm
  rw [if_neg b1] at hm
  refine zr_n ?_
  refine zr_l R0 (by decide) b1 ?_
  have b2 : ¬ ((3 : Int32) < 0 ∨ 12 ≤ ((3 : Int32)).toNatClampNeg) := fun q => by rw [if_pos q] at hm; cases hm
  rw [if_neg b2] at hm
  refine zr_n ?_
  try dsimp only [lt1] at hm
  refine zr_sl R0 (by decide) b2 (fun h4 R4 f4 => ?_)
  have F4 := F0.tr f4
  obtain ⟨s3, e_s3⟩ : ∃ z, z = mL s 18 ((3 : Int32)).toNatClampNeg (s.2.2.2 44 (xp1).toNatClampNeg) := ⟨_, rfl⟩
  rw [← e_s3] at R4
  try rw [← e_s3] at hm
  refine zr_R R4 rfl ?_
  refine zr_R R4 rfl ?_
  have b5 : ¬ (xp1 < 0 ∨ 8 ≤ (xp1).toNatClampNeg) := fun q => by rw [if_pos q] at hm; cases hm
  rw [if_neg b5] at hm
  refine zr_n ?_
  refine zr_l R4 (by decide) b5 ?_
  have b6 : ¬ ((4 : Int32) < 0 ∨ 12 ≤ ((4 : Int32)).toNatClampNeg) := fun q => by rw [if_pos q] at hm; cases hm
  rw [if_neg b6] at hm
  refine zr_n ?_
  try dsimp only [lt1] at hm
  refine zr_sl R4 (by decide) b6 (fun h8 R8 f8 => ?_)
  have F8 := F4.tr f8
  obtain ⟨s7, e_s7⟩ : ∃ z, z = mL s3 18 ((4 : Int32)).toNatClampNeg (s3.2.2.2 45 (xp1).toNatClampNeg) := ⟨_, rfl⟩
  rw [← e_s7] at R8
  try rw [← e_s7] at hm
  refine zr_R R8 rfl ?_
  have b9 : ¬ ((5 : Int32) < 0 ∨ 12 ≤ ((5 : Int32)).toNatClampNeg) := fun q => by rw [if_pos q] at hm; cases hm
  rw [if_neg b9] at hm
  refine zr_n ?_
  try dsimp only [lt1] at hm
  refine zr_sl R8 (by decide) b9 (fun h11 R11 f11 => ?_)
  have F11 := F8.tr f11
  obtain ⟨s10, e_s10⟩ : ∃ z, z = mL s7 18 ((5 : Int32)).toNatClampNeg xp1.toInt64 := ⟨_, rfl⟩
  rw [← e_s10] at R11
  try rw [← e_s10] at hm
  refine zr_R R11 rfl ?_
  refine zr_R R11 rfl ?_
  have b12 : ¬ (xp1 < 0 ∨ 8 ≤ (xp1).toNatClampNeg) := fun q => by rw [if_pos q] at hm; cases hm
  rw [if_neg b12] at hm
  refine zr_n ?_
  refine zr_l R11 (by decide) b12 ?_
  refine zr_R R11 rfl ?_
  have b13 : ¬ (xp1 < 0 ∨ 8 ≤ (xp1).toNatClampNeg) := fun q => by rw [if_pos q] at hm; cases hm
  rw [if_neg b13] at hm
  refine zr_n ?_
  refine zr_l R11 (by decide) b13 ?_
  refine ⟨fun q14 => ?_, fun q14 => ?_⟩
  · rw [if_pos q14] at hm
    exact z_ask_L61 R11 hm (fun h1 R1 f1 => hQ h1 R1 (F11.tr f1))
  · rw [if_neg q14] at hm
    exact z_ask_L61 R11 hm (fun h1 R1 f1 => hQ h1 R1 (F11.tr f1))
set_option maxRecDepth 100000 in
set_option maxHeartbeats 4000000 in
theorem z_takeCard_L73 {E : Ev} {a0 : Nat} {ad : Nat → Nat} {s' : MS} {Q : Hp → Prop} {s : MS} {h : Hp} {kc ks : Nat} {xv1 : Int32} (R0 : RepM E h a0 ad s) (hm : M_takeCard_L73 s xv1 = some s') (hQ : ∀ h1, RepM E h1 a0 ad s' → xf (FM a0 ad) h h1 → Q h1) : m_X12_takeCard_L73 E a0 xv1 h kc ks Q := by
  have F0 : xf (FM a0 ad) h h := xf.rf
  unfold M_takeCard_L73 at hm
  unfold m_X12_takeCard_L73
  obtain ⟨s56, o58, hm⟩ := Option.bind_eq_some_iff.mp hm
  refine zr_O R0 ?_
  refine z_end R0 o58 (fun h57 R57 f57 => ?_)
  have F57 := F0.tr f57
  cases hm
  exact hQ _ R57 F57
set_option maxRecDepth 100000 in
set_option maxHeartbeats 4000000 in
theorem z_takeCard {E : Ev} {a0 : Nat} {ad : Nat → Nat} {s' : MS} {Q : Hp → Prop} {s : MS} {h : Hp} {kc ks : Nat} {xp1 : Int32} (R0 : RepM E h a0 ad s) (hm : M_takeCard s xp1 = some s') (hQ : ∀ h1, RepM E h1 a0 ad s' → xf (FM a0 ad) h h1 → Q h1)   : m_X12_takeCard E a0 xp1 h kc ks Q := by
  have F0 : xf (FM a0 ad) h h := xf.rf
  unfold M_takeCard at hm
  unfold m_X12_takeCard
  obtain ⟨s2, o4, hm⟩ := Option.bind_eq_some_iff.mp hm
  refine zr_O R0 ?_
  refine z_begin R0 o4 (fun h3 R3 f3 => ?_)
  have F3 := F0.tr f3
  refine zr_R R3 rfl ?_
  have b5 : ¬ ((1 : Int32) < 0 ∨ 12 ≤ ((1 : Int32)).toNatClampNeg) := fun q => by rw [if_pos q] at hm; cases hm
  rw [if_neg b5] at hm
  refine zr_n ?_
  refine zr_l R3 (by decide) b5 ?_
  obtain ⟨s7, o9, hm⟩ := Option.bind_eq_some_iff.mp hm
  refine zr_O R3 ?_
  refine z_more R3 o9 (fun h8 R8 f8 => ?_)
  have F8 := F3.tr f8
  refine zr_R R8 rfl ?_
  have b10 : ¬ ((2 : Int32) < 0 ∨ 12 ≤ ((2 : Int32)).toNatClampNeg) := fun q => by rw [if_pos q] at hm; cases hm
  rw [if_neg b10] at hm
  refine zr_n ?_
  refine zr_l R8 (by decide) b10 ?_
  obtain ⟨s12, o14, hm⟩ := Option.bind_eq_some_iff.mp hm
  refine zr_O R8 ?_
  refine z_more R8 o14 (fun h13 R13 f13 => ?_)
  have F13 := F8.tr f13
  refine zr_R R13 rfl ?_
  have b15 : ¬ (xp1 < 0 ∨ 8 ≤ (xp1).toNatClampNeg) := fun q => by rw [if_pos q] at hm; cases hm
  rw [if_neg b15] at hm
  refine zr_n ?_
  refine zr_l R13 (by decide) b15 ?_
  obtain ⟨s17, o19, hm⟩ := Option.bind_eq_some_iff.mp hm
  refine zr_O R13 ?_
  refine z_more R13 o19 (fun h18 R18 f18 => ?_)
  have F18 := F13.tr f18
  refine zr_R R18 rfl ?_
  have b20 : ¬ ((1 : Int32) < 0 ∨ 12 ≤ ((1 : Int32)).toNatClampNeg) := fun q => by rw [if_pos q] at hm; cases hm
  rw [if_neg b20] at hm
  refine zr_n ?_
  refine zr_l R18 (by decide) b20 ?_
  refine zr_I R18 rfl ?_
  refine ⟨fun q54 => ?_, fun q54 => ?_⟩
  · rw [if_pos q54] at hm
    exact z_takeCard_L73 R18 hm (fun h1 R1 f1 => hQ h1 R1 (F18.tr f1))
  · rw [if_neg q54] at hm
    refine zr_R R18 rfl ?_
    have b21 : ¬ ((1 : Int32) < 0 ∨ 12 ≤ ((1 : Int32)).toNatClampNeg) := fun q => by rw [if_pos q] at hm; cases hm
    rw [if_neg b21] at hm
    refine zr_n ?_
    refine zr_l R18 (by decide) b21 ?_
    refine zr_R R18 rfl ?_
    have b22 : ¬ ((8 : Int32) < 0 ∨ 12 ≤ ((8 : Int32)).toNatClampNeg) := fun q => by rw [if_pos q] at hm; cases hm
    rw [if_neg b22] at hm
    refine zr_n ?_
    refine zr_l R18 (by decide) b22 ?_
    obtain ⟨⟨x23, s24⟩, o26, hm⟩ := Option.bind_eq_some_iff.mp hm
    try dsimp only [lt1] at hm
    refine zr_O R18 ?_
    refine z_isGood R18 o26 (fun h25 R25 f25 => ?_)
    have F25 := F18.tr f25
    refine ⟨fun q53 => ?_, fun q53 => ?_⟩
    · rw [if_pos q53] at hm
      exact z_takeCard_L73 R25 hm (fun h1 R1 f1 => hQ h1 R1 (F25.tr f1))
    · rw [if_neg q53] at hm
      refine zr_R R25 rfl ?_
      refine zr_R R25 rfl ?_
      have b27 : ¬ ((1 : Int32) < 0 ∨ 12 ≤ ((1 : Int32)).toNatClampNeg) := fun q => by rw [if_pos q] at hm; cases hm
      rw [if_neg b27] at hm
      refine zr_n ?_
      refine zr_l R25 (by decide) b27 ?_
      have b28 : ¬ (xp1 < 0 ∨ 8 ≤ (xp1).toNatClampNeg) := fun q => by rw [if_pos q] at hm; cases hm
      rw [if_neg b28] at hm
      refine zr_n ?_
      try dsimp only [lt1] at hm
      refine zr_s R25 (n := 8) (by decide) b28 (fun h30 R30 f30 => ?_)
      have F30 := F25.tr f30
      obtain ⟨s29, e_s29⟩ : ∃ z, z = mA s24 47 (xp1).toNatClampNeg ((s24.2.2.2 17 ((1 : Int32)).toNatClampNeg).toInt32) := ⟨_, rfl⟩
      rw [← e_s29] at R30
      try rw [← e_s29] at hm
      refine zr_R R30 rfl ?_
      refine zr_R R30 rfl ?_
      have b31 : ¬ ((2 : Int32) < 0 ∨ 12 ≤ ((2 : Int32)).toNatClampNeg) := fun q => by rw [if_pos q] at hm; cases hm
      rw [if_neg b31] at hm
      refine zr_n ?_
      refine zr_l R30 (by decide) b31 ?_
      have b32 : ¬ (xp1 < 0 ∨ 8 ≤ (xp1).toNatClampNeg) := fun q => by rw [if_pos q] at hm; cases hm
      rw [if_neg b32] at hm
      refine zr_n ?_
      try dsimp only [lt1] at hm
      refine zr_s R30 (n := 8) (by decide) b32 (fun h34 R34 f34 => ?_)
      have F34 := F30.tr f34
      obtain ⟨s33, e_s33⟩ : ∃ z, z = mA s29 48 (xp1).toNatClampNeg ((s29.2.2.2 17 ((2 : Int32)).toNatClampNeg).toInt32) := ⟨_, rfl⟩
      rw [← e_s33] at R34
      try rw [← e_s33] at hm
      refine zr_R R34 rfl ?_
      have b35 : ¬ (xp1 < 0 ∨ 8 ≤ (xp1).toNatClampNeg) := fun q => by rw [if_pos q] at hm; cases hm
      rw [if_neg b35] at hm
      refine zr_n ?_
      refine zr_l R34 (by decide) b35 ?_
      refine zr_R R34 rfl ?_
      have b36 : ¬ (xp1 < 0 ∨ 8 ≤ (xp1).toNatClampNeg) := fun q => by rw [if_pos q] at hm; cases hm
      rw [if_neg b36] at hm
      refine zr_n ?_
      refine zr_l R34 (by decide) b36 ?_
      refine ⟨fun q52 => ?_, fun q52 => ?_⟩
      · rw [if_pos q52] at hm
        refine zr_R R34 rfl ?_
        have b37 : ¬ (xp1 < 0 ∨ 8 ≤ (xp1).toNatClampNeg) := fun q => by rw [if_pos q] at hm; cases hm
        rw [if_neg b37] at hm
        refine zr_n ?_
        try dsimp only [lt1] at hm
        refine zr_s R34 (n := 8) (by decide) b37 (fun h39 R39 f39 => ?_)
        have F39 := F34.tr f39
        obtain ⟨s38, e_s38⟩ : ∃ z, z = mA s33 49 (xp1).toNatClampNeg 0 := ⟨_, rfl⟩
        rw [← e_s38] at R39
        try rw [← e_s38] at hm
        obtain ⟨s41, o43, hm⟩ := Option.bind_eq_some_iff.mp hm
        refine zr_O R39 ?_
        refine z_ask R39 o43 (fun h42 R42 f42 => ?_)
        have F42 := F39.tr f42
        cases hm
        exact hQ _ R42 F42
      · rw [if_neg q52] at hm
        refine zr_R R34 rfl ?_
        refine zr_R R34 rfl ?_
        have b44 : ¬ (xp1 < 0 ∨ 8 ≤ (xp1).toNatClampNeg) := fun q => by rw [if_pos q] at hm; cases hm
        rw [if_neg b44] at hm
        refine zr_n ?_
        refine zr_a R34 (n := 8) (by decide) b44 ?_
        have b45 : ¬ ((9 : Int32) < 0 ∨ 12 ≤ ((9 : Int32)).toNatClampNeg) := fun q => by rw [if_pos q] at hm; cases hm
        rw [if_neg b45] at hm
        refine zr_n ?_
        try dsimp only [lt1] at hm
        refine zr_sl R34 (by decide) b45 (fun h47 R47 f47 => ?_)
        have F47 := F34.tr f47
        obtain ⟨s46, e_s46⟩ : ∃ z, z = mL s33 18 ((9 : Int32)).toNatClampNeg ((s33.2.2.1 46 (xp1).toNatClampNeg).toInt64) := ⟨_, rfl⟩
        rw [← e_s46] at R47
        try rw [← e_s46] at hm
        obtain ⟨s49, o51, hm⟩ := Option.bind_eq_some_iff.mp hm
        refine zr_O R47 ?_
        refine z_toItsCard R47 o51 (fun h50 R50 f50 => ?_)
        have F50 := F47.tr f50
        cases hm
        exact hQ _ R50 F50
set_option maxRecDepth 100000 in
set_option maxHeartbeats 4000000 in
theorem z_fill {E : Ev} {a0 : Nat} {ad : Nat → Nat} {s' : MS} {Q : Hp → Prop} {s : MS} {h : Hp} {kc ks : Nat} {xp1 : Int32} {yp2 : Int64} {yp4 : Int64} (R0 : RepM E h a0 ad s) (hm : M_fill s xp1 yp2 yp4 = some s') (hQ : ∀ h1, RepM E h1 a0 ad s' → xf (FM a0 ad) h h1 → Q h1)   : m_X12_fill E a0 xp1 yp2 yp4 h kc ks Q := by
  have F0 : xf (FM a0 ad) h h := xf.rf
  unfold M_fill at hm
  unfold m_X12_fill
  refine zr_R R0 rfl ?_
  refine zr_R R0 rfl ?_
  have b1 : ¬ (xp1 < 0 ∨ 8 ≤ (xp1).toNatClampNeg) := fun q => by rw [if_pos q] at hm; cases hm
  rw [if_neg b1] at hm
  refine zr_n ?_
  refine zr_a R0 (n := 8) (by decide) b1 ?_
  have b2 : ¬ ((1 : Int32) < 0 ∨ 12 ≤ ((1 : Int32)).toNatClampNeg) := fun q => by rw [if_pos q] at hm; cases hm
  rw [if_neg b2] at hm
  refine zr_n ?_
  try dsimp only [lt1] at hm
  refine zr_sl R0 (by decide) b2 (fun h4 R4 f4 => ?_)
  have F4 := F0.tr f4
  obtain ⟨s3, e_s3⟩ : ∃ z, z = mL s 18 ((1 : Int32)).toNatClampNeg ((s.2.2.1 47 (xp1).toNatClampNeg).toInt64) := ⟨_, rfl⟩
  rw [← e_s3] at R4
  try rw [← e_s3] at hm
  refine zr_R R4 rfl ?_
  have b5 : ¬ ((2 : Int32) < 0 ∨ 12 ≤ ((2 : Int32)).toNatClampNeg) := fun q => by rw [if_pos q] at hm; cases hm
  rw [if_neg b5] at hm
  refine zr_n ?_
  try dsimp only [lt1] at hm
  refine zr_sl R4 (by decide) b5 (fun h7 R7 f7 => ?_)
  have F7 := F4.tr f7
  obtain ⟨s6, e_s6⟩ : ∃ z, z = mL s3 18 ((2 : Int32)).toNatClampNeg yp2 := ⟨_, rfl⟩
  rw [← e_s6] at R7
  try rw [← e_s6] at hm
  refine zr_R R7 rfl ?_
  refine zr_R R7 rfl ?_
  have b8 : ¬ (xp1 < 0 ∨ 8 ≤ (xp1).toNatClampNeg) := fun q => by rw [if_pos q] at hm; cases hm
  rw [if_neg b8] at hm
  refine zr_n ?_
  refine zr_l R7 (by decide) b8 ?_
  have b9 : ¬ ((3 : Int32) < 0 ∨ 12 ≤ ((3 : Int32)).toNatClampNeg) := fun q => by rw [if_pos q] at hm; cases hm
  rw [if_neg b9] at hm
  refine zr_n ?_
  try dsimp only [lt1] at hm
  refine zr_sl R7 (by decide) b9 (fun h11 R11 f11 => ?_)
  have F11 := F7.tr f11
  obtain ⟨s10, e_s10⟩ : ∃ z, z = mL s6 18 ((3 : Int32)).toNatClampNeg (s6.2.2.2 44 (xp1).toNatClampNeg) := ⟨_, rfl⟩
  rw [← e_s10] at R11
  try rw [← e_s10] at hm
  refine zr_R R11 rfl ?_
  refine zr_R R11 rfl ?_
  have b12 : ¬ (xp1 < 0 ∨ 8 ≤ (xp1).toNatClampNeg) := fun q => by rw [if_pos q] at hm; cases hm
  rw [if_neg b12] at hm
  refine zr_n ?_
  refine zr_l R11 (by decide) b12 ?_
  have b13 : ¬ ((4 : Int32) < 0 ∨ 12 ≤ ((4 : Int32)).toNatClampNeg) := fun q => by rw [if_pos q] at hm; cases hm
  rw [if_neg b13] at hm
  refine zr_n ?_
  try dsimp only [lt1] at hm
  refine zr_sl R11 (by decide) b13 (fun h15 R15 f15 => ?_)
  have F15 := F11.tr f15
  obtain ⟨s14, e_s14⟩ : ∃ z, z = mL s10 18 ((4 : Int32)).toNatClampNeg (s10.2.2.2 45 (xp1).toNatClampNeg) := ⟨_, rfl⟩
  rw [← e_s14] at R15
  try rw [← e_s14] at hm
  refine zr_R R15 rfl ?_
  have b16 : ¬ ((5 : Int32) < 0 ∨ 12 ≤ ((5 : Int32)).toNatClampNeg) := fun q => by rw [if_pos q] at hm; cases hm
  rw [if_neg b16] at hm
  refine zr_n ?_
  try dsimp only [lt1] at hm
  refine zr_sl R15 (by decide) b16 (fun h18 R18 f18 => ?_)
  have F18 := F15.tr f18
  obtain ⟨s17, e_s17⟩ : ∃ z, z = mL s14 18 ((5 : Int32)).toNatClampNeg xp1.toInt64 := ⟨_, rfl⟩
  rw [← e_s17] at R18
  try rw [← e_s17] at hm
  refine zr_R R18 rfl ?_
  refine zr_R R18 rfl ?_
  have b19 : ¬ (xp1 < 0 ∨ 8 ≤ (xp1).toNatClampNeg) := fun q => by rw [if_pos q] at hm; cases hm
  rw [if_neg b19] at hm
  refine zr_n ?_
  refine zr_a R18 (n := 8) (by decide) b19 ?_
  have b20 : ¬ ((6 : Int32) < 0 ∨ 12 ≤ ((6 : Int32)).toNatClampNeg) := fun q => by rw [if_pos q] at hm; cases hm
  rw [if_neg b20] at hm
  refine zr_n ?_
  try dsimp only [lt1] at hm
  refine zr_sl R18 (by decide) b20 (fun h22 R22 f22 => ?_)
  have F22 := F18.tr f22
  obtain ⟨s21, e_s21⟩ : ∃ z, z = mL s17 18 ((6 : Int32)).toNatClampNeg ((s17.2.2.1 49 (xp1).toNatClampNeg).toInt64) := ⟨_, rfl⟩
  rw [← e_s21] at R22
  try rw [← e_s21] at hm
  refine zr_R R22 rfl ?_
  have b23 : ¬ ((8 : Int32) < 0 ∨ 12 ≤ ((8 : Int32)).toNatClampNeg) := fun q => by rw [if_pos q] at hm; cases hm
  rw [if_neg b23] at hm
  refine zr_n ?_
  try dsimp only [lt1] at hm
  refine zr_sl R22 (by decide) b23 (fun h25 R25 f25 => ?_)
  have F25 := F22.tr f25
  obtain ⟨s24, e_s24⟩ : ∃ z, z = mL s21 18 ((8 : Int32)).toNatClampNeg yp4 := ⟨_, rfl⟩
  rw [← e_s24] at R25
  try rw [← e_s24] at hm
  cases hm
  exact hQ _ R25 F25
set_option maxRecDepth 100000 in
set_option maxHeartbeats 4000000 in
theorem z_sign_L30 {E : Ev} {a0 : Nat} {ad : Nat → Nat} {s' : MS} {K8 : MS → Int32 → Int32 → Option MS} {J8 : Nat → Int32 → Int32 → Hp → Nat → Nat → Prop} {Q : Hp → Prop} {s : MS} {h : Hp} {kc ks : Nat} {xv1 : Int32} {xv3 : Int32} (R0 : RepM E h a0 ad s) (hm : M_sign_L30 s xv1 xv3 K8 = some s') (hK8 : ∀ (s1 : MS) (xv1 : Int32) (xv3 : Int32) (h1 : Hp) (kc1 ks1 : Nat), K8 s1 xv1 xv3 = some s' → RepM E h1 a0 ad s1 → xf (FM a0 ad) h h1 → J8 a0 xv1 xv3 h1 kc1 ks1) (hQ : ∀ h1, RepM E h1 a0 ad s' → xf (FM a0 ad) h h1 → Q h1) : m_X12_sign_L30 E a0 xv1 xv3 h kc ks J8 Q := by
  have F0 : xf (FM a0 ad) h h := xf.rf
  unfold M_sign_L30 at hm
  unfold m_X12_sign_L30
  exact hK8 _ _ _ _ _ _ hm R0 F0
set_option maxRecDepth 100000 in
set_option maxHeartbeats 4000000 in
theorem z_sign_L8 {E : Ev} {a0 : Nat} {ad : Nat → Nat} {s' : MS} {Q : Hp → Prop} : ∀ (n : Nat) {s : MS} {h : Hp} {kc ks : Nat} {xv1 : Int32} {xv3 : Int32} (R0 : RepM E h a0 ad s) (hm : M_sign_L8 n s xv1 xv3 = some s') (hQ : ∀ h1, RepM E h1 a0 ad s' → xf (FM a0 ad) h h1 → Q h1), m_X12_sign_L8 n E a0 xv1 xv3 h kc ks Q := by
  intro n
  induction n with
  | zero => intro s h kc ks xv1 xv3 R0 hm; cases hm
  | succ n ih =>
    intro s h kc ks xv1 xv3 R0 hm  hQ
    have F0 : xf (FM a0 ad) h h := xf.rf
    unfold M_sign_L8 at hm
    unfold m_X12_sign_L8
    refine ⟨fun q18 => ?_, fun q18 => ?_⟩
    · rw [if_pos q18] at hm
      refine zr_R R0 rfl ?_
      obtain ⟨⟨x5, s6⟩, o8, hm⟩ := Option.bind_eq_some_iff.mp hm
      try dsimp only [lt1] at hm
      refine zr_O R0 ?_
      refine z_seal R0 o8 (fun h7 R7 f7 => ?_)
      have F7 := F0.tr f7
      have b9 : ¬ ((11 : Int32) < 0 ∨ 12 ≤ ((11 : Int32)).toNatClampNeg) := fun q => by rw [if_pos q] at hm; cases hm
      rw [if_neg b9] at hm
      refine zr_n ?_
      try dsimp only [lt1] at hm
      refine zr_sl R7 (by decide) b9 (fun h11 R11 f11 => ?_)
      have F11 := F7.tr f11
      obtain ⟨s10, e_s10⟩ : ∃ z, z = mL s6 18 ((11 : Int32)).toNatClampNeg x5.toInt64 := ⟨_, rfl⟩
      rw [← e_s10] at R11
      try rw [← e_s10] at hm
      cases hm
      exact hQ _ R11 F11
    · rw [if_neg q18] at hm
      refine ⟨fun q17 => ?_, fun q17 => ?_⟩
      · rw [if_pos q17] at hm
        exact z_sign_L30 R0 hm (fun u1 v0 v1 g1 kc1 ks1 j1 P1 f1 => ih P1 j1 (fun h2 R2 f2 => hQ h2 R2 ((F0.tr f1).tr f2))) (fun h1 R1 f1 => hQ h1 R1 (F0.tr f1))
      · rw [if_neg q17] at hm
        refine zr_R R0 rfl ?_
        have b12 : ¬ (xv3 < 0 ∨ 12 ≤ (xv3).toNatClampNeg) := fun q => by rw [if_pos q] at hm; cases hm
        rw [if_neg b12] at hm
        refine zr_n ?_
        refine zr_l R0 (by decide) b12 ?_
        obtain ⟨s14, o16, hm⟩ := Option.bind_eq_some_iff.mp hm
        refine zr_O R0 ?_
        refine z_more R0 o16 (fun h15 R15 f15 => ?_)
        have F15 := F0.tr f15
        exact z_sign_L30 R15 hm (fun u1 v0 v1 g1 kc1 ks1 j1 P1 f1 => ih P1 j1 (fun h2 R2 f2 => hQ h2 R2 ((F15.tr f1).tr f2))) (fun h1 R1 f1 => hQ h1 R1 (F15.tr f1))
set_option maxRecDepth 100000 in
set_option maxHeartbeats 4000000 in
theorem z_sign {E : Ev} {a0 : Nat} {ad : Nat → Nat} {s' : MS} {Q : Hp → Prop} {s : MS} {h : Hp} {kc ks : Nat} {xp1 : Int32} {xp2 : Int32} (R0 : RepM E h a0 ad s) (hm : M_sign s xp1 xp2 = some s') (hQ : ∀ h1, RepM E h1 a0 ad s' → xf (FM a0 ad) h h1 → Q h1)   : m_X12_sign E a0 xp1 xp2 h kc ks Q := by
  have F0 : xf (FM a0 ad) h h := xf.rf
  unfold M_sign at hm
  unfold m_X12_sign
  obtain ⟨s2, o4, hm⟩ := Option.bind_eq_some_iff.mp hm
  refine zr_O R0 ?_
  refine z_begin R0 o4 (fun h3 R3 f3 => ?_)
  have F3 := F0.tr f3
  refine ⟨mfu, ?_⟩
  exact z_sign_L8 mfu R3 hm (fun h1 R1 f1 => hQ h1 R1 (F3.tr f1))
set_option maxRecDepth 100000 in
set_option maxHeartbeats 4000000 in
theorem z_takeAnswer_L26 {E : Ev} {a0 : Nat} {ad : Nat → Nat} {s' : MS} {Q : Hp → Prop} {s : MS} {h : Hp} {kc ks : Nat} {xv1 : Int32} (R0 : RepM E h a0 ad s) (hm : M_takeAnswer_L26 s xv1 = some s') (hQ : ∀ h1, RepM E h1 a0 ad s' → xf (FM a0 ad) h h1 → Q h1) : m_X12_takeAnswer_L26 E a0 xv1 h kc ks Q := by
  have F0 : xf (FM a0 ad) h h := xf.rf
  unfold M_takeAnswer_L26 at hm
  unfold m_X12_takeAnswer_L26
  obtain ⟨s83, o85, hm⟩ := Option.bind_eq_some_iff.mp hm
  refine zr_O R0 ?_
  refine z_end R0 o85 (fun h84 R84 f84 => ?_)
  have F84 := F0.tr f84
  cases hm
  exact hQ _ R84 F84
set_option maxRecDepth 100000 in
set_option maxHeartbeats 4000000 in
theorem z_takeAnswer_L231 {E : Ev} {a0 : Nat} {ad : Nat → Nat} {s' : MS} {Q : Hp → Prop} {s : MS} {h : Hp} {kc ks : Nat} {xv1 : Int32} (R0 : RepM E h a0 ad s) (hm : M_takeAnswer_L231 s xv1 = some s') (hQ : ∀ h1, RepM E h1 a0 ad s' → xf (FM a0 ad) h h1 → Q h1) : m_X12_takeAnswer_L231 E a0 xv1 h kc ks Q := by
  have F0 : xf (FM a0 ad) h h := xf.rf
  unfold M_takeAnswer_L231 at hm
  unfold m_X12_takeAnswer_L231
  obtain ⟨s87, o89, hm⟩ := Option.bind_eq_some_iff.mp hm
  refine zr_O R0 ?_
  refine z_end R0 o89 (fun h88 R88 f88 => ?_)
  have F88 := F0.tr f88
  cases hm
  exact hQ _ R88 F88
set_option maxRecDepth 100000 in
set_option maxHeartbeats 4000000 in
theorem z_takeAnswer_L297 {E : Ev} {a0 : Nat} {ad : Nat → Nat} {s' : MS} {K266 : MS → Int32 → Int32 → Int32 → Option MS} {J266 : Nat → Int32 → Int32 → Int32 → Hp → Nat → Nat → Prop} {Q : Hp → Prop} {s : MS} {h : Hp} {kc ks : Nat} {xv1 : Int32} {xv2 : Int32} {xv3 : Int32} {w0 : Int32} {w2 : Int32} (R0 : RepM E h a0 ad s) (hm : M_takeAnswer_L297 s xv1 xv2 xv3 w0 w2 K266 = some s') (hK266 : ∀ (s1 : MS) (xv1 : Int32) (xv2 : Int32) (xv3 : Int32) (h1 : Hp) (kc1 ks1 : Nat), K266 s1 xv1 xv2 xv3 = some s' → RepM E h1 a0 ad s1 → xf (FM a0 ad) h h1 → J266 a0 xv1 xv2 xv3 h1 kc1 ks1) (hQ : ∀ h1, RepM E h1 a0 ad s' → xf (FM a0 ad) h h1 → Q h1) : m_X12_takeAnswer_L297 E a0 xv1 xv2 xv3 w0 (some (ad 18)) w2 (some (ad 56)) h kc ks J266 Q := by
  have F0 : xf (FM a0 ad) h h := xf.rf
  unfold M_takeAnswer_L297 at hm
  unfold m_X12_takeAnswer_L297
  have b104 : ¬ (w0 < 0 ∨ 12 ≤ (w0).toNatClampNeg) := fun q => by rw [if_pos q] at hm; cases hm
  rw [if_neg b104] at hm
  refine zr_n ?_
  refine zr_l R0 (by decide) b104 ?_
  have b105 : ¬ (w2 < 0 ∨ 4200 ≤ (w2).toNatClampNeg) := fun q => by rw [if_pos q] at hm; cases hm
  rw [if_neg b105] at hm
  refine zr_n ?_
  try dsimp only [lt1] at hm
  refine zr_sl R0 (by decide) b105 (fun h107 R107 f107 => ?_)
  have F107 := F0.tr f107
  obtain ⟨s106, e_s106⟩ : ∃ z, z = mL s 56 (w2).toNatClampNeg (s.2.2.2 18 (w0).toNatClampNeg) := ⟨_, rfl⟩
  rw [← e_s106] at R107
  try rw [← e_s106] at hm
  exact hK266 _ _ _ _ _ _ _ hm R107 F107
set_option maxRecDepth 100000 in
set_option maxHeartbeats 4000000 in
theorem z_takeAnswer_L266 {E : Ev} {a0 : Nat} {ad : Nat → Nat} {s' : MS} {Q : Hp → Prop} : ∀ (n : Nat) {s : MS} {h : Hp} {kc ks : Nat} {xv1 : Int32} {xv2 : Int32} {xv3 : Int32} (R0 : RepM E h a0 ad s) (hm : M_takeAnswer_L266 n s xv1 xv2 xv3 = some s') (hQ : ∀ h1, RepM E h1 a0 ad s' → xf (FM a0 ad) h h1 → Q h1), m_X12_takeAnswer_L266 n E a0 xv1 xv2 xv3 h kc ks Q := by
  intro n
  induction n with
  | zero => intro s h kc ks xv1 xv2 xv3 R0 hm; cases hm
  | succ n ih =>
    intro s h kc ks xv1 xv2 xv3 R0 hm  hQ
    have F0 : xf (FM a0 ad) h h := xf.rf
    unfold M_takeAnswer_L266 at hm
    unfold m_X12_takeAnswer_L266
    refine ⟨fun q103 => ?_, fun q103 => ?_⟩
    · rw [if_pos q103] at hm
      refine zr_R R0 rfl ?_
      refine zr_I R0 rfl ?_
      have b90 : ¬ (s.1 53 < 0 ∨ 600 ≤ (s.1 53).toNatClampNeg) := fun q => by rw [if_pos q] at hm; cases hm
      rw [if_neg b90] at hm
      refine zr_n ?_
      try dsimp only [lt1] at hm
      refine zr_s R0 (n := 600) (by decide) b90 (fun h92 R92 f92 => ?_)
      have F92 := F0.tr f92
      obtain ⟨s91, e_s91⟩ : ∃ z, z = mA s 54 (s.1 53).toNatClampNeg xv1 := ⟨_, rfl⟩
      rw [← e_s91] at R92
      try rw [← e_s91] at hm
      refine zr_R R92 rfl ?_
      refine zr_I R92 rfl ?_
      have b93 : ¬ (s91.1 53 < 0 ∨ 600 ≤ (s91.1 53).toNatClampNeg) := fun q => by rw [if_pos q] at hm; cases hm
      rw [if_neg b93] at hm
      refine zr_n ?_
      try dsimp only [lt1] at hm
      refine zr_z R92 (n := 600) (by decide) b93 (fun h95 R95 f95 => ?_)
      have F95 := F92.tr f95
      obtain ⟨s94, e_s94⟩ : ∃ z, z = mA s91 55 (s91.1 53).toNatClampNeg (vp_nar .boolean 0) := ⟨_, rfl⟩
      rw [← e_s94] at R95
      try rw [← e_s94] at hm
      refine zr_I R95 rfl ?_
      try dsimp only [lt1] at hm
      refine zr_pI R95 (by decide) rfl (fun h97 R97 f97 => ?_)
      have F97 := F95.tr f97
      obtain ⟨s96, e_s96⟩ : ∃ z, z = mI s94 53 ((s94.1 53) + 1) := ⟨_, rfl⟩
      rw [← e_s96] at R97
      try rw [← e_s96] at hm
      obtain ⟨s99, o101, hm⟩ := Option.bind_eq_some_iff.mp hm
      refine zr_O R97 ?_
      refine z_end R97 o101 (fun h100 R100 f100 => ?_)
      have F100 := F97.tr f100
      cases hm
      exact hQ _ R100 F100
    · rw [if_neg q103] at hm
      refine zr_R R0 rfl ?_
      refine zr_R R0 rfl ?_
      refine ⟨fun q102 => ?_, fun q102 => ?_⟩
      · rw [if_pos q102] at hm
        exact z_takeAnswer_L297 R0 hm (fun u1 v0 v1 v2 g1 kc1 ks1 j1 P1 f1 => ih P1 j1 (fun h2 R2 f2 => hQ h2 R2 ((F0.tr f1).tr f2))) (fun h1 R1 f1 => hQ h1 R1 (F0.tr f1))
      · rw [if_neg q102] at hm
        exact z_takeAnswer_L297 R0 hm (fun u1 v0 v1 v2 g1 kc1 ks1 j1 P1 f1 => ih P1 j1 (fun h2 R2 f2 => hQ h2 R2 ((F0.tr f1).tr f2))) (fun h1 R1 f1 => hQ h1 R1 (F0.tr f1))
set_option maxRecDepth 100000 in
set_option maxHeartbeats 4000000 in
theorem z_takeAnswer {E : Ev} {a0 : Nat} {ad : Nat → Nat} {s' : MS} {Q : Hp → Prop} {s : MS} {h : Hp} {kc ks : Nat} {xp1 : Int32} (R0 : RepM E h a0 ad s) (hm : M_takeAnswer s xp1 = some s') (hQ : ∀ h1, RepM E h1 a0 ad s' → xf (FM a0 ad) h h1 → Q h1)   : m_X12_takeAnswer E a0 xp1 h kc ks Q := by
  have F0 : xf (FM a0 ad) h h := xf.rf
  unfold M_takeAnswer at hm
  unfold m_X12_takeAnswer
  refine zr_R R0 rfl ?_
  have b1 : ¬ ((7 : Int32) < 0 ∨ 12 ≤ ((7 : Int32)).toNatClampNeg) := fun q => by rw [if_pos q] at hm; cases hm
  rw [if_neg b1] at hm
  refine zr_n ?_
  refine zr_l R0 (by decide) b1 ?_
  refine ⟨fun q81 => ?_, fun q81 => ?_⟩
  · rw [if_pos q81] at hm
    exact z_takeAnswer_L26 R0 hm (fun h1 R1 f1 => hQ h1 R1 (F0.tr f1))
  · rw [if_neg q81] at hm
    refine zr_R R0 rfl ?_
    have b2 : ¬ ((7 : Int32) < 0 ∨ 12 ≤ ((7 : Int32)).toNatClampNeg) := fun q => by rw [if_pos q] at hm; cases hm
    rw [if_neg b2] at hm
    refine zr_n ?_
    refine zr_l R0 (by decide) b2 ?_
    refine ⟨fun q80 => ?_, fun q80 => ?_⟩
    · rw [if_pos q80] at hm
      refine zr_R R0 rfl ?_
      have b3 : ¬ ((7 : Int32) < 0 ∨ 12 ≤ ((7 : Int32)).toNatClampNeg) := fun q => by rw [if_pos q] at hm; cases hm
      rw [if_neg b3] at hm
      refine zr_n ?_
      refine zr_l R0 (by decide) b3 ?_
      refine ⟨fun q79 => ?_, fun q79 => ?_⟩
      · rw [if_pos q79] at hm
        refine zr_R R0 rfl ?_
        have b55 : ¬ ((2 : Int32) < 0 ∨ 12 ≤ ((2 : Int32)).toNatClampNeg) := fun q => by rw [if_pos q] at hm; cases hm
        rw [if_neg b55] at hm
        refine zr_n ?_
        refine zr_l R0 (by decide) b55 ?_
        refine zr_R R0 rfl ?_
        have b56 : ¬ ((8 : Int32) < 0 ∨ 12 ≤ ((8 : Int32)).toNatClampNeg) := fun q => by rw [if_pos q] at hm; cases hm
        rw [if_neg b56] at hm
        refine zr_n ?_
        refine zr_l R0 (by decide) b56 ?_
        obtain ⟨s58, o60, hm⟩ := Option.bind_eq_some_iff.mp hm
        refine zr_O R0 ?_
        refine z_fill R0 o60 (fun h59 R59 f59 => ?_)
        have F59 := F0.tr f59
        refine zr_R R59 rfl ?_
        refine zr_R R59 rfl ?_
        have b61 : ¬ ((2 : Int32) < 0 ∨ 12 ≤ ((2 : Int32)).toNatClampNeg) := fun q => by rw [if_pos q] at hm; cases hm
        rw [if_neg b61] at hm
        refine zr_n ?_
        refine zr_l R59 (by decide) b61 ?_
        have b62 : ¬ (xp1 < 0 ∨ 8 ≤ (xp1).toNatClampNeg) := fun q => by rw [if_pos q] at hm; cases hm
        rw [if_neg b62] at hm
        refine zr_n ?_
        try dsimp only [lt1] at hm
        refine zr_s R59 (n := 8) (by decide) b62 (fun h64 R64 f64 => ?_)
        have F64 := F59.tr f64
        obtain ⟨s63, e_s63⟩ : ∃ z, z = mA s58 50 (xp1).toNatClampNeg ((s58.2.2.2 17 ((2 : Int32)).toNatClampNeg).toInt32) := ⟨_, rfl⟩
        rw [← e_s63] at R64
        try rw [← e_s63] at hm
        obtain ⟨s66, o68, hm⟩ := Option.bind_eq_some_iff.mp hm
        refine zr_O R64 ?_
        refine z_sign R64 o68 (fun h67 R67 f67 => ?_)
        have F67 := F64.tr f67
        obtain ⟨⟨x69, s70⟩, o72, hm⟩ := Option.bind_eq_some_iff.mp hm
        try dsimp only [lt1] at hm
        refine zr_O R67 ?_
        refine z_send R67 o72 (fun h71 R71 f71 => ?_)
        have F71 := F67.tr f71
        refine zr_R R71 rfl ?_
        have b73 : ¬ (xp1 < 0 ∨ 8 ≤ (xp1).toNatClampNeg) := fun q => by rw [if_pos q] at hm; cases hm
        rw [if_neg b73] at hm
        refine zr_n ?_
        try dsimp only [lt1] at hm
        refine zr_s R71 (n := 8) (by decide) b73 (fun h75 R75 f75 => ?_)
        have F75 := F71.tr f75
        obtain ⟨s74, e_s74⟩ : ∃ z, z = mA s70 41 (xp1).toNatClampNeg 8 := ⟨_, rfl⟩
        rw [← e_s74] at R75
        try rw [← e_s74] at hm
        refine zr_R R75 rfl ?_
        refine zr_J R75 rfl ?_
        have b76 : ¬ (xp1 < 0 ∨ 8 ≤ (xp1).toNatClampNeg) := fun q => by rw [if_pos q] at hm; cases hm
        rw [if_neg b76] at hm
        refine zr_n ?_
        try dsimp only [lt1] at hm
        refine zr_sl R75 (by decide) b76 (fun h78 R78 f78 => ?_)
        have F78 := F75.tr f78
        obtain ⟨s77, e_s77⟩ : ∃ z, z = mL s74 42 (xp1).toNatClampNeg s74.2.1 := ⟨_, rfl⟩
        rw [← e_s77] at R78
        try rw [← e_s77] at hm
        cases hm
        exact hQ _ R78 F78
      · rw [if_neg q79] at hm
        obtain ⟨s5, o7, hm⟩ := Option.bind_eq_some_iff.mp hm
        refine zr_O R0 ?_
        refine z_begin R0 o7 (fun h6 R6 f6 => ?_)
        have F6 := F0.tr f6
        obtain ⟨s9, o11, hm⟩ := Option.bind_eq_some_iff.mp hm
        refine zr_O R6 ?_
        refine z_more R6 o11 (fun h10 R10 f10 => ?_)
        have F10 := F6.tr f10
        refine zr_R R10 rfl ?_
        have b12 : ¬ (xp1 < 0 ∨ 8 ≤ (xp1).toNatClampNeg) := fun q => by rw [if_pos q] at hm; cases hm
        rw [if_neg b12] at hm
        refine zr_n ?_
        refine zr_l R10 (by decide) b12 ?_
        obtain ⟨s14, o16, hm⟩ := Option.bind_eq_some_iff.mp hm
        refine zr_O R10 ?_
        refine z_more R10 o16 (fun h15 R15 f15 => ?_)
        have F15 := F10.tr f15
        refine zr_R R15 rfl ?_
        have b17 : ¬ (xp1 < 0 ∨ 8 ≤ (xp1).toNatClampNeg) := fun q => by rw [if_pos q] at hm; cases hm
        rw [if_neg b17] at hm
        refine zr_n ?_
        refine zr_l R15 (by decide) b17 ?_
        obtain ⟨s19, o21, hm⟩ := Option.bind_eq_some_iff.mp hm
        refine zr_O R15 ?_
        refine z_more R15 o21 (fun h20 R20 f20 => ?_)
        have F20 := F15.tr f20
        obtain ⟨s23, o25, hm⟩ := Option.bind_eq_some_iff.mp hm
        refine zr_O R20 ?_
        refine z_more R20 o25 (fun h24 R24 f24 => ?_)
        have F24 := F20.tr f24
        refine zr_R R24 rfl ?_
        have b26 : ¬ ((2 : Int32) < 0 ∨ 12 ≤ ((2 : Int32)).toNatClampNeg) := fun q => by rw [if_pos q] at hm; cases hm
        rw [if_neg b26] at hm
        refine zr_n ?_
        refine zr_l R24 (by decide) b26 ?_
        obtain ⟨s28, o30, hm⟩ := Option.bind_eq_some_iff.mp hm
        refine zr_O R24 ?_
        refine z_more R24 o30 (fun h29 R29 f29 => ?_)
        have F29 := F24.tr f29
        refine zr_R R29 rfl ?_
        have b31 : ¬ (xp1 < 0 ∨ 8 ≤ (xp1).toNatClampNeg) := fun q => by rw [if_pos q] at hm; cases hm
        rw [if_neg b31] at hm
        refine zr_n ?_
        refine zr_a R29 (n := 8) (by decide) b31 ?_
        obtain ⟨s33, o35, hm⟩ := Option.bind_eq_some_iff.mp hm
        refine zr_O R29 ?_
        refine z_more R29 o35 (fun h34 R34 f34 => ?_)
        have F34 := F29.tr f34
        refine zr_R R34 rfl ?_
        have b36 : ¬ ((2 : Int32) < 0 ∨ 12 ≤ ((2 : Int32)).toNatClampNeg) := fun q => by rw [if_pos q] at hm; cases hm
        rw [if_neg b36] at hm
        refine zr_n ?_
        refine zr_l R34 (by decide) b36 ?_
        refine zr_R R34 rfl ?_
        have b37 : ¬ (xp1 < 0 ∨ 8 ≤ (xp1).toNatClampNeg) := fun q => by rw [if_pos q] at hm; cases hm
        rw [if_neg b37] at hm
        refine zr_n ?_
        refine zr_a R34 (n := 8) (by decide) b37 ?_
        refine ⟨fun q54 => ?_, fun q54 => ?_⟩
        · rw [if_pos q54] at hm
          refine zr_R R34 rfl ?_
          have b38 : ¬ ((6 : Int32) < 0 ∨ 12 ≤ ((6 : Int32)).toNatClampNeg) := fun q => by rw [if_pos q] at hm; cases hm
          rw [if_neg b38] at hm
          refine zr_n ?_
          refine zr_l R34 (by decide) b38 ?_
          refine zr_R R34 rfl ?_
          have b39 : ¬ (xp1 < 0 ∨ 8 ≤ (xp1).toNatClampNeg) := fun q => by rw [if_pos q] at hm; cases hm
          rw [if_neg b39] at hm
          refine zr_n ?_
          refine zr_a R34 (n := 8) (by decide) b39 ?_
          refine ⟨fun q53 => ?_, fun q53 => ?_⟩
          · rw [if_pos q53] at hm
            refine zr_R R34 rfl ?_
            have b40 : ¬ (xp1 < 0 ∨ 8 ≤ (xp1).toNatClampNeg) := fun q => by rw [if_pos q] at hm; cases hm
            rw [if_neg b40] at hm
            refine zr_n ?_
            refine zr_a R34 (n := 8) (by decide) b40 ?_
            refine zr_R R34 rfl ?_
            have b41 : ¬ ((8 : Int32) < 0 ∨ 12 ≤ ((8 : Int32)).toNatClampNeg) := fun q => by rw [if_pos q] at hm; cases hm
            rw [if_neg b41] at hm
            refine zr_n ?_
            refine zr_l R34 (by decide) b41 ?_
            obtain ⟨⟨x42, s43⟩, o45, hm⟩ := Option.bind_eq_some_iff.mp hm
            try dsimp only [lt1] at hm
            refine zr_O R34 ?_
            refine z_isGood R34 o45 (fun h44 R44 f44 => ?_)
            have F44 := F34.tr f44
            refine ⟨fun q52 => ?_, fun q52 => ?_⟩
            · rw [if_pos q52] at hm
              exact z_takeAnswer_L231 R44 hm (fun h1 R1 f1 => hQ h1 R1 (F44.tr f1))
            · rw [if_neg q52] at hm
              refine zr_R R44 rfl ?_
              have b46 : ¬ ((2 : Int32) < 0 ∨ 12 ≤ ((2 : Int32)).toNatClampNeg) := fun q => by rw [if_pos q] at hm; cases hm
              rw [if_neg b46] at hm
              refine zr_n ?_
              refine zr_l R44 (by decide) b46 ?_
              refine zr_R R44 rfl ?_
              have b47 : ¬ ((8 : Int32) < 0 ∨ 12 ≤ ((8 : Int32)).toNatClampNeg) := fun q => by rw [if_pos q] at hm; cases hm
              rw [if_neg b47] at hm
              refine zr_n ?_
              refine zr_l R44 (by decide) b47 ?_
              obtain ⟨s49, o51, hm⟩ := Option.bind_eq_some_iff.mp hm
              refine zr_O R44 ?_
              refine z_fill R44 o51 (fun h50 R50 f50 => ?_)
              have F50 := F44.tr f50
              refine zr_I R50 rfl ?_
              refine ⟨mfu, ?_⟩
              exact z_takeAnswer_L266 mfu R50 hm (fun h1 R1 f1 => hQ h1 R1 (F50.tr f1))
          · rw [if_neg q53] at hm
            exact z_takeAnswer_L231 R34 hm (fun h1 R1 f1 => hQ h1 R1 (F34.tr f1))
        · rw [if_neg q54] at hm
          exact z_takeAnswer_L231 R34 hm (fun h1 R1 f1 => hQ h1 R1 (F34.tr f1))
    · rw [if_neg q80] at hm
      exact z_takeAnswer_L26 R0 hm (fun h1 R1 f1 => hQ h1 R1 (F0.tr f1))
set_option maxRecDepth 100000 in
set_option maxHeartbeats 4000000 in
theorem z_takeWord {E : Ev} {a0 : Nat} {ad : Nat → Nat} {r' : Int32} {s' : MS} {Q : Int32 → Hp → Prop} {s : MS} {h : Hp} {kc ks : Nat} {xp1 : Int32} (R0 : RepM E h a0 ad s) (hm : M_takeWord s xp1 = some (r', s')) (hQ : ∀ h1, RepM E h1 a0 ad s' → xf (FM a0 ad) h h1 → Q r' h1)   : m_X12_takeWord E a0 xp1 h kc ks Q := by
  have F0 : xf (FM a0 ad) h h := xf.rf
  unfold M_takeWord at hm
  unfold m_X12_takeWord
  obtain ⟨s2, o4, hm⟩ := Option.bind_eq_some_iff.mp hm
  refine zr_O R0 ?_
  refine z_begin R0 o4 (fun h3 R3 f3 => ?_)
  have F3 := F0.tr f3
  refine zr_R R3 rfl ?_
  have b5 : ¬ ((1 : Int32) < 0 ∨ 12 ≤ ((1 : Int32)).toNatClampNeg) := fun q => by rw [if_pos q] at hm; cases hm
  rw [if_neg b5] at hm
  refine zr_n ?_
  refine zr_l R3 (by decide) b5 ?_
  obtain ⟨s7, o9, hm⟩ := Option.bind_eq_some_iff.mp hm
  refine zr_O R3 ?_
  refine z_more R3 o9 (fun h8 R8 f8 => ?_)
  have F8 := F3.tr f8
  refine zr_R R8 rfl ?_
  have b10 : ¬ ((2 : Int32) < 0 ∨ 12 ≤ ((2 : Int32)).toNatClampNeg) := fun q => by rw [if_pos q] at hm; cases hm
  rw [if_neg b10] at hm
  refine zr_n ?_
  refine zr_l R8 (by decide) b10 ?_
  obtain ⟨s12, o14, hm⟩ := Option.bind_eq_some_iff.mp hm
  refine zr_O R8 ?_
  refine z_more R8 o14 (fun h13 R13 f13 => ?_)
  have F13 := F8.tr f13
  refine zr_R R13 rfl ?_
  have b15 : ¬ ((10 : Int32) < 0 ∨ 12 ≤ ((10 : Int32)).toNatClampNeg) := fun q => by rw [if_pos q] at hm; cases hm
  rw [if_neg b15] at hm
  refine zr_n ?_
  refine zr_l R13 (by decide) b15 ?_
  obtain ⟨s17, o19, hm⟩ := Option.bind_eq_some_iff.mp hm
  refine zr_O R13 ?_
  refine z_more R13 o19 (fun h18 R18 f18 => ?_)
  have F18 := F13.tr f18
  refine zr_R R18 rfl ?_
  have b20 : ¬ (xp1 < 0 ∨ 8 ≤ (xp1).toNatClampNeg) := fun q => by rw [if_pos q] at hm; cases hm
  rw [if_neg b20] at hm
  refine zr_n ?_
  refine zr_l R18 (by decide) b20 ?_
  obtain ⟨s22, o24, hm⟩ := Option.bind_eq_some_iff.mp hm
  refine zr_O R18 ?_
  refine z_more R18 o24 (fun h23 R23 f23 => ?_)
  have F23 := F18.tr f23
  refine zr_R R23 rfl ?_
  have b25 : ¬ ((1 : Int32) < 0 ∨ 12 ≤ ((1 : Int32)).toNatClampNeg) := fun q => by rw [if_pos q] at hm; cases hm
  rw [if_neg b25] at hm
  refine zr_n ?_
  refine zr_l R23 (by decide) b25 ?_
  refine zr_R R23 rfl ?_
  have b26 : ¬ (xp1 < 0 ∨ 8 ≤ (xp1).toNatClampNeg) := fun q => by rw [if_pos q] at hm; cases hm
  rw [if_neg b26] at hm
  refine zr_n ?_
  refine zr_a R23 (n := 8) (by decide) b26 ?_
  refine ⟨fun q52 => ?_, fun q52 => ?_⟩
  · rw [if_pos q52] at hm
    refine zr_R R23 rfl ?_
    have b27 : ¬ ((2 : Int32) < 0 ∨ 12 ≤ ((2 : Int32)).toNatClampNeg) := fun q => by rw [if_pos q] at hm; cases hm
    rw [if_neg b27] at hm
    refine zr_n ?_
    refine zr_l R23 (by decide) b27 ?_
    refine zr_R R23 rfl ?_
    have b28 : ¬ (xp1 < 0 ∨ 8 ≤ (xp1).toNatClampNeg) := fun q => by rw [if_pos q] at hm; cases hm
    rw [if_neg b28] at hm
    refine zr_n ?_
    refine zr_a R23 (n := 8) (by decide) b28 ?_
    refine ⟨fun q51 => ?_, fun q51 => ?_⟩
    · rw [if_pos q51] at hm
      refine zr_R R23 rfl ?_
      have b29 : ¬ ((11 : Int32) < 0 ∨ 12 ≤ ((11 : Int32)).toNatClampNeg) := fun q => by rw [if_pos q] at hm; cases hm
      rw [if_neg b29] at hm
      refine zr_n ?_
      refine zr_l R23 (by decide) b29 ?_
      obtain ⟨⟨x30, s31⟩, o33, hm⟩ := Option.bind_eq_some_iff.mp hm
      try dsimp only [lt1] at hm
      refine zr_O R23 ?_
      refine z_isGood R23 o33 (fun h32 R32 f32 => ?_)
      have F32 := F23.tr f32
      refine ⟨fun q50 => ?_, fun q50 => ?_⟩
      · rw [if_pos q50] at hm
        cases hm
        exact hQ _ R32 F32
      · rw [if_neg q50] at hm
        refine zr_R R32 rfl ?_
        refine zr_R R32 rfl ?_
        have b34 : ¬ ((10 : Int32) < 0 ∨ 12 ≤ ((10 : Int32)).toNatClampNeg) := fun q => by rw [if_pos q] at hm; cases hm
        rw [if_neg b34] at hm
        refine zr_n ?_
        refine zr_l R32 (by decide) b34 ?_
        have b35 : ¬ (xp1 < 0 ∨ 8 ≤ (xp1).toNatClampNeg) := fun q => by rw [if_pos q] at hm; cases hm
        rw [if_neg b35] at hm
        refine zr_n ?_
        try dsimp only [lt1] at hm
        refine zr_s R32 (n := 8) (by decide) b35 (fun h37 R37 f37 => ?_)
        have F37 := F32.tr f37
        obtain ⟨s36, e_s36⟩ : ∃ z, z = mA s31 51 (xp1).toNatClampNeg ((s31.2.2.2 17 ((10 : Int32)).toNatClampNeg).toInt32) := ⟨_, rfl⟩
        rw [← e_s36] at R37
        try rw [← e_s36] at hm
        refine zr_R R37 rfl ?_
        refine zr_R R37 rfl ?_
        have b38 : ¬ ((8 : Int32) < 0 ∨ 12 ≤ ((8 : Int32)).toNatClampNeg) := fun q => by rw [if_pos q] at hm; cases hm
        rw [if_neg b38] at hm
        refine zr_n ?_
        refine zr_l R37 (by decide) b38 ?_
        have b39 : ¬ ((8 : Int32) < 0 ∨ 12 ≤ ((8 : Int32)).toNatClampNeg) := fun q => by rw [if_pos q] at hm; cases hm
        rw [if_neg b39] at hm
        refine zr_n ?_
        try dsimp only [lt1] at hm
        refine zr_sl R37 (by decide) b39 (fun h41 R41 f41 => ?_)
        have F41 := F37.tr f41
        obtain ⟨s40, e_s40⟩ : ∃ z, z = mL s36 18 ((8 : Int32)).toNatClampNeg (s36.2.2.2 17 ((8 : Int32)).toNatClampNeg) := ⟨_, rfl⟩
        rw [← e_s40] at R41
        try rw [← e_s40] at hm
        refine zr_R R41 rfl ?_
        refine zr_R R41 rfl ?_
        have b42 : ¬ ((10 : Int32) < 0 ∨ 12 ≤ ((10 : Int32)).toNatClampNeg) := fun q => by rw [if_pos q] at hm; cases hm
        rw [if_neg b42] at hm
        refine zr_n ?_
        refine zr_l R41 (by decide) b42 ?_
        have b43 : ¬ ((10 : Int32) < 0 ∨ 12 ≤ ((10 : Int32)).toNatClampNeg) := fun q => by rw [if_pos q] at hm; cases hm
        rw [if_neg b43] at hm
        refine zr_n ?_
        try dsimp only [lt1] at hm
        refine zr_sl R41 (by decide) b43 (fun h45 R45 f45 => ?_)
        have F45 := F41.tr f45
        obtain ⟨s44, e_s44⟩ : ∃ z, z = mL s40 18 ((10 : Int32)).toNatClampNeg (s40.2.2.2 17 ((10 : Int32)).toNatClampNeg) := ⟨_, rfl⟩
        rw [← e_s44] at R45
        try rw [← e_s44] at hm
        obtain ⟨s47, o49, hm⟩ := Option.bind_eq_some_iff.mp hm
        refine zr_O R45 ?_
        refine z_toItsCard R45 o49 (fun h48 R48 f48 => ?_)
        have F48 := F45.tr f48
        cases hm
        exact hQ _ R48 F48
    · rw [if_neg q51] at hm
      cases hm
      exact hQ _ R23 F23
  · rw [if_neg q52] at hm
    cases hm
    exact hQ _ R23 F23
set_option maxRecDepth 100000 in
set_option maxHeartbeats 4000000 in
theorem z_toTerminal_L225 {E : Ev} {a0 : Nat} {ad : Nat → Nat} {r' : Int32} {s' : MS} {Q : Int32 → Hp → Prop} {s : MS} {h : Hp} {kc ks : Nat} {w0 : Int32} {w1 : Int32} (R0 : RepM E h a0 ad s) (hm : M_toTerminal_L225 s w0 w1 = some (r', s')) (hQ : ∀ h1, RepM E h1 a0 ad s' → xf (FM a0 ad) h h1 → Q r' h1) : m_X12_toTerminal_L225 E w0 w1 (some (a0)) h kc ks Q := by
  have F0 : xf (FM a0 ad) h h := xf.rf
  unfold M_toTerminal_L225 at hm
  unfold m_X12_toTerminal_L225
  obtain ⟨s72, o74, hm⟩ := Option.bind_eq_some_iff.mp hm
  refine zr_n ?_
  refine zr_O R0 ?_
  refine z_end R0 o74 (fun h73 R73 f73 => ?_)
  have F73 := F0.tr f73
  cases hm
  exact hQ _ R73 F73
set_option maxRecDepth 100000 in
set_option maxHeartbeats 4000000 in
theorem z_toTerminal_L213 {E : Ev} {a0 : Nat} {ad : Nat → Nat} {r' : Int32} {s' : MS} {Q : Int32 → Hp → Prop} {s : MS} {h : Hp} {kc ks : Nat} {xv1 : Int32} {w0 : Int32} (R0 : RepM E h a0 ad s) (hm : M_toTerminal_L213 s xv1 w0 = some (r', s')) (hQ : ∀ h1, RepM E h1 a0 ad s' → xf (FM a0 ad) h h1 → Q r' h1) : m_X12_toTerminal_L213 E a0 xv1 w0 h kc ks Q := by
  have F0 : xf (FM a0 ad) h h := xf.rf
  unfold M_toTerminal_L213 at hm
  unfold m_X12_toTerminal_L213
  refine ⟨fun q70 => ?_, fun q70 => ?_⟩
  · rw [if_pos q70] at hm
    exact z_toTerminal_L225 R0 hm (fun h1 R1 f1 => hQ h1 R1 (F0.tr f1))
  · rw [if_neg q70] at hm
    exact z_toTerminal_L225 R0 hm (fun h1 R1 f1 => hQ h1 R1 (F0.tr f1))
set_option maxRecDepth 100000 in
set_option maxHeartbeats 4000000 in
theorem z_toTerminal_L212 {E : Ev} {a0 : Nat} {ad : Nat → Nat} {r' : Int32} {s' : MS} {Q : Int32 → Hp → Prop} {s : MS} {h : Hp} {kc ks : Nat} {xv1 : Int32} (R0 : RepM E h a0 ad s) (hm : M_toTerminal_L212 s xv1 = some (r', s')) (hQ : ∀ h1, RepM E h1 a0 ad s' → xf (FM a0 ad) h h1 → Q r' h1) : m_X12_toTerminal_L212 E a0 xv1 h kc ks Q := by
  have F0 : xf (FM a0 ad) h h := xf.rf
  unfold M_toTerminal_L212 at hm
  unfold m_X12_toTerminal_L212
  exact z_toTerminal_L213 R0 hm (fun h1 R1 f1 => hQ h1 R1 (F0.tr f1))
set_option maxRecDepth 100000 in
set_option maxHeartbeats 4000000 in
theorem z_toTerminal_L111 {E : Ev} {a0 : Nat} {ad : Nat → Nat} {r' : Int32} {s' : MS} {Q : Int32 → Hp → Prop} {s : MS} {h : Hp} {kc ks : Nat} {xv1 : Int32} (R0 : RepM E h a0 ad s) (hm : M_toTerminal_L111 s xv1 = some (r', s')) (hQ : ∀ h1, RepM E h1 a0 ad s' → xf (FM a0 ad) h h1 → Q r' h1) : m_X12_toTerminal_L111 E a0 xv1 h kc ks Q := by
  have F0 : xf (FM a0 ad) h h := xf.rf
  unfold M_toTerminal_L111 at hm
  unfold m_X12_toTerminal_L111
  obtain ⟨s33, o35, hm⟩ := Option.bind_eq_some_iff.mp hm
  refine zr_O R0 ?_
  refine z_begin R0 o35 (fun h34 R34 f34 => ?_)
  have F34 := F0.tr f34
  obtain ⟨s37, o39, hm⟩ := Option.bind_eq_some_iff.mp hm
  refine zr_O R34 ?_
  refine z_more R34 o39 (fun h38 R38 f38 => ?_)
  have F38 := F34.tr f38
  refine zr_R R38 rfl ?_
  have b40 : ¬ (xv1 < 0 ∨ 8 ≤ (xv1).toNatClampNeg) := fun q => by rw [if_pos q] at hm; cases hm
  rw [if_neg b40] at hm
  refine zr_n ?_
  refine zr_l R38 (by decide) b40 ?_
  obtain ⟨s42, o44, hm⟩ := Option.bind_eq_some_iff.mp hm
  refine zr_O R38 ?_
  refine z_more R38 o44 (fun h43 R43 f43 => ?_)
  have F43 := F38.tr f43
  refine zr_R R43 rfl ?_
  have b45 : ¬ (xv1 < 0 ∨ 8 ≤ (xv1).toNatClampNeg) := fun q => by rw [if_pos q] at hm; cases hm
  rw [if_neg b45] at hm
  refine zr_n ?_
  refine zr_l R43 (by decide) b45 ?_
  obtain ⟨s47, o49, hm⟩ := Option.bind_eq_some_iff.mp hm
  refine zr_O R43 ?_
  refine z_more R43 o49 (fun h48 R48 f48 => ?_)
  have F48 := F43.tr f48
  obtain ⟨s51, o53, hm⟩ := Option.bind_eq_some_iff.mp hm
  refine zr_O R48 ?_
  refine z_more R48 o53 (fun h52 R52 f52 => ?_)
  have F52 := F48.tr f52
  refine zr_R R52 rfl ?_
  have b54 : ¬ (xv1 < 0 ∨ 8 ≤ (xv1).toNatClampNeg) := fun q => by rw [if_pos q] at hm; cases hm
  rw [if_neg b54] at hm
  refine zr_n ?_
  refine zr_a R52 (n := 8) (by decide) b54 ?_
  obtain ⟨s56, o58, hm⟩ := Option.bind_eq_some_iff.mp hm
  refine zr_O R52 ?_
  refine z_more R52 o58 (fun h57 R57 f57 => ?_)
  have F57 := F52.tr f57
  refine zr_R R57 rfl ?_
  have b59 : ¬ (xv1 < 0 ∨ 8 ≤ (xv1).toNatClampNeg) := fun q => by rw [if_pos q] at hm; cases hm
  rw [if_neg b59] at hm
  refine zr_n ?_
  refine zr_a R57 (n := 8) (by decide) b59 ?_
  refine ⟨fun q69 => ?_, fun q69 => ?_⟩
  · rw [if_pos q69] at hm
    refine zr_R R57 rfl ?_
    have b60 : ¬ ((7 : Int32) < 0 ∨ 12 ≤ ((7 : Int32)).toNatClampNeg) := fun q => by rw [if_pos q] at hm; cases hm
    rw [if_neg b60] at hm
    refine zr_n ?_
    refine zr_l R57 (by decide) b60 ?_
    refine ⟨fun q68 => ?_, fun q68 => ?_⟩
    · rw [if_pos q68] at hm
      refine zr_R R57 rfl ?_
      have b61 : ¬ (xv1 < 0 ∨ 8 ≤ (xv1).toNatClampNeg) := fun q => by rw [if_pos q] at hm; cases hm
      rw [if_neg b61] at hm
      refine zr_n ?_
      refine zr_a R57 (n := 8) (by decide) b61 ?_
      refine zr_R R57 rfl ?_
      have b62 : ¬ ((8 : Int32) < 0 ∨ 12 ≤ ((8 : Int32)).toNatClampNeg) := fun q => by rw [if_pos q] at hm; cases hm
      rw [if_neg b62] at hm
      refine zr_n ?_
      refine zr_l R57 (by decide) b62 ?_
      obtain ⟨⟨x63, s64⟩, o66, hm⟩ := Option.bind_eq_some_iff.mp hm
      try dsimp only [lt1] at hm
      refine zr_O R57 ?_
      refine z_isGood R57 o66 (fun h65 R65 f65 => ?_)
      have F65 := F57.tr f65
      refine ⟨fun q67 => ?_, fun q67 => ?_⟩
      · rw [if_pos q67] at hm
        exact z_toTerminal_L212 R65 hm (fun h1 R1 f1 => hQ h1 R1 (F65.tr f1))
      · rw [if_neg q67] at hm
        exact z_toTerminal_L213 R65 hm (fun h1 R1 f1 => hQ h1 R1 (F65.tr f1))
    · rw [if_neg q68] at hm
      exact z_toTerminal_L212 R57 hm (fun h1 R1 f1 => hQ h1 R1 (F57.tr f1))
  · rw [if_neg q69] at hm
    exact z_toTerminal_L212 R57 hm (fun h1 R1 f1 => hQ h1 R1 (F57.tr f1))
set_option maxRecDepth 100000 in
set_option maxHeartbeats 4000000 in
theorem z_toTerminal {E : Ev} {a0 : Nat} {ad : Nat → Nat} {r' : Int32} {s' : MS} {Q : Int32 → Hp → Prop} {s : MS} {h : Hp} {kc ks : Nat} {xp1 : Int32} {xp2 : Int32} (R0 : RepM E h a0 ad s) (hm : M_toTerminal s xp1 xp2 = some (r', s')) (hQ : ∀ h1, RepM E h1 a0 ad s' → xf (FM a0 ad) h h1 → Q r' h1)   : m_X12_toTerminal E a0 xp1 xp2 h kc ks Q := by
  have F0 : xf (FM a0 ad) h h := xf.rf
  unfold M_toTerminal at hm
  unfold m_X12_toTerminal
  refine zr_R R0 rfl ?_
  have b1 : ¬ (xp1 < 0 ∨ 8 ≤ (xp1).toNatClampNeg) := fun q => by rw [if_pos q] at hm; cases hm
  rw [if_neg b1] at hm
  refine zr_n ?_
  refine zr_a R0 (n := 8) (by decide) b1 ?_
  refine ⟨fun q31 => ?_, fun q31 => ?_⟩
  · rw [if_pos q31] at hm
    refine ⟨fun q30 => ?_, fun q30 => ?_⟩
    · rw [if_pos q30] at hm
      obtain ⟨s27, o29, hm⟩ := Option.bind_eq_some_iff.mp hm
      refine zr_O R0 ?_
      refine z_takeCard R0 o29 (fun h28 R28 f28 => ?_)
      have F28 := F0.tr f28
      cases hm
      exact hQ _ R28 F28
    · rw [if_neg q30] at hm
      refine ⟨fun q25 => ?_, fun q25 => ?_⟩
      · rw [if_pos q25] at hm
        refine zr_R R0 rfl ?_
        have b12 : ¬ ((6 : Int32) < 0 ∨ 12 ≤ ((6 : Int32)).toNatClampNeg) := fun q => by rw [if_pos q] at hm; cases hm
        rw [if_neg b12] at hm
        refine zr_n ?_
        refine zr_l R0 (by decide) b12 ?_
        refine ⟨fun q24 => ?_, fun q24 => ?_⟩
        · rw [if_pos q24] at hm
          refine zr_R R0 rfl ?_
          have b17 : ¬ (xp1 < 0 ∨ 8 ≤ (xp1).toNatClampNeg) := fun q => by rw [if_pos q] at hm; cases hm
          rw [if_neg b17] at hm
          refine zr_n ?_
          try dsimp only [lt1] at hm
          refine zr_s R0 (n := 8) (by decide) b17 (fun h19 R19 f19 => ?_)
          have F19 := F0.tr f19
          obtain ⟨s18, e_s18⟩ : ∃ z, z = mA s 49 (xp1).toNatClampNeg 1 := ⟨_, rfl⟩
          rw [← e_s18] at R19
          try rw [← e_s18] at hm
          obtain ⟨s21, o23, hm⟩ := Option.bind_eq_some_iff.mp hm
          refine zr_O R19 ?_
          refine z_ask R19 o23 (fun h22 R22 f22 => ?_)
          have F22 := F19.tr f22
          cases hm
          exact hQ _ R22 F22
        · rw [if_neg q24] at hm
          obtain ⟨s14, o16, hm⟩ := Option.bind_eq_some_iff.mp hm
          refine zr_O R0 ?_
          refine z_end R0 o16 (fun h15 R15 f15 => ?_)
          have F15 := F0.tr f15
          cases hm
          exact hQ _ R15 F15
      · rw [if_neg q25] at hm
        refine ⟨fun q11 => ?_, fun q11 => ?_⟩
        · rw [if_pos q11] at hm
          obtain ⟨s8, o10, hm⟩ := Option.bind_eq_some_iff.mp hm
          refine zr_O R0 ?_
          refine z_takeAnswer R0 o10 (fun h9 R9 f9 => ?_)
          have F9 := F0.tr f9
          cases hm
          exact hQ _ R9 F9
        · rw [if_neg q11] at hm
          refine ⟨fun q6 => ?_, fun q6 => ?_⟩
          · rw [if_pos q6] at hm
            obtain ⟨⟨x2, s3⟩, o5, hm⟩ := Option.bind_eq_some_iff.mp hm
            try dsimp only [lt1] at hm
            refine zr_O R0 ?_
            refine z_takeWord R0 o5 (fun h4 R4 f4 => ?_)
            have F4 := F0.tr f4
            by_cases qz : x2 = 0 ∨ x2 = 1
            · rw [if_pos qz] at hm
              cases hm
              exact ⟨qz, hQ _ R4 F4⟩
            · rw [if_neg qz] at hm
              cases hm
          · rw [if_neg q6] at hm
            exact z_toTerminal_L111 R0 hm (fun h1 R1 f1 => hQ h1 R1 (F0.tr f1))
  · rw [if_neg q31] at hm
    cases hm
    exact hQ _ R0 F0
set_option maxRecDepth 100000 in
set_option maxHeartbeats 4000000 in
theorem z_isSigned_L30 {E : Ev} {a0 : Nat} {ad : Nat → Nat} {r' : Int32} {s' : MS} {K8 : MS → Int32 → Option (Int32 × MS)} {J8 : Nat → Int32 → Hp → Nat → Nat → Prop} {Q : Int32 → Hp → Prop} {s : MS} {h : Hp} {kc ks : Nat} {xv2 : Int32} (R0 : RepM E h a0 ad s) (hm : M_isSigned_L30 s xv2 K8 = some (r', s')) (hK8 : ∀ (s1 : MS) (xv2 : Int32) (h1 : Hp) (kc1 ks1 : Nat), K8 s1 xv2 = some (r', s') → RepM E h1 a0 ad s1 → xf (FM a0 ad) h h1 → J8 a0 xv2 h1 kc1 ks1) (hQ : ∀ h1, RepM E h1 a0 ad s' → xf (FM a0 ad) h h1 → Q r' h1) : m_X12_isSigned_L30 E a0 xv2 h kc ks J8 Q := by
  have F0 : xf (FM a0 ad) h h := xf.rf
  unfold M_isSigned_L30 at hm
  unfold m_X12_isSigned_L30
  exact hK8 _ _ _ _ _ hm R0 F0
set_option maxRecDepth 100000 in
set_option maxHeartbeats 4000000 in
theorem z_isSigned_L8 {E : Ev} {a0 : Nat} {ad : Nat → Nat} {r' : Int32} {s' : MS} {Q : Int32 → Hp → Prop} : ∀ (n : Nat) {s : MS} {h : Hp} {kc ks : Nat} {xv2 : Int32} (R0 : RepM E h a0 ad s) (hm : M_isSigned_L8 n s xv2 = some (r', s')) (hQ : ∀ h1, RepM E h1 a0 ad s' → xf (FM a0 ad) h h1 → Q r' h1), m_X12_isSigned_L8 n E a0 xv2 h kc ks Q := by
  intro n
  induction n with
  | zero => intro s h kc ks xv2 R0 hm; cases hm
  | succ n ih =>
    intro s h kc ks xv2 R0 hm  hQ
    have F0 : xf (FM a0 ad) h h := xf.rf
    unfold M_isSigned_L8 at hm
    unfold m_X12_isSigned_L8
    refine ⟨fun q20 => ?_, fun q20 => ?_⟩
    · rw [if_pos q20] at hm
      refine zr_R R0 rfl ?_
      have b5 : ¬ ((5 : Int32) < 0 ∨ 12 ≤ ((5 : Int32)).toNatClampNeg) := fun q => by rw [if_pos q] at hm; cases hm
      rw [if_neg b5] at hm
      refine zr_n ?_
      refine zr_l R0 (by decide) b5 ?_
      refine zr_I R0 rfl ?_
      refine ⟨fun q13 => ?_, fun q13 => ?_⟩
      · rw [if_pos q13] at hm
        cases hm
        exact hQ _ R0 F0
      · rw [if_neg q13] at hm
        refine zr_R R0 rfl ?_
        have b6 : ¬ ((5 : Int32) < 0 ∨ 12 ≤ ((5 : Int32)).toNatClampNeg) := fun q => by rw [if_pos q] at hm; cases hm
        rw [if_neg b6] at hm
        refine zr_n ?_
        refine zr_l R0 (by decide) b6 ?_
        refine zr_R R0 rfl ?_
        have b7 : ¬ ((11 : Int32) < 0 ∨ 12 ≤ ((11 : Int32)).toNatClampNeg) := fun q => by rw [if_pos q] at hm; cases hm
        rw [if_neg b7] at hm
        refine zr_n ?_
        refine zr_l R0 (by decide) b7 ?_
        obtain ⟨⟨x8, s9⟩, o11, hm⟩ := Option.bind_eq_some_iff.mp hm
        try dsimp only [lt1] at hm
        refine zr_O R0 ?_
        refine z_isGood R0 o11 (fun h10 R10 f10 => ?_)
        have F10 := F0.tr f10
        refine ⟨fun q12 => ?_, fun q12 => ?_⟩
        · rw [if_pos q12] at hm
          cases hm
          exact hQ _ R10 F10
        · rw [if_neg q12] at hm
          cases hm
          exact hQ _ R10 F10
    · rw [if_neg q20] at hm
      refine ⟨fun q19 => ?_, fun q19 => ?_⟩
      · rw [if_pos q19] at hm
        exact z_isSigned_L30 R0 hm (fun u1 v0 g1 kc1 ks1 j1 P1 f1 => ih P1 j1 (fun h2 R2 f2 => hQ h2 R2 ((F0.tr f1).tr f2))) (fun h1 R1 f1 => hQ h1 R1 (F0.tr f1))
      · rw [if_neg q19] at hm
        refine zr_R R0 rfl ?_
        have b14 : ¬ (xv2 < 0 ∨ 12 ≤ (xv2).toNatClampNeg) := fun q => by rw [if_pos q] at hm; cases hm
        rw [if_neg b14] at hm
        refine zr_n ?_
        refine zr_l R0 (by decide) b14 ?_
        obtain ⟨s16, o18, hm⟩ := Option.bind_eq_some_iff.mp hm
        refine zr_O R0 ?_
        refine z_more R0 o18 (fun h17 R17 f17 => ?_)
        have F17 := F0.tr f17
        exact z_isSigned_L30 R17 hm (fun u1 v0 g1 kc1 ks1 j1 P1 f1 => ih P1 j1 (fun h2 R2 f2 => hQ h2 R2 ((F17.tr f1).tr f2))) (fun h1 R1 f1 => hQ h1 R1 (F17.tr f1))
set_option maxRecDepth 100000 in
set_option maxHeartbeats 4000000 in
theorem z_isSigned {E : Ev} {a0 : Nat} {ad : Nat → Nat} {r' : Int32} {s' : MS} {Q : Int32 → Hp → Prop} {s : MS} {h : Hp} {kc ks : Nat} {xp1 : Int32} (R0 : RepM E h a0 ad s) (hm : M_isSigned s xp1 = some (r', s')) (hQ : ∀ h1, RepM E h1 a0 ad s' → xf (FM a0 ad) h h1 → Q r' h1)   : m_X12_isSigned E a0 xp1 h kc ks Q := by
  have F0 : xf (FM a0 ad) h h := xf.rf
  unfold M_isSigned at hm
  unfold m_X12_isSigned
  obtain ⟨s2, o4, hm⟩ := Option.bind_eq_some_iff.mp hm
  refine zr_O R0 ?_
  refine z_begin R0 o4 (fun h3 R3 f3 => ?_)
  have F3 := F0.tr f3
  refine ⟨mfu, ?_⟩
  exact z_isSigned_L8 mfu R3 hm (fun h1 R1 f1 => hQ h1 R1 (F3.tr f1))
set_option maxRecDepth 100000 in
set_option maxHeartbeats 4000000 in
theorem z_isAnswer {E : Ev} {a0 : Nat} {ad : Nat → Nat} {r' : Int32} {s' : MS} {Q : Int32 → Hp → Prop} {s : MS} {h : Hp} {kc ks : Nat} {xp1 : Int32} (R0 : RepM E h a0 ad s) (hm : M_isAnswer s xp1 = some (r', s')) (hQ : ∀ h1, RepM E h1 a0 ad s' → xf (FM a0 ad) h h1 → Q r' h1)   : m_X12_isAnswer E a0 xp1 h kc ks Q := by
  have F0 : xf (FM a0 ad) h h := xf.rf
  unfold M_isAnswer at hm
  unfold m_X12_isAnswer
  obtain ⟨s2, o4, hm⟩ := Option.bind_eq_some_iff.mp hm
  refine zr_O R0 ?_
  refine z_begin R0 o4 (fun h3 R3 f3 => ?_)
  have F3 := F0.tr f3
  obtain ⟨s6, o8, hm⟩ := Option.bind_eq_some_iff.mp hm
  refine zr_O R3 ?_
  refine z_more R3 o8 (fun h7 R7 f7 => ?_)
  have F7 := F3.tr f7
  refine zr_R R7 rfl ?_
  have b9 : ¬ ((3 : Int32) < 0 ∨ 12 ≤ ((3 : Int32)).toNatClampNeg) := fun q => by rw [if_pos q] at hm; cases hm
  rw [if_neg b9] at hm
  refine zr_n ?_
  refine zr_l R7 (by decide) b9 ?_
  obtain ⟨s11, o13, hm⟩ := Option.bind_eq_some_iff.mp hm
  refine zr_O R7 ?_
  refine z_more R7 o13 (fun h12 R12 f12 => ?_)
  have F12 := F7.tr f12
  refine zr_R R12 rfl ?_
  have b14 : ¬ ((4 : Int32) < 0 ∨ 12 ≤ ((4 : Int32)).toNatClampNeg) := fun q => by rw [if_pos q] at hm; cases hm
  rw [if_neg b14] at hm
  refine zr_n ?_
  refine zr_l R12 (by decide) b14 ?_
  obtain ⟨s16, o18, hm⟩ := Option.bind_eq_some_iff.mp hm
  refine zr_O R12 ?_
  refine z_more R12 o18 (fun h17 R17 f17 => ?_)
  have F17 := F12.tr f17
  refine zr_R R17 rfl ?_
  have b19 : ¬ ((5 : Int32) < 0 ∨ 12 ≤ ((5 : Int32)).toNatClampNeg) := fun q => by rw [if_pos q] at hm; cases hm
  rw [if_neg b19] at hm
  refine zr_n ?_
  refine zr_l R17 (by decide) b19 ?_
  obtain ⟨s21, o23, hm⟩ := Option.bind_eq_some_iff.mp hm
  refine zr_O R17 ?_
  refine z_more R17 o23 (fun h22 R22 f22 => ?_)
  have F22 := F17.tr f22
  refine zr_R R22 rfl ?_
  have b24 : ¬ ((2 : Int32) < 0 ∨ 12 ≤ ((2 : Int32)).toNatClampNeg) := fun q => by rw [if_pos q] at hm; cases hm
  rw [if_neg b24] at hm
  refine zr_n ?_
  refine zr_l R22 (by decide) b24 ?_
  obtain ⟨s26, o28, hm⟩ := Option.bind_eq_some_iff.mp hm
  refine zr_O R22 ?_
  refine z_more R22 o28 (fun h27 R27 f27 => ?_)
  have F27 := F22.tr f27
  refine zr_R R27 rfl ?_
  have b29 : ¬ ((6 : Int32) < 0 ∨ 12 ≤ ((6 : Int32)).toNatClampNeg) := fun q => by rw [if_pos q] at hm; cases hm
  rw [if_neg b29] at hm
  refine zr_n ?_
  refine zr_l R27 (by decide) b29 ?_
  obtain ⟨s31, o33, hm⟩ := Option.bind_eq_some_iff.mp hm
  refine zr_O R27 ?_
  refine z_more R27 o33 (fun h32 R32 f32 => ?_)
  have F32 := F27.tr f32
  refine zr_R R32 rfl ?_
  have b34 : ¬ ((1 : Int32) < 0 ∨ 12 ≤ ((1 : Int32)).toNatClampNeg) := fun q => by rw [if_pos q] at hm; cases hm
  rw [if_neg b34] at hm
  refine zr_n ?_
  refine zr_l R32 (by decide) b34 ?_
  refine zr_I R32 rfl ?_
  refine ⟨fun q42 => ?_, fun q42 => ?_⟩
  · rw [if_pos q42] at hm
    cases hm
    exact hQ _ R32 F32
  · rw [if_neg q42] at hm
    refine zr_R R32 rfl ?_
    have b35 : ¬ ((1 : Int32) < 0 ∨ 12 ≤ ((1 : Int32)).toNatClampNeg) := fun q => by rw [if_pos q] at hm; cases hm
    rw [if_neg b35] at hm
    refine zr_n ?_
    refine zr_l R32 (by decide) b35 ?_
    refine zr_R R32 rfl ?_
    have b36 : ¬ ((8 : Int32) < 0 ∨ 12 ≤ ((8 : Int32)).toNatClampNeg) := fun q => by rw [if_pos q] at hm; cases hm
    rw [if_neg b36] at hm
    refine zr_n ?_
    refine zr_l R32 (by decide) b36 ?_
    obtain ⟨⟨x37, s38⟩, o40, hm⟩ := Option.bind_eq_some_iff.mp hm
    try dsimp only [lt1] at hm
    refine zr_O R32 ?_
    refine z_isGood R32 o40 (fun h39 R39 f39 => ?_)
    have F39 := F32.tr f39
    refine ⟨fun q41 => ?_, fun q41 => ?_⟩
    · rw [if_pos q41] at hm
      cases hm
      exact hQ _ R39 F39
    · rw [if_neg q41] at hm
      cases hm
      exact hQ _ R39 F39
set_option maxRecDepth 100000 in
set_option maxHeartbeats 4000000 in
theorem z_debit_I {E : Ev} {a0 : Nat} {ad : Nat → Nat} {s' : MS} {Q : Hp → Prop} {s : MS} {h : Hp} {kc ks : Nat} {xp1 : Int32} (R0 : RepM E h a0 ad s) (hm : M_debit_I s xp1 = some s') (hQ : ∀ h1, RepM E h1 a0 ad s' → xf (FM a0 ad) h h1 → Q h1)   : m_X12_debit E a0 xp1 h kc ks Q := by
  have F0 : xf (FM a0 ad) h h := xf.rf
  unfold M_debit_I at hm
  unfold m_X12_debit
  refine zr_R R0 rfl ?_
  have b1 : ¬ ((1 : Int32) < 0 ∨ 12 ≤ ((1 : Int32)).toNatClampNeg) := fun q => by rw [if_pos q] at hm; cases hm
  rw [if_neg b1] at hm
  refine zr_n ?_
  refine zr_l R0 (by decide) b1 ?_
  refine zr_R R0 rfl ?_
  have b2 : ¬ ((s.2.2.2 17 ((1 : Int32)).toNatClampNeg).toInt32 < 0 ∨ 16 ≤ ((s.2.2.2 17 ((1 : Int32)).toNatClampNeg).toInt32).toNatClampNeg) := fun q => by rw [if_pos q] at hm; cases hm
  rw [if_neg b2] at hm
  refine zr_n ?_
  refine zr_l R0 (by decide) b2 ?_
  refine zr_R R0 rfl ?_
  have b3 : ¬ ((3 : Int32) < 0 ∨ 12 ≤ ((3 : Int32)).toNatClampNeg) := fun q => by rw [if_pos q] at hm; cases hm
  rw [if_neg b3] at hm
  refine zr_n ?_
  refine zr_l R0 (by decide) b3 ?_
  have b4 : ¬ ((s.2.2.2 17 ((1 : Int32)).toNatClampNeg).toInt32 < 0 ∨ 16 ≤ ((s.2.2.2 17 ((1 : Int32)).toNatClampNeg).toInt32).toNatClampNeg) := fun q => by rw [if_pos q] at hm; cases hm
  rw [if_neg b4] at hm
  try dsimp only [lt1] at hm
  refine zr_sl R0 (by decide) b4 (fun h6 R6 f6 => ?_)
  have F6 := F0.tr f6
  obtain ⟨s5, e_s5⟩ : ∃ z, z = mL s 25 ((s.2.2.2 17 ((1 : Int32)).toNatClampNeg).toInt32).toNatClampNeg ((s.2.2.2 25 ((s.2.2.2 17 ((1 : Int32)).toNatClampNeg).toInt32).toNatClampNeg) - (s.2.2.2 17 ((3 : Int32)).toNatClampNeg)) := ⟨_, rfl⟩
  rw [← e_s5] at R6
  try rw [← e_s5] at hm
  refine zr_I R6 rfl ?_
  refine zr_R R6 rfl ?_
  have b7 : ¬ (7 * (s5.1 61) < 0 ∨ 4200 ≤ (7 * (s5.1 61)).toNatClampNeg) := fun q => by rw [if_pos q] at hm; cases hm
  rw [if_neg b7] at hm
  refine zr_n ?_
  try dsimp only [lt1] at hm
  refine zr_sl R6 (by decide) b7 (fun h9 R9 f9 => ?_)
  have F9 := F6.tr f9
  obtain ⟨s8, e_s8⟩ : ∃ z, z = mL s5 62 (7 * (s5.1 61)).toNatClampNeg (((s.2.2.2 17 ((1 : Int32)).toNatClampNeg).toInt32).toInt64) := ⟨_, rfl⟩
  rw [← e_s8] at R9
  try rw [← e_s8] at hm
  refine zr_R R9 rfl ?_
  refine zr_R R9 rfl ?_
  have b10 : ¬ ((2 : Int32) < 0 ∨ 12 ≤ ((2 : Int32)).toNatClampNeg) := fun q => by rw [if_pos q] at hm; cases hm
  rw [if_neg b10] at hm
  refine zr_n ?_
  refine zr_l R9 (by decide) b10 ?_
  have b11 : ¬ ((7 * (s5.1 61)) + 1 < 0 ∨ 4200 ≤ ((7 * (s5.1 61)) + 1).toNatClampNeg) := fun q => by rw [if_pos q] at hm; cases hm
  rw [if_neg b11] at hm
  refine zr_n ?_
  try dsimp only [lt1] at hm
  refine zr_sl R9 (by decide) b11 (fun h13 R13 f13 => ?_)
  have F13 := F9.tr f13
  obtain ⟨s12, e_s12⟩ : ∃ z, z = mL s8 62 ((7 * (s5.1 61)) + 1).toNatClampNeg (s8.2.2.2 17 ((2 : Int32)).toNatClampNeg) := ⟨_, rfl⟩
  rw [← e_s12] at R13
  try rw [← e_s12] at hm
  refine zr_R R13 rfl ?_
  refine zr_R R13 rfl ?_
  have b14 : ¬ ((3 : Int32) < 0 ∨ 12 ≤ ((3 : Int32)).toNatClampNeg) := fun q => by rw [if_pos q] at hm; cases hm
  rw [if_neg b14] at hm
  refine zr_n ?_
  refine zr_l R13 (by decide) b14 ?_
  have b15 : ¬ ((7 * (s5.1 61)) + 2 < 0 ∨ 4200 ≤ ((7 * (s5.1 61)) + 2).toNatClampNeg) := fun q => by rw [if_pos q] at hm; cases hm
  rw [if_neg b15] at hm
  refine zr_n ?_
  try dsimp only [lt1] at hm
  refine zr_sl R13 (by decide) b15 (fun h17 R17 f17 => ?_)
  have F17 := F13.tr f17
  obtain ⟨s16, e_s16⟩ : ∃ z, z = mL s12 62 ((7 * (s5.1 61)) + 2).toNatClampNeg (s12.2.2.2 17 ((3 : Int32)).toNatClampNeg) := ⟨_, rfl⟩
  rw [← e_s16] at R17
  try rw [← e_s16] at hm
  refine zr_R R17 rfl ?_
  refine zr_R R17 rfl ?_
  have b18 : ¬ ((4 : Int32) < 0 ∨ 12 ≤ ((4 : Int32)).toNatClampNeg) := fun q => by rw [if_pos q] at hm; cases hm
  rw [if_neg b18] at hm
  refine zr_n ?_
  refine zr_l R17 (by decide) b18 ?_
  have b19 : ¬ ((7 * (s5.1 61)) + 3 < 0 ∨ 4200 ≤ ((7 * (s5.1 61)) + 3).toNatClampNeg) := fun q => by rw [if_pos q] at hm; cases hm
  rw [if_neg b19] at hm
  refine zr_n ?_
  try dsimp only [lt1] at hm
  refine zr_sl R17 (by decide) b19 (fun h21 R21 f21 => ?_)
  have F21 := F17.tr f21
  obtain ⟨s20, e_s20⟩ : ∃ z, z = mL s16 62 ((7 * (s5.1 61)) + 3).toNatClampNeg (s16.2.2.2 17 ((4 : Int32)).toNatClampNeg) := ⟨_, rfl⟩
  rw [← e_s20] at R21
  try rw [← e_s20] at hm
  refine zr_R R21 rfl ?_
  refine zr_R R21 rfl ?_
  have b22 : ¬ ((5 : Int32) < 0 ∨ 12 ≤ ((5 : Int32)).toNatClampNeg) := fun q => by rw [if_pos q] at hm; cases hm
  rw [if_neg b22] at hm
  refine zr_n ?_
  refine zr_l R21 (by decide) b22 ?_
  have b23 : ¬ ((7 * (s5.1 61)) + 4 < 0 ∨ 4200 ≤ ((7 * (s5.1 61)) + 4).toNatClampNeg) := fun q => by rw [if_pos q] at hm; cases hm
  rw [if_neg b23] at hm
  refine zr_n ?_
  try dsimp only [lt1] at hm
  refine zr_sl R21 (by decide) b23 (fun h25 R25 f25 => ?_)
  have F25 := F21.tr f25
  obtain ⟨s24, e_s24⟩ : ∃ z, z = mL s20 62 ((7 * (s5.1 61)) + 4).toNatClampNeg (s20.2.2.2 17 ((5 : Int32)).toNatClampNeg) := ⟨_, rfl⟩
  rw [← e_s24] at R25
  try rw [← e_s24] at hm
  refine zr_R R25 rfl ?_
  refine zr_R R25 rfl ?_
  have b26 : ¬ ((6 : Int32) < 0 ∨ 12 ≤ ((6 : Int32)).toNatClampNeg) := fun q => by rw [if_pos q] at hm; cases hm
  rw [if_neg b26] at hm
  refine zr_n ?_
  refine zr_l R25 (by decide) b26 ?_
  have b27 : ¬ ((7 * (s5.1 61)) + 5 < 0 ∨ 4200 ≤ ((7 * (s5.1 61)) + 5).toNatClampNeg) := fun q => by rw [if_pos q] at hm; cases hm
  rw [if_neg b27] at hm
  refine zr_n ?_
  try dsimp only [lt1] at hm
  refine zr_sl R25 (by decide) b27 (fun h29 R29 f29 => ?_)
  have F29 := F25.tr f29
  obtain ⟨s28, e_s28⟩ : ∃ z, z = mL s24 62 ((7 * (s5.1 61)) + 5).toNatClampNeg (s24.2.2.2 17 ((6 : Int32)).toNatClampNeg) := ⟨_, rfl⟩
  rw [← e_s28] at R29
  try rw [← e_s28] at hm
  refine zr_R R29 rfl ?_
  have b30 : ¬ ((7 * (s5.1 61)) + 6 < 0 ∨ 4200 ≤ ((7 * (s5.1 61)) + 6).toNatClampNeg) := fun q => by rw [if_pos q] at hm; cases hm
  rw [if_neg b30] at hm
  refine zr_n ?_
  try dsimp only [lt1] at hm
  refine zr_sl R29 (by decide) b30 (fun h32 R32 f32 => ?_)
  have F32 := F29.tr f32
  obtain ⟨s31, e_s31⟩ : ∃ z, z = mL s28 62 ((7 * (s5.1 61)) + 6).toNatClampNeg xp1.toInt64 := ⟨_, rfl⟩
  rw [← e_s31] at R32
  try rw [← e_s31] at hm
  refine zr_I R32 rfl ?_
  try dsimp only [lt1] at hm
  refine zr_pI R32 (by decide) rfl (fun h34 R34 f34 => ?_)
  have F34 := F32.tr f34
  obtain ⟨s33, e_s33⟩ : ∃ z, z = mI s31 61 ((s31.1 61) + 1) := ⟨_, rfl⟩
  rw [← e_s33] at R34
  try rw [← e_s33] at hm
  cases hm
  exact hQ _ R34 F34
set_option maxRecDepth 100000 in
set_option maxHeartbeats 4000000 in
theorem z_toHost_L93 {E : Ev} {a0 : Nat} {ad : Nat → Nat} {r' : Int32} {s' : MS} {K36 : MS → Int32 → Int32 → Option (Int32 × MS)} {J36 : Nat → Int32 → Int32 → Hp → Nat → Nat → Prop} {Q : Int32 → Hp → Prop} {s : MS} {h : Hp} {kc ks : Nat} {xv3 : Int32} {w0 : Int32} (R0 : RepM E h a0 ad s) (hm : M_toHost_L93 s xv3 w0 K36 = some (r', s')) (hK36 : ∀ (s1 : MS) (xv2 : Int32) (xv3 : Int32) (h1 : Hp) (kc1 ks1 : Nat), K36 s1 xv2 xv3 = some (r', s') → RepM E h1 a0 ad s1 → xf (FM a0 ad) h h1 → J36 a0 xv2 xv3 h1 kc1 ks1) (hQ : ∀ h1, RepM E h1 a0 ad s' → xf (FM a0 ad) h h1 → Q r' h1) : m_X12_toHost_L93 E a0 xv3 w0 h kc ks J36 Q := by
  have F0 : xf (FM a0 ad) h h := xf.rf
  unfold M_toHost_L93 at hm
  unfold m_X12_toHost_L93
  exact hK36 _ _ _ _ _ _ hm R0 F0
set_option maxRecDepth 100000 in
set_option maxHeartbeats 4000000 in
theorem z_toHost_L88 {E : Ev} {a0 : Nat} {ad : Nat → Nat} {r' : Int32} {s' : MS} {K36 : MS → Int32 → Int32 → Option (Int32 × MS)} {J36 : Nat → Int32 → Int32 → Hp → Nat → Nat → Prop} {Q : Int32 → Hp → Prop} {s : MS} {h : Hp} {kc ks : Nat} {xv3 : Int32} (R0 : RepM E h a0 ad s) (hm : M_toHost_L88 s xv3 K36 = some (r', s')) (hK36 : ∀ (s1 : MS) (xv2 : Int32) (xv3 : Int32) (h1 : Hp) (kc1 ks1 : Nat), K36 s1 xv2 xv3 = some (r', s') → RepM E h1 a0 ad s1 → xf (FM a0 ad) h h1 → J36 a0 xv2 xv3 h1 kc1 ks1) (hQ : ∀ h1, RepM E h1 a0 ad s' → xf (FM a0 ad) h h1 → Q r' h1) : m_X12_toHost_L88 E a0 xv3 h kc ks J36 Q := by
  have F0 : xf (FM a0 ad) h h := xf.rf
  unfold M_toHost_L88 at hm
  unfold m_X12_toHost_L88
  exact z_toHost_L93 R0 hm (fun u1 v0 v1 g1 kc1 ks1 j1 P1 f1 => hK36 u1 v0 v1 g1 kc1 ks1 j1 P1 (F0.tr f1)) (fun h1 R1 f1 => hQ h1 R1 (F0.tr f1))
set_option maxRecDepth 100000 in
set_option maxHeartbeats 4000000 in
theorem z_toHost_L92 {E : Ev} {a0 : Nat} {ad : Nat → Nat} {r' : Int32} {s' : MS} {K36 : MS → Int32 → Int32 → Option (Int32 × MS)} {J36 : Nat → Int32 → Int32 → Hp → Nat → Nat → Prop} {Q : Int32 → Hp → Prop} {s : MS} {h : Hp} {kc ks : Nat} {xv3 : Int32} (R0 : RepM E h a0 ad s) (hm : M_toHost_L92 s xv3 K36 = some (r', s')) (hK36 : ∀ (s1 : MS) (xv2 : Int32) (xv3 : Int32) (h1 : Hp) (kc1 ks1 : Nat), K36 s1 xv2 xv3 = some (r', s') → RepM E h1 a0 ad s1 → xf (FM a0 ad) h h1 → J36 a0 xv2 xv3 h1 kc1 ks1) (hQ : ∀ h1, RepM E h1 a0 ad s' → xf (FM a0 ad) h h1 → Q r' h1) : m_X12_toHost_L92 E a0 xv3 h kc ks J36 Q := by
  have F0 : xf (FM a0 ad) h h := xf.rf
  unfold M_toHost_L92 at hm
  unfold m_X12_toHost_L92
  exact z_toHost_L93 R0 hm (fun u1 v0 v1 g1 kc1 ks1 j1 P1 f1 => hK36 u1 v0 v1 g1 kc1 ks1 j1 P1 (F0.tr f1)) (fun h1 R1 f1 => hQ h1 R1 (F0.tr f1))
set_option maxRecDepth 100000 in
set_option maxHeartbeats 4000000 in
theorem z_toHost_L36 {E : Ev} {a0 : Nat} {ad : Nat → Nat} {r' : Int32} {s' : MS} {Q : Int32 → Hp → Prop} : ∀ (n : Nat) {s : MS} {h : Hp} {kc ks : Nat} {xv2 : Int32} {xv3 : Int32} (R0 : RepM E h a0 ad s) (hm : M_toHost_L36 n s xv2 xv3 = some (r', s')) (hQ : ∀ h1, RepM E h1 a0 ad s' → xf (FM a0 ad) h h1 → Q r' h1), m_X12_toHost_L36 n E a0 xv2 xv3 h kc ks Q := by
  intro n
  induction n with
  | zero => intro s h kc ks xv2 xv3 R0 hm; cases hm
  | succ n ih =>
    intro s h kc ks xv2 xv3 R0 hm  hQ
    have F0 : xf (FM a0 ad) h h := xf.rf
    unfold M_toHost_L36 at hm
    unfold m_X12_toHost_L36
    refine zr_I R0 rfl ?_
    refine ⟨fun q43 => ?_, fun q43 => ?_⟩
    · rw [if_pos q43] at hm
      refine ⟨fun q35 => ?_, fun q35 => ?_⟩
      · rw [if_pos q35] at hm
        by_cases qz : xv2 = 0 ∨ xv2 = 1
        · rw [if_pos qz] at hm
          cases hm
          exact ⟨qz, hQ _ R0 F0⟩
        · rw [if_neg qz] at hm
          cases hm
      · rw [if_neg q35] at hm
        obtain ⟨s32, o34, hm⟩ := Option.bind_eq_some_iff.mp hm
        refine zr_O R0 ?_
        refine z_debit_I R0 o34 (fun h33 R33 f33 => ?_)
        have F33 := F0.tr f33
        by_cases qz : xv2 = 0 ∨ xv2 = 1
        · rw [if_pos qz] at hm
          cases hm
          exact ⟨qz, hQ _ R33 F33⟩
        · rw [if_neg qz] at hm
          cases hm
    · rw [if_neg q43] at hm
      refine ⟨fun q42 => ?_, fun q42 => ?_⟩
      · rw [if_pos q42] at hm
        exact z_toHost_L92 R0 hm (fun u1 v0 v1 g1 kc1 ks1 j1 P1 f1 => ih P1 j1 (fun h2 R2 f2 => hQ h2 R2 ((F0.tr f1).tr f2))) (fun h1 R1 f1 => hQ h1 R1 (F0.tr f1))
      · rw [if_neg q42] at hm
        refine zr_R R0 rfl ?_
        have b36 : ¬ (7 * xv3 < 0 ∨ 4200 ≤ (7 * xv3).toNatClampNeg) := fun q => by rw [if_pos q] at hm; cases hm
        rw [if_neg b36] at hm
        refine zr_n ?_
        refine zr_l R0 (by decide) b36 ?_
        refine zr_R R0 rfl ?_
        have b37 : ¬ ((1 : Int32) < 0 ∨ 12 ≤ ((1 : Int32)).toNatClampNeg) := fun q => by rw [if_pos q] at hm; cases hm
        rw [if_neg b37] at hm
        refine zr_n ?_
        refine zr_l R0 (by decide) b37 ?_
        refine ⟨fun q41 => ?_, fun q41 => ?_⟩
        · rw [if_pos q41] at hm
          refine zr_R R0 rfl ?_
          have b38 : ¬ ((7 * xv3) + 1 < 0 ∨ 4200 ≤ ((7 * xv3) + 1).toNatClampNeg) := fun q => by rw [if_pos q] at hm; cases hm
          rw [if_neg b38] at hm
          refine zr_n ?_
          refine zr_l R0 (by decide) b38 ?_
          refine zr_R R0 rfl ?_
          have b39 : ¬ ((2 : Int32) < 0 ∨ 12 ≤ ((2 : Int32)).toNatClampNeg) := fun q => by rw [if_pos q] at hm; cases hm
          rw [if_neg b39] at hm
          refine zr_n ?_
          refine zr_l R0 (by decide) b39 ?_
          refine ⟨fun q40 => ?_, fun q40 => ?_⟩
          · rw [if_pos q40] at hm
            exact z_toHost_L92 R0 hm (fun u1 v0 v1 g1 kc1 ks1 j1 P1 f1 => ih P1 j1 (fun h2 R2 f2 => hQ h2 R2 ((F0.tr f1).tr f2))) (fun h1 R1 f1 => hQ h1 R1 (F0.tr f1))
          · rw [if_neg q40] at hm
            exact z_toHost_L88 R0 hm (fun u1 v0 v1 g1 kc1 ks1 j1 P1 f1 => ih P1 j1 (fun h2 R2 f2 => hQ h2 R2 ((F0.tr f1).tr f2))) (fun h1 R1 f1 => hQ h1 R1 (F0.tr f1))
        · rw [if_neg q41] at hm
          exact z_toHost_L88 R0 hm (fun u1 v0 v1 g1 kc1 ks1 j1 P1 f1 => ih P1 j1 (fun h2 R2 f2 => hQ h2 R2 ((F0.tr f1).tr f2))) (fun h1 R1 f1 => hQ h1 R1 (F0.tr f1))
set_option maxRecDepth 100000 in
set_option maxHeartbeats 4000000 in
theorem z_toHost_L218 {E : Ev} {a0 : Nat} {ad : Nat → Nat} {r' : Int32} {s' : MS} {Q : Int32 → Hp → Prop} {s : MS} {h : Hp} {kc ks : Nat} {w0 : Int64} (R0 : RepM E h a0 ad s) (hm : M_toHost_L218 s w0 = some (r', s')) (hQ : ∀ h1, RepM E h1 a0 ad s' → xf (FM a0 ad) h h1 → Q r' h1) : m_X12_toHost_L218 E a0 w0 h kc ks Q := by
  have F0 : xf (FM a0 ad) h h := xf.rf
  unfold M_toHost_L218 at hm
  unfold m_X12_toHost_L218
  refine zr_R R0 rfl ?_
  refine zr_R R0 rfl ?_
  have b50 : ¬ ((1 : Int32) < 0 ∨ 12 ≤ ((1 : Int32)).toNatClampNeg) := fun q => by rw [if_pos q] at hm; cases hm
  rw [if_neg b50] at hm
  refine zr_n ?_
  refine zr_l R0 (by decide) b50 ?_
  have b51 : ¬ ((1 : Int32) < 0 ∨ 12 ≤ ((1 : Int32)).toNatClampNeg) := fun q => by rw [if_pos q] at hm; cases hm
  rw [if_neg b51] at hm
  refine zr_n ?_
  try dsimp only [lt1] at hm
  refine zr_sl R0 (by decide) b51 (fun h53 R53 f53 => ?_)
  have F53 := F0.tr f53
  obtain ⟨s52, e_s52⟩ : ∃ z, z = mL s 18 ((1 : Int32)).toNatClampNeg (s.2.2.2 17 ((1 : Int32)).toNatClampNeg) := ⟨_, rfl⟩
  rw [← e_s52] at R53
  try rw [← e_s52] at hm
  refine zr_R R53 rfl ?_
  refine zr_R R53 rfl ?_
  have b54 : ¬ ((2 : Int32) < 0 ∨ 12 ≤ ((2 : Int32)).toNatClampNeg) := fun q => by rw [if_pos q] at hm; cases hm
  rw [if_neg b54] at hm
  refine zr_n ?_
  refine zr_l R53 (by decide) b54 ?_
  have b55 : ¬ ((2 : Int32) < 0 ∨ 12 ≤ ((2 : Int32)).toNatClampNeg) := fun q => by rw [if_pos q] at hm; cases hm
  rw [if_neg b55] at hm
  refine zr_n ?_
  try dsimp only [lt1] at hm
  refine zr_sl R53 (by decide) b55 (fun h57 R57 f57 => ?_)
  have F57 := F53.tr f57
  obtain ⟨s56, e_s56⟩ : ∃ z, z = mL s52 18 ((2 : Int32)).toNatClampNeg (s52.2.2.2 17 ((2 : Int32)).toNatClampNeg) := ⟨_, rfl⟩
  rw [← e_s56] at R57
  try rw [← e_s56] at hm
  obtain ⟨s59, o61, hm⟩ := Option.bind_eq_some_iff.mp hm
  refine zr_O R57 ?_
  refine z_begin R57 o61 (fun h60 R60 f60 => ?_)
  have F60 := F57.tr f60
  refine zr_R R60 rfl ?_
  have b62 : ¬ ((1 : Int32) < 0 ∨ 12 ≤ ((1 : Int32)).toNatClampNeg) := fun q => by rw [if_pos q] at hm; cases hm
  rw [if_neg b62] at hm
  refine zr_n ?_
  refine zr_l R60 (by decide) b62 ?_
  obtain ⟨s64, o66, hm⟩ := Option.bind_eq_some_iff.mp hm
  refine zr_O R60 ?_
  refine z_more R60 o66 (fun h65 R65 f65 => ?_)
  have F65 := F60.tr f65
  refine zr_R R65 rfl ?_
  have b67 : ¬ ((2 : Int32) < 0 ∨ 12 ≤ ((2 : Int32)).toNatClampNeg) := fun q => by rw [if_pos q] at hm; cases hm
  rw [if_neg b67] at hm
  refine zr_n ?_
  refine zr_l R65 (by decide) b67 ?_
  obtain ⟨s69, o71, hm⟩ := Option.bind_eq_some_iff.mp hm
  refine zr_O R65 ?_
  refine z_more R65 o71 (fun h70 R70 f70 => ?_)
  have F70 := F65.tr f70
  obtain ⟨s73, o75, hm⟩ := Option.bind_eq_some_iff.mp hm
  refine zr_O R70 ?_
  refine z_more R70 o75 (fun h74 R74 f74 => ?_)
  have F74 := F70.tr f74
  refine zr_R R74 rfl ?_
  refine zr_R R74 rfl ?_
  have b76 : ¬ ((1 : Int32) < 0 ∨ 12 ≤ ((1 : Int32)).toNatClampNeg) := fun q => by rw [if_pos q] at hm; cases hm
  rw [if_neg b76] at hm
  refine zr_n ?_
  refine zr_l R74 (by decide) b76 ?_
  obtain ⟨⟨x77, s78⟩, o80, hm⟩ := Option.bind_eq_some_iff.mp hm
  try dsimp only [lt1] at hm
  refine zr_O R74 ?_
  refine z_seal R74 o80 (fun h79 R79 f79 => ?_)
  have F79 := F74.tr f79
  have b81 : ¬ ((8 : Int32) < 0 ∨ 12 ≤ ((8 : Int32)).toNatClampNeg) := fun q => by rw [if_pos q] at hm; cases hm
  rw [if_neg b81] at hm
  refine zr_n ?_
  try dsimp only [lt1] at hm
  refine zr_sl R79 (by decide) b81 (fun h83 R83 f83 => ?_)
  have F83 := F79.tr f83
  obtain ⟨s82, e_s82⟩ : ∃ z, z = mL s78 18 ((8 : Int32)).toNatClampNeg x77.toInt64 := ⟨_, rfl⟩
  rw [← e_s82] at R83
  try rw [← e_s82] at hm
  refine zr_R R83 rfl ?_
  have b84 : ¬ ((3 : Int32) < 0 ∨ 12 ≤ ((3 : Int32)).toNatClampNeg) := fun q => by rw [if_pos q] at hm; cases hm
  rw [if_neg b84] at hm
  refine zr_n ?_
  refine zr_l R83 (by decide) b84 ?_
  obtain ⟨s86, o88, hm⟩ := Option.bind_eq_some_iff.mp hm
  refine zr_O R83 ?_
  refine z_more R83 o88 (fun h87 R87 f87 => ?_)
  have F87 := F83.tr f87
  refine zr_R R87 rfl ?_
  have b89 : ¬ ((10 : Int32) < 0 ∨ 12 ≤ ((10 : Int32)).toNatClampNeg) := fun q => by rw [if_pos q] at hm; cases hm
  rw [if_neg b89] at hm
  refine zr_n ?_
  try dsimp only [lt1] at hm
  refine zr_sl R87 (by decide) b89 (fun h91 R91 f91 => ?_)
  have F91 := F87.tr f91
  obtain ⟨s90, e_s90⟩ : ∃ z, z = mL s86 18 ((10 : Int32)).toNatClampNeg w0 := ⟨_, rfl⟩
  rw [← e_s90] at R91
  try rw [← e_s90] at hm
  refine zr_R R91 rfl ?_
  refine zr_R R91 rfl ?_
  have b92 : ¬ ((5 : Int32) < 0 ∨ 12 ≤ ((5 : Int32)).toNatClampNeg) := fun q => by rw [if_pos q] at hm; cases hm
  rw [if_neg b92] at hm
  refine zr_n ?_
  refine zr_l R91 (by decide) b92 ?_
  obtain ⟨⟨x93, s94⟩, o96, hm⟩ := Option.bind_eq_some_iff.mp hm
  try dsimp only [lt1] at hm
  refine zr_O R91 ?_
  refine z_seal R91 o96 (fun h95 R95 f95 => ?_)
  have F95 := F91.tr f95
  have b97 : ¬ ((11 : Int32) < 0 ∨ 12 ≤ ((11 : Int32)).toNatClampNeg) := fun q => by rw [if_pos q] at hm; cases hm
  rw [if_neg b97] at hm
  refine zr_n ?_
  try dsimp only [lt1] at hm
  refine zr_sl R95 (by decide) b97 (fun h99 R99 f99 => ?_)
  have F99 := F95.tr f99
  obtain ⟨s98, e_s98⟩ : ∃ z, z = mL s94 18 ((11 : Int32)).toNatClampNeg x93.toInt64 := ⟨_, rfl⟩
  rw [← e_s98] at R99
  try rw [← e_s98] at hm
  refine zr_R R99 rfl ?_
  have b100 : ¬ ((5 : Int32) < 0 ∨ 12 ≤ ((5 : Int32)).toNatClampNeg) := fun q => by rw [if_pos q] at hm; cases hm
  rw [if_neg b100] at hm
  refine zr_n ?_
  refine zr_l R99 (by decide) b100 ?_
  obtain ⟨⟨x101, s102⟩, o104, hm⟩ := Option.bind_eq_some_iff.mp hm
  try dsimp only [lt1] at hm
  refine zr_O R99 ?_
  refine z_send R99 o104 (fun h103 R103 f103 => ?_)
  have F103 := F99.tr f103
  cases hm
  exact hQ _ R103 F103
set_option maxRecDepth 100000 in
set_option maxHeartbeats 4000000 in
theorem z_toHost_L209 {E : Ev} {a0 : Nat} {ad : Nat → Nat} {r' : Int32} {s' : MS} {Q : Int32 → Hp → Prop} {s : MS} {h : Hp} {kc ks : Nat} {xv3 : Int32} (R0 : RepM E h a0 ad s) (hm : M_toHost_L209 s xv3 = some (r', s')) (hQ : ∀ h1, RepM E h1 a0 ad s' → xf (FM a0 ad) h h1 → Q r' h1) : m_X12_toHost_L209 E a0 xv3 h kc ks Q := by
  have F0 : xf (FM a0 ad) h h := xf.rf
  unfold M_toHost_L209 at hm
  unfold m_X12_toHost_L209
  refine ⟨fun q44 => ?_, fun q44 => ?_⟩
  · rw [if_pos q44] at hm
    exact z_toHost_L218 R0 hm (fun h1 R1 f1 => hQ h1 R1 (F0.tr f1))
  · rw [if_neg q44] at hm
    exact z_toHost_L218 R0 hm (fun h1 R1 f1 => hQ h1 R1 (F0.tr f1))
set_option maxRecDepth 100000 in
set_option maxHeartbeats 4000000 in
theorem z_toHost_L199 {E : Ev} {a0 : Nat} {ad : Nat → Nat} {r' : Int32} {s' : MS} {Q : Int32 → Hp → Prop} {s : MS} {h : Hp} {kc ks : Nat} {w0 : Int32} (R0 : RepM E h a0 ad s) (hm : M_toHost_L199 s w0 = some (r', s')) (hQ : ∀ h1, RepM E h1 a0 ad s' → xf (FM a0 ad) h h1 → Q r' h1) : m_X12_toHost_L199 E a0 w0 h kc ks Q := by
  have F0 : xf (FM a0 ad) h h := xf.rf
  unfold M_toHost_L199 at hm
  unfold m_X12_toHost_L199
  refine ⟨fun q49 => ?_, fun q49 => ?_⟩
  · rw [if_pos q49] at hm
    exact z_toHost_L209 R0 hm (fun h1 R1 f1 => hQ h1 R1 (F0.tr f1))
  · rw [if_neg q49] at hm
    obtain ⟨s46, o48, hm⟩ := Option.bind_eq_some_iff.mp hm
    refine zr_O R0 ?_
    refine z_debit_I R0 o48 (fun h47 R47 f47 => ?_)
    have F47 := F0.tr f47
    exact z_toHost_L209 R47 hm (fun h1 R1 f1 => hQ h1 R1 (F47.tr f1))
set_option maxRecDepth 100000 in
set_option maxHeartbeats 4000000 in
theorem z_toHost_L147 {E : Ev} {a0 : Nat} {ad : Nat → Nat} {r' : Int32} {s' : MS} {Q : Int32 → Hp → Prop} {s : MS} {h : Hp} {kc ks : Nat} {w0 : Int32} (R0 : RepM E h a0 ad s) (hm : M_toHost_L147 s w0 = some (r', s')) (hQ : ∀ h1, RepM E h1 a0 ad s' → xf (FM a0 ad) h h1 → Q r' h1) : m_X12_toHost_L147 E a0 w0 h kc ks Q := by
  have F0 : xf (FM a0 ad) h h := xf.rf
  unfold M_toHost_L147 at hm
  unfold m_X12_toHost_L147
  refine ⟨fun q30 => ?_, fun q30 => ?_⟩
  · rw [if_pos q30] at hm
    exact z_toHost_L209 R0 hm (fun h1 R1 f1 => hQ h1 R1 (F0.tr f1))
  · rw [if_neg q30] at hm
    refine zr_R R0 rfl ?_
    have b22 : ¬ ((1 : Int32) < 0 ∨ 12 ≤ ((1 : Int32)).toNatClampNeg) := fun q => by rw [if_pos q] at hm; cases hm
    rw [if_neg b22] at hm
    refine zr_n ?_
    refine zr_l R0 (by decide) b22 ?_
    refine zr_R R0 rfl ?_
    refine zr_R R0 rfl ?_
    have b23 : ¬ ((2 : Int32) < 0 ∨ 12 ≤ ((2 : Int32)).toNatClampNeg) := fun q => by rw [if_pos q] at hm; cases hm
    rw [if_neg b23] at hm
    refine zr_n ?_
    refine zr_l R0 (by decide) b23 ?_
    have b24 : ¬ ((s.2.2.2 17 ((1 : Int32)).toNatClampNeg).toInt32 < 0 ∨ 16 ≤ ((s.2.2.2 17 ((1 : Int32)).toNatClampNeg).toInt32).toNatClampNeg) := fun q => by rw [if_pos q] at hm; cases hm
    rw [if_neg b24] at hm
    refine zr_n ?_
    try dsimp only [lt1] at hm
    refine zr_s R0 (n := 16) (by decide) b24 (fun h26 R26 f26 => ?_)
    have F26 := F0.tr f26
    obtain ⟨s25, e_s25⟩ : ∃ z, z = mA s 26 ((s.2.2.2 17 ((1 : Int32)).toNatClampNeg).toInt32).toNatClampNeg ((s.2.2.2 17 ((2 : Int32)).toNatClampNeg).toInt32) := ⟨_, rfl⟩
    rw [← e_s25] at R26
    try rw [← e_s25] at hm
    refine zr_R R26 rfl ?_
    have b27 : ¬ ((s.2.2.2 17 ((1 : Int32)).toNatClampNeg).toInt32 < 0 ∨ 16 ≤ ((s.2.2.2 17 ((1 : Int32)).toNatClampNeg).toInt32).toNatClampNeg) := fun q => by rw [if_pos q] at hm; cases hm
    rw [if_neg b27] at hm
    refine zr_n ?_
    refine zr_l R26 (by decide) b27 ?_
    refine zr_R R26 rfl ?_
    have b28 : ¬ ((3 : Int32) < 0 ∨ 12 ≤ ((3 : Int32)).toNatClampNeg) := fun q => by rw [if_pos q] at hm; cases hm
    rw [if_neg b28] at hm
    refine zr_n ?_
    refine zr_l R26 (by decide) b28 ?_
    refine ⟨fun q29 => ?_, fun q29 => ?_⟩
    · rw [if_pos q29] at hm
      exact z_toHost_L199 R26 hm (fun h1 R1 f1 => hQ h1 R1 (F26.tr f1))
    · rw [if_neg q29] at hm
      exact z_toHost_L199 R26 hm (fun h1 R1 f1 => hQ h1 R1 (F26.tr f1))
set_option maxRecDepth 100000 in
set_option maxHeartbeats 4000000 in
theorem z_toHost_L146 {E : Ev} {a0 : Nat} {ad : Nat → Nat} {r' : Int32} {s' : MS} {Q : Int32 → Hp → Prop} {s : MS} {h : Hp} {kc ks : Nat}  (R0 : RepM E h a0 ad s) (hm : M_toHost_L146 s  = some (r', s')) (hQ : ∀ h1, RepM E h1 a0 ad s' → xf (FM a0 ad) h h1 → Q r' h1) : m_X12_toHost_L146 E a0 h kc ks Q := by
  have F0 : xf (FM a0 ad) h h := xf.rf
  unfold M_toHost_L146 at hm
  unfold m_X12_toHost_L146
  exact z_toHost_L147 R0 hm (fun h1 R1 f1 => hQ h1 R1 (F0.tr f1))
set_option maxRecDepth 100000 in
set_option maxHeartbeats 4000000 in
theorem z_toHost_L12 {E : Ev} {a0 : Nat} {ad : Nat → Nat} {r' : Int32} {s' : MS} {Q : Int32 → Hp → Prop} {s : MS} {h : Hp} {kc ks : Nat} {xv1 : Int32} (R0 : RepM E h a0 ad s) (hm : M_toHost_L12 s xv1 = some (r', s')) (hQ : ∀ h1, RepM E h1 a0 ad s' → xf (FM a0 ad) h h1 → Q r' h1) : m_X12_toHost_L12 E a0 xv1 h kc ks Q := by
  have F0 : xf (FM a0 ad) h h := xf.rf
  unfold M_toHost_L12 at hm
  unfold m_X12_toHost_L12
  obtain ⟨⟨x3, s4⟩, o6, hm⟩ := Option.bind_eq_some_iff.mp hm
  try dsimp only [lt1] at hm
  refine zr_O R0 ?_
  refine z_isSigned R0 o6 (fun h5 R5 f5 => ?_)
  have F5 := F0.tr f5
  refine ⟨fun q21 => ?_, fun q21 => ?_⟩
  · rw [if_pos q21] at hm
    cases hm
    exact hQ _ R5 F5
  · rw [if_neg q21] at hm
    refine ⟨fun q20 => ?_, fun q20 => ?_⟩
    · rw [if_pos q20] at hm
      obtain ⟨⟨x16, s17⟩, o19, hm⟩ := Option.bind_eq_some_iff.mp hm
      try dsimp only [lt1] at hm
      refine zr_O R5 ?_
      refine z_isAnswer R5 o19 (fun h18 R18 f18 => ?_)
      have F18 := F5.tr f18
      refine ⟨mfu, ?_⟩
      exact z_toHost_L36 mfu R18 hm (fun h1 R1 f1 => hQ h1 R1 (F18.tr f1))
    · rw [if_neg q20] at hm
      obtain ⟨⟨x7, s8⟩, o10, hm⟩ := Option.bind_eq_some_iff.mp hm
      try dsimp only [lt1] at hm
      refine zr_O R5 ?_
      refine z_isAnswer R5 o10 (fun h9 R9 f9 => ?_)
      have F9 := F5.tr f9
      refine ⟨fun q15 => ?_, fun q15 => ?_⟩
      · rw [if_pos q15] at hm
        exact z_toHost_L146 R9 hm (fun h1 R1 f1 => hQ h1 R1 (F9.tr f1))
      · rw [if_neg q15] at hm
        refine zr_R R9 rfl ?_
        have b11 : ¬ ((2 : Int32) < 0 ∨ 12 ≤ ((2 : Int32)).toNatClampNeg) := fun q => by rw [if_pos q] at hm; cases hm
        rw [if_neg b11] at hm
        refine zr_n ?_
        refine zr_l R9 (by decide) b11 ?_
        refine zr_R R9 rfl ?_
        refine zr_R R9 rfl ?_
        have b12 : ¬ ((1 : Int32) < 0 ∨ 12 ≤ ((1 : Int32)).toNatClampNeg) := fun q => by rw [if_pos q] at hm; cases hm
        rw [if_neg b12] at hm
        refine zr_n ?_
        refine zr_l R9 (by decide) b12 ?_
        have b13 : ¬ ((s8.2.2.2 17 ((1 : Int32)).toNatClampNeg).toInt32 < 0 ∨ 16 ≤ ((s8.2.2.2 17 ((1 : Int32)).toNatClampNeg).toInt32).toNatClampNeg) := fun q => by rw [if_pos q] at hm; cases hm
        rw [if_neg b13] at hm
        refine zr_n ?_
        refine zr_a R9 (n := 16) (by decide) b13 ?_
        refine ⟨fun q14 => ?_, fun q14 => ?_⟩
        · rw [if_pos q14] at hm
          exact z_toHost_L146 R9 hm (fun h1 R1 f1 => hQ h1 R1 (F9.tr f1))
        · rw [if_neg q14] at hm
          exact z_toHost_L147 R9 hm (fun h1 R1 f1 => hQ h1 R1 (F9.tr f1))
set_option maxRecDepth 100000 in
set_option maxHeartbeats 4000000 in
theorem z_toHost {E : Ev} {a0 : Nat} {ad : Nat → Nat} {r' : Int32} {s' : MS} {Q : Int32 → Hp → Prop} {s : MS} {h : Hp} {kc ks : Nat} {xp1 : Int32} (R0 : RepM E h a0 ad s) (hm : M_toHost s xp1 = some (r', s')) (hQ : ∀ h1, RepM E h1 a0 ad s' → xf (FM a0 ad) h h1 → Q r' h1)   : m_X12_toHost E a0 xp1 h kc ks Q := by
  have F0 : xf (FM a0 ad) h h := xf.rf
  unfold M_toHost at hm
  unfold m_X12_toHost
  refine ⟨fun q2 => ?_, fun q2 => ?_⟩
  · rw [if_pos q2] at hm
    exact z_toHost_L12 R0 hm (fun h1 R1 f1 => hQ h1 R1 (F0.tr f1))
  · rw [if_neg q2] at hm
    refine ⟨fun q1 => ?_, fun q1 => ?_⟩
    · rw [if_pos q1] at hm
      exact z_toHost_L12 R0 hm (fun h1 R1 f1 => hQ h1 R1 (F0.tr f1))
    · rw [if_neg q1] at hm
      cases hm
      exact hQ _ R0 F0
set_option maxRecDepth 100000 in
set_option maxHeartbeats 4000000 in
theorem z_deliver_L154 {E : Ev} {a0 : Nat} {ad : Nat → Nat} {r' : Int32} {s' : MS} {Q : Int32 → Hp → Prop} {s : MS} {h : Hp} {kc ks : Nat} {w0 : Int32} (R0 : RepM E h a0 ad s) (hm : M_deliver_L154 s w0 = some (r', s')) (hQ : ∀ h1, RepM E h1 a0 ad s' → xf (FM a0 ad) h h1 → Q r' h1) : m_X12_deliver_L154 E w0 h kc ks Q := by
  have F0 : xf (FM a0 ad) h h := xf.rf
  unfold M_deliver_L154 at hm
  unfold m_X12_deliver_L154
  refine ⟨fun q48 => ?_, fun q48 => ?_⟩
  · rw [if_pos q48] at hm
    cases hm
    exact hQ _ R0 F0
  · rw [if_neg q48] at hm
    cases hm
    exact hQ _ R0 F0
set_option maxRecDepth 100000 in
set_option maxHeartbeats 4000000 in
theorem z_deliver_L149 {E : Ev} {a0 : Nat} {ad : Nat → Nat} {r' : Int32} {s' : MS} {Q : Int32 → Hp → Prop} {s : MS} {h : Hp} {kc ks : Nat}  (R0 : RepM E h a0 ad s) (hm : M_deliver_L149 s  = some (r', s')) (hQ : ∀ h1, RepM E h1 a0 ad s' → xf (FM a0 ad) h h1 → Q r' h1) : m_X12_deliver_L149 E  h kc ks Q := by
  have F0 : xf (FM a0 ad) h h := xf.rf
  unfold M_deliver_L149 at hm
  unfold m_X12_deliver_L149
  exact z_deliver_L154 R0 hm (fun h1 R1 f1 => hQ h1 R1 (F0.tr f1))
set_option maxRecDepth 100000 in
set_option maxHeartbeats 4000000 in
theorem z_deliver_L153 {E : Ev} {a0 : Nat} {ad : Nat → Nat} {r' : Int32} {s' : MS} {Q : Int32 → Hp → Prop} {s : MS} {h : Hp} {kc ks : Nat}  (R0 : RepM E h a0 ad s) (hm : M_deliver_L153 s  = some (r', s')) (hQ : ∀ h1, RepM E h1 a0 ad s' → xf (FM a0 ad) h h1 → Q r' h1) : m_X12_deliver_L153 E  h kc ks Q := by
  have F0 : xf (FM a0 ad) h h := xf.rf
  unfold M_deliver_L153 at hm
  unfold m_X12_deliver_L153
  exact z_deliver_L154 R0 hm (fun h1 R1 f1 => hQ h1 R1 (F0.tr f1))
set_option maxRecDepth 100000 in
set_option maxHeartbeats 4000000 in
theorem z_deliver_L57 {E : Ev} {a0 : Nat} {ad : Nat → Nat} {r' : Int32} {s' : MS} {Q : Int32 → Hp → Prop} : ∀ (n : Nat) {s : MS} {h : Hp} {kc ks : Nat} {xv1 : Int32} {xv2 : Int32} {xv3 : Int32} {xv4 : Int32} (R0 : RepM E h a0 ad s) (hm : M_deliver_L57 n s xv1 xv2 xv3 xv4 = some (r', s')) (hQ : ∀ h1, RepM E h1 a0 ad s' → xf (FM a0 ad) h h1 → Q r' h1), m_X12_deliver_L57 n E a0 xv1 xv2 xv3 xv4 h kc ks Q := by
  intro n
  induction n with
  | zero => intro s h kc ks xv1 xv2 xv3 xv4 R0 hm; cases hm
  | succ n ih =>
    intro s h kc ks xv1 xv2 xv3 xv4 R0 hm  hQ
    have F0 : xf (FM a0 ad) h h := xf.rf
    unfold M_deliver_L57 at hm
    unfold m_X12_deliver_L57
    refine ⟨fun q47 => ?_, fun q47 => ?_⟩
    · rw [if_pos q47] at hm
      obtain ⟨s18, o20, hm⟩ := Option.bind_eq_some_iff.mp hm
      refine zr_O R0 ?_
      refine z_remove R0 o20 (fun h19 R19 f19 => ?_)
      have F19 := F0.tr f19
      obtain ⟨⟨x21, s22⟩, o24, hm⟩ := Option.bind_eq_some_iff.mp hm
      try dsimp only [lt1] at hm
      refine zr_O R19 ?_
      refine z_read R19 o24 (fun h23 R23 f23 => ?_)
      have F23 := F19.tr f23
      refine ⟨fun q42 => ?_, fun q42 => ?_⟩
      · rw [if_pos q42] at hm
        exact z_deliver_L153 R23 hm (fun h1 R1 f1 => hQ h1 R1 (F23.tr f1))
      · rw [if_neg q42] at hm
        refine ⟨fun q41 => ?_, fun q41 => ?_⟩
        · rw [if_pos q41] at hm
          obtain ⟨⟨x36, s37⟩, o39, hm⟩ := Option.bind_eq_some_iff.mp hm
          try dsimp only [lt1] at hm
          refine zr_O R23 ?_
          refine z_toCard R23 o39 (fun h38 R38 f38 => ?_)
          have F38 := F23.tr f38
          refine ⟨fun q40 => ?_, fun q40 => ?_⟩
          · rw [if_pos q40] at hm
            exact z_deliver_L153 R38 hm (fun h1 R1 f1 => hQ h1 R1 (F38.tr f1))
          · rw [if_neg q40] at hm
            exact z_deliver_L149 R38 hm (fun h1 R1 f1 => hQ h1 R1 (F38.tr f1))
        · rw [if_neg q41] at hm
          refine ⟨fun q35 => ?_, fun q35 => ?_⟩
          · rw [if_pos q35] at hm
            obtain ⟨⟨x30, s31⟩, o33, hm⟩ := Option.bind_eq_some_iff.mp hm
            try dsimp only [lt1] at hm
            refine zr_O R23 ?_
            refine z_toTerminal R23 o33 (fun h32 R32 f32 => ?_)
            have F32 := F23.tr f32
            refine ⟨fun q34 => ?_, fun q34 => ?_⟩
            · rw [if_pos q34] at hm
              exact z_deliver_L153 R32 hm (fun h1 R1 f1 => hQ h1 R1 (F32.tr f1))
            · rw [if_neg q34] at hm
              exact z_deliver_L149 R32 hm (fun h1 R1 f1 => hQ h1 R1 (F32.tr f1))
          · rw [if_neg q35] at hm
            obtain ⟨⟨x25, s26⟩, o28, hm⟩ := Option.bind_eq_some_iff.mp hm
            try dsimp only [lt1] at hm
            refine zr_O R23 ?_
            refine z_toHost R23 o28 (fun h27 R27 f27 => ?_)
            have F27 := F23.tr f27
            refine ⟨fun q29 => ?_, fun q29 => ?_⟩
            · rw [if_pos q29] at hm
              exact z_deliver_L153 R27 hm (fun h1 R1 f1 => hQ h1 R1 (F27.tr f1))
            · rw [if_neg q29] at hm
              exact z_deliver_L149 R27 hm (fun h1 R1 f1 => hQ h1 R1 (F27.tr f1))
    · rw [if_neg q47] at hm
      refine zr_R R0 rfl ?_
      refine zr_R R0 rfl ?_
      have b43 : ¬ ((64 * xv1) + xv4 < 0 ∨ 3840 ≤ ((64 * xv1) + xv4).toNatClampNeg) := fun q => by rw [if_pos q] at hm; cases hm
      rw [if_neg b43] at hm
      refine zr_n ?_
      refine zr_a R0 (n := 3840) (by decide) b43 ?_
      have b44 : ¬ (xv4 < 0 ∨ 64 ≤ (xv4).toNatClampNeg) := fun q => by rw [if_pos q] at hm; cases hm
      rw [if_neg b44] at hm
      refine zr_n ?_
      try dsimp only [lt1] at hm
      refine zr_s R0 (n := 64) (by decide) b44 (fun h46 R46 f46 => ?_)
      have F46 := F0.tr f46
      obtain ⟨s45, e_s45⟩ : ∃ z, z = mA s 15 (xv4).toNatClampNeg (s.2.2.1 12 ((64 * xv1) + xv4).toNatClampNeg) := ⟨_, rfl⟩
      rw [← e_s45] at R46
      try rw [← e_s45] at hm
      exact ih R46 hm (fun h1 R1 f1 => hQ h1 R1 (F46.tr f1))
set_option maxRecDepth 100000 in
set_option maxHeartbeats 4000000 in
theorem z_deliver {E : Ev} {a0 : Nat} {ad : Nat → Nat} {r' : Int32} {s' : MS} {Q : Int32 → Hp → Prop} {s : MS} {h : Hp} {kc ks : Nat} {xp1 : Int32} (R0 : RepM E h a0 ad s) (hm : M_deliver s xp1 = some (r', s')) (hQ : ∀ h1, RepM E h1 a0 ad s' → xf (FM a0 ad) h h1 → Q r' h1)   : m_X12_deliver E a0 xp1 h kc ks Q := by
  have F0 : xf (FM a0 ad) h h := xf.rf
  unfold M_deliver at hm
  unfold m_X12_deliver
  obtain ⟨⟨x1, s2⟩, o4, hm⟩ := Option.bind_eq_some_iff.mp hm
  try dsimp only [lt1] at hm
  refine zr_O R0 ?_
  refine z_isMessage R0 o4 (fun h3 R3 f3 => ?_)
  have F3 := F0.tr f3
  refine ⟨fun q16 => ?_, fun q16 => ?_⟩
  · rw [if_pos q16] at hm
    cases hm
    exact hQ _ R3 F3
  · rw [if_neg q16] at hm
    refine zr_R R3 rfl ?_
    have b5 : ¬ (xp1 < 0 ∨ 60 ≤ (xp1).toNatClampNeg) := fun q => by rw [if_pos q] at hm; cases hm
    rw [if_neg b5] at hm
    refine zr_n ?_
    refine zr_a R3 (n := 60) (by decide) b5 ?_
    refine zr_R R3 rfl ?_
    have b6 : ¬ (xp1 < 0 ∨ 60 ≤ (xp1).toNatClampNeg) := fun q => by rw [if_pos q] at hm; cases hm
    rw [if_neg b6] at hm
    refine zr_n ?_
    refine zr_a R3 (n := 60) (by decide) b6 ?_
    refine zr_R R3 rfl ?_
    have b7 : ¬ (xp1 < 0 ∨ 60 ≤ (xp1).toNatClampNeg) := fun q => by rw [if_pos q] at hm; cases hm
    rw [if_neg b7] at hm
    refine zr_n ?_
    refine zr_a R3 (n := 60) (by decide) b7 ?_
    try dsimp only [lt1] at hm
    refine zr_pI R3 (by decide) rfl (fun h9 R9 f9 => ?_)
    have F9 := F3.tr f9
    obtain ⟨s8, e_s8⟩ : ∃ z, z = mI s2 13 (s2.2.2.1 7 (xp1).toNatClampNeg) := ⟨_, rfl⟩
    rw [← e_s8] at R9
    try rw [← e_s8] at hm
    refine zr_R R9 rfl ?_
    have b10 : ¬ (xp1 < 0 ∨ 60 ≤ (xp1).toNatClampNeg) := fun q => by rw [if_pos q] at hm; cases hm
    rw [if_neg b10] at hm
    refine zr_n ?_
    refine zr_a R9 (n := 60) (by decide) b10 ?_
    try dsimp only [lt1] at hm
    refine zr_pI R9 (by decide) rfl (fun h12 R12 f12 => ?_)
    have F12 := F9.tr f12
    obtain ⟨s11, e_s11⟩ : ∃ z, z = mI s8 14 (s8.2.2.1 8 (xp1).toNatClampNeg) := ⟨_, rfl⟩
    rw [← e_s11] at R12
    try rw [← e_s11] at hm
    refine zr_R R12 rfl ?_
    have b13 : ¬ (xp1 < 0 ∨ 60 ≤ (xp1).toNatClampNeg) := fun q => by rw [if_pos q] at hm; cases hm
    rw [if_neg b13] at hm
    refine zr_n ?_
    refine zr_a R12 (n := 60) (by decide) b13 ?_
    try dsimp only [lt1] at hm
    refine zr_pI R12 (by decide) rfl (fun h15 R15 f15 => ?_)
    have F15 := F12.tr f15
    obtain ⟨s14, e_s14⟩ : ∃ z, z = mI s11 16 (s11.2.2.1 11 (xp1).toNatClampNeg) := ⟨_, rfl⟩
    rw [← e_s14] at R15
    try rw [← e_s14] at hm
    refine ⟨mfu, ?_⟩
    exact z_deliver_L57 mfu R15 hm (fun h1 R1 f1 => hQ h1 R1 (F15.tr f1))
set_option maxRecDepth 100000 in
set_option maxHeartbeats 4000000 in
theorem z_card {E : Ev} {a0 : Nat} {ad : Nat → Nat} {r' : Int32} {s' : MS} {Q : Int32 → Hp → Prop} {s : MS} {h : Hp} {kc ks : Nat} {xp1 : Int32} {yp2 : Int64} {xp4 : Int32} {yp5 : Int64} (R0 : RepM E h a0 ad s) (hm : M_card s xp1 yp2 xp4 yp5 = some (r', s')) (hQ : ∀ h1, RepM E h1 a0 ad s' → xf (FM a0 ad) h h1 → Q r' h1)   : m_X12_card E a0 xp1 yp2 xp4 yp5 h kc ks Q := by
  have F0 : xf (FM a0 ad) h h := xf.rf
  unfold M_card at hm
  unfold m_X12_card
  refine zr_I R0 rfl ?_
  refine ⟨fun q41 => ?_, fun q41 => ?_⟩
  · rw [if_pos q41] at hm
    cases hm
    exact hQ _ R0 F0
  · rw [if_neg q41] at hm
    obtain ⟨⟨x1, s2⟩, o4, hm⟩ := Option.bind_eq_some_iff.mp hm
    try dsimp only [lt1] at hm
    refine z_isIn R0 o4 (fun h3 R3 f3 => ?_)
    have F3 := F0.tr f3
    refine ⟨fun q40 => ?_, fun q40 => ?_⟩
    · rw [if_pos q40] at hm
      cases hm
      exact hQ _ R3 F3
    · rw [if_neg q40] at hm
      obtain ⟨⟨x5, s6⟩, o8, hm⟩ := Option.bind_eq_some_iff.mp hm
      try dsimp only [lt1] at hm
      refine z_isIn R3 o8 (fun h7 R7 f7 => ?_)
      have F7 := F3.tr f7
      refine ⟨fun q39 => ?_, fun q39 => ?_⟩
      · rw [if_pos q39] at hm
        cases hm
        exact hQ _ R7 F7
      · rw [if_neg q39] at hm
        obtain ⟨⟨x9, s10⟩, o12, hm⟩ := Option.bind_eq_some_iff.mp hm
        try dsimp only [lt1] at hm
        refine z_isIn R7 o12 (fun h11 R11 f11 => ?_)
        have F11 := F7.tr f11
        refine ⟨fun q38 => ?_, fun q38 => ?_⟩
        · rw [if_pos q38] at hm
          cases hm
          exact hQ _ R11 F11
        · rw [if_neg q38] at hm
          obtain ⟨⟨x13, s14⟩, o16, hm⟩ := Option.bind_eq_some_iff.mp hm
          try dsimp only [lt1] at hm
          refine z_isIn R11 o16 (fun h15 R15 f15 => ?_)
          have F15 := F11.tr f15
          refine ⟨fun q37 => ?_, fun q37 => ?_⟩
          · rw [if_pos q37] at hm
            cases hm
            exact hQ _ R15 F15
          · rw [if_neg q37] at hm
            refine zr_R R15 rfl ?_
            refine zr_I R15 rfl ?_
            have b17 : ¬ (s14.1 21 < 0 ∨ 16 ≤ (s14.1 21).toNatClampNeg) := fun q => by rw [if_pos q] at hm; cases hm
            rw [if_neg b17] at hm
            refine zr_n ?_
            try dsimp only [lt1] at hm
            refine zr_s R15 (n := 16) (by decide) b17 (fun h19 R19 f19 => ?_)
            have F19 := F15.tr f19
            obtain ⟨s18, e_s18⟩ : ∃ z, z = mA s14 22 (s14.1 21).toNatClampNeg xp1 := ⟨_, rfl⟩
            rw [← e_s18] at R19
            try rw [← e_s18] at hm
            refine zr_R R19 rfl ?_
            refine zr_I R19 rfl ?_
            have b20 : ¬ (s18.1 21 < 0 ∨ 16 ≤ (s18.1 21).toNatClampNeg) := fun q => by rw [if_pos q] at hm; cases hm
            rw [if_neg b20] at hm
            refine zr_n ?_
            try dsimp only [lt1] at hm
            refine zr_sl R19 (by decide) b20 (fun h22 R22 f22 => ?_)
            have F22 := F19.tr f22
            obtain ⟨s21, e_s21⟩ : ∃ z, z = mL s18 23 (s18.1 21).toNatClampNeg yp2 := ⟨_, rfl⟩
            rw [← e_s21] at R22
            try rw [← e_s21] at hm
            refine zr_R R22 rfl ?_
            refine zr_I R22 rfl ?_
            have b23 : ¬ (s21.1 21 < 0 ∨ 16 ≤ (s21.1 21).toNatClampNeg) := fun q => by rw [if_pos q] at hm; cases hm
            rw [if_neg b23] at hm
            refine zr_n ?_
            try dsimp only [lt1] at hm
            refine zr_s R22 (n := 16) (by decide) b23 (fun h25 R25 f25 => ?_)
            have F25 := F22.tr f25
            obtain ⟨s24, e_s24⟩ : ∃ z, z = mA s21 24 (s21.1 21).toNatClampNeg xp4 := ⟨_, rfl⟩
            rw [← e_s24] at R25
            try rw [← e_s24] at hm
            refine zr_R R25 rfl ?_
            refine zr_I R25 rfl ?_
            have b26 : ¬ (s24.1 21 < 0 ∨ 16 ≤ (s24.1 21).toNatClampNeg) := fun q => by rw [if_pos q] at hm; cases hm
            rw [if_neg b26] at hm
            refine zr_n ?_
            try dsimp only [lt1] at hm
            refine zr_sl R25 (by decide) b26 (fun h28 R28 f28 => ?_)
            have F28 := F25.tr f28
            obtain ⟨s27, e_s27⟩ : ∃ z, z = mL s24 25 (s24.1 21).toNatClampNeg yp5 := ⟨_, rfl⟩
            rw [← e_s27] at R28
            try rw [← e_s27] at hm
            refine zr_R R28 rfl ?_
            refine zr_I R28 rfl ?_
            have b29 : ¬ (s27.1 21 < 0 ∨ 16 ≤ (s27.1 21).toNatClampNeg) := fun q => by rw [if_pos q] at hm; cases hm
            rw [if_neg b29] at hm
            refine zr_n ?_
            try dsimp only [lt1] at hm
            refine zr_s R28 (n := 16) (by decide) b29 (fun h31 R31 f31 => ?_)
            have F31 := F28.tr f31
            obtain ⟨s30, e_s30⟩ : ∃ z, z = mA s27 28 (s27.1 21).toNatClampNeg 3 := ⟨_, rfl⟩
            rw [← e_s30] at R31
            try rw [← e_s30] at hm
            refine zr_R R31 rfl ?_
            refine zr_I R31 rfl ?_
            have b32 : ¬ (s30.1 21 < 0 ∨ 16 ≤ (s30.1 21).toNatClampNeg) := fun q => by rw [if_pos q] at hm; cases hm
            rw [if_neg b32] at hm
            refine zr_n ?_
            try dsimp only [lt1] at hm
            refine zr_s R31 (n := 16) (by decide) b32 (fun h34 R34 f34 => ?_)
            have F34 := F31.tr f34
            obtain ⟨s33, e_s33⟩ : ∃ z, z = mA s30 35 (s30.1 21).toNatClampNeg (-1) := ⟨_, rfl⟩
            rw [← e_s33] at R34
            try rw [← e_s33] at hm
            refine zr_I R34 rfl ?_
            try dsimp only [lt1] at hm
            refine zr_pI R34 (by decide) rfl (fun h36 R36 f36 => ?_)
            have F36 := F34.tr f36
            obtain ⟨s35, e_s35⟩ : ∃ z, z = mI s33 21 ((s33.1 21) + 1) := ⟨_, rfl⟩
            rw [← e_s35] at R36
            try rw [← e_s35] at hm
            refine zr_I R36 rfl ?_
            cases hm
            exact hQ _ R36 F36
set_option maxRecDepth 100000 in
set_option maxHeartbeats 4000000 in
theorem z_terminal {E : Ev} {a0 : Nat} {ad : Nat → Nat} {r' : Int32} {s' : MS} {Q : Int32 → Hp → Prop} {s : MS} {h : Hp} {kc ks : Nat} {yp1 : Int64} {yp3 : Int64} (R0 : RepM E h a0 ad s) (hm : M_terminal s yp1 yp3 = some (r', s')) (hQ : ∀ h1, RepM E h1 a0 ad s' → xf (FM a0 ad) h h1 → Q r' h1)   : m_X12_terminal E a0 yp1 yp3 h kc ks Q := by
  have F0 : xf (FM a0 ad) h h := xf.rf
  unfold M_terminal at hm
  unfold m_X12_terminal
  refine zr_I R0 rfl ?_
  refine ⟨fun q22 => ?_, fun q22 => ?_⟩
  · rw [if_pos q22] at hm
    cases hm
    exact hQ _ R0 F0
  · rw [if_neg q22] at hm
    obtain ⟨⟨x1, s2⟩, o4, hm⟩ := Option.bind_eq_some_iff.mp hm
    try dsimp only [lt1] at hm
    refine z_isIn R0 o4 (fun h3 R3 f3 => ?_)
    have F3 := F0.tr f3
    refine ⟨fun q21 => ?_, fun q21 => ?_⟩
    · rw [if_pos q21] at hm
      cases hm
      exact hQ _ R3 F3
    · rw [if_neg q21] at hm
      obtain ⟨⟨x5, s6⟩, o8, hm⟩ := Option.bind_eq_some_iff.mp hm
      try dsimp only [lt1] at hm
      refine z_isIn R3 o8 (fun h7 R7 f7 => ?_)
      have F7 := F3.tr f7
      refine ⟨fun q20 => ?_, fun q20 => ?_⟩
      · rw [if_pos q20] at hm
        cases hm
        exact hQ _ R7 F7
      · rw [if_neg q20] at hm
        refine zr_R R7 rfl ?_
        refine zr_I R7 rfl ?_
        have b9 : ¬ (s6.1 36 < 0 ∨ 8 ≤ (s6.1 36).toNatClampNeg) := fun q => by rw [if_pos q] at hm; cases hm
        rw [if_neg b9] at hm
        refine zr_n ?_
        try dsimp only [lt1] at hm
        refine zr_sl R7 (by decide) b9 (fun h11 R11 f11 => ?_)
        have F11 := F7.tr f11
        obtain ⟨s10, e_s10⟩ : ∃ z, z = mL s6 37 (s6.1 36).toNatClampNeg yp1 := ⟨_, rfl⟩
        rw [← e_s10] at R11
        try rw [← e_s10] at hm
        refine zr_R R11 rfl ?_
        refine zr_I R11 rfl ?_
        have b12 : ¬ (s10.1 36 < 0 ∨ 8 ≤ (s10.1 36).toNatClampNeg) := fun q => by rw [if_pos q] at hm; cases hm
        rw [if_neg b12] at hm
        refine zr_n ?_
        try dsimp only [lt1] at hm
        refine zr_sl R11 (by decide) b12 (fun h14 R14 f14 => ?_)
        have F14 := F11.tr f14
        obtain ⟨s13, e_s13⟩ : ∃ z, z = mL s10 38 (s10.1 36).toNatClampNeg yp3 := ⟨_, rfl⟩
        rw [← e_s13] at R14
        try rw [← e_s13] at hm
        refine zr_R R14 rfl ?_
        refine zr_I R14 rfl ?_
        refine zr_I R14 rfl ?_
        have b15 : ¬ (s13.1 36 < 0 ∨ 8 ≤ (s13.1 36).toNatClampNeg) := fun q => by rw [if_pos q] at hm; cases hm
        rw [if_neg b15] at hm
        refine zr_n ?_
        try dsimp only [lt1] at hm
        refine zr_sl R14 (by decide) b15 (fun h17 R17 f17 => ?_)
        have F17 := F14.tr f17
        obtain ⟨s16, e_s16⟩ : ∃ z, z = mL s13 39 (s13.1 36).toNatClampNeg (12345 + ((s13.1 36).toInt64)) := ⟨_, rfl⟩
        rw [← e_s16] at R17
        try rw [← e_s16] at hm
        refine zr_I R17 rfl ?_
        try dsimp only [lt1] at hm
        refine zr_pI R17 (by decide) rfl (fun h19 R19 f19 => ?_)
        have F19 := F17.tr f19
        obtain ⟨s18, e_s18⟩ : ∃ z, z = mI s16 36 ((s16.1 36) + 1) := ⟨_, rfl⟩
        rw [← e_s18] at R19
        try rw [← e_s18] at hm
        refine zr_I R19 rfl ?_
        cases hm
        exact hQ _ R19 F19
set_option maxRecDepth 100000 in
set_option maxHeartbeats 4000000 in
theorem z_purchase {E : Ev} {a0 : Nat} {ad : Nat → Nat} {r' : Int32} {s' : MS} {Q : Int32 → Hp → Prop} {s : MS} {h : Hp} {kc ks : Nat} {xp1 : Int32} {xp2 : Int32} {yp3 : Int64} {xp5 : Int32} (R0 : RepM E h a0 ad s) (hm : M_purchase s xp1 xp2 yp3 xp5 = some (r', s')) (hQ : ∀ h1, RepM E h1 a0 ad s' → xf (FM a0 ad) h h1 → Q r' h1)   : m_X12_purchase E a0 xp1 xp2 yp3 xp5 h kc ks Q := by
  have F0 : xf (FM a0 ad) h h := xf.rf
  unfold M_purchase at hm
  unfold m_X12_purchase
  refine ⟨fun q56 => ?_, fun q56 => ?_⟩
  · rw [if_pos q56] at hm
    cases hm
    exact hQ _ R0 F0
  · rw [if_neg q56] at hm
    refine zr_I R0 rfl ?_
    refine ⟨fun q55 => ?_, fun q55 => ?_⟩
    · rw [if_pos q55] at hm
      cases hm
      exact hQ _ R0 F0
    · rw [if_neg q55] at hm
      refine ⟨fun q54 => ?_, fun q54 => ?_⟩
      · rw [if_pos q54] at hm
        cases hm
        exact hQ _ R0 F0
      · rw [if_neg q54] at hm
        refine zr_I R0 rfl ?_
        refine ⟨fun q53 => ?_, fun q53 => ?_⟩
        · rw [if_pos q53] at hm
          cases hm
          exact hQ _ R0 F0
        · rw [if_neg q53] at hm
          obtain ⟨⟨x1, s2⟩, o4, hm⟩ := Option.bind_eq_some_iff.mp hm
          try dsimp only [lt1] at hm
          refine z_isIn R0 o4 (fun h3 R3 f3 => ?_)
          have F3 := F0.tr f3
          refine ⟨fun q52 => ?_, fun q52 => ?_⟩
          · rw [if_pos q52] at hm
            cases hm
            exact hQ _ R3 F3
          · rw [if_neg q52] at hm
            obtain ⟨⟨x5, s6⟩, o8, hm⟩ := Option.bind_eq_some_iff.mp hm
            try dsimp only [lt1] at hm
            refine z_isIn R3 o8 (fun h7 R7 f7 => ?_)
            have F7 := F3.tr f7
            refine ⟨fun q51 => ?_, fun q51 => ?_⟩
            · rw [if_pos q51] at hm
              cases hm
              exact hQ _ R7 F7
            · rw [if_neg q51] at hm
              refine zr_R R7 rfl ?_
              refine zr_R R7 rfl ?_
              have b9 : ¬ (xp1 < 0 ∨ 8 ≤ (xp1).toNatClampNeg) := fun q => by rw [if_pos q] at hm; cases hm
              rw [if_neg b9] at hm
              refine zr_n ?_
              refine zr_l R7 (by decide) b9 ?_
              intro y10 e_y10
              try dsimp only [lt1] at hm
              try rw [← e_y10] at hm
              have b11 : ¬ (xp1 < 0 ∨ 8 ≤ (xp1).toNatClampNeg) := fun q => by rw [if_pos q] at hm; cases hm
              rw [if_neg b11] at hm
              refine zr_n ?_
              try dsimp only [lt1] at hm
              refine zr_sl R7 (by decide) b11 (fun h13 R13 f13 => ?_)
              have F13 := F7.tr f13
              obtain ⟨s12, e_s12⟩ : ∃ z, z = mL s6 39 (xp1).toNatClampNeg y10 := ⟨_, rfl⟩
              rw [← e_s12] at R13
              try rw [← e_s12] at hm
              refine zr_R R13 rfl ?_
              have b14 : ¬ (xp1 < 0 ∨ 8 ≤ (xp1).toNatClampNeg) := fun q => by rw [if_pos q] at hm; cases hm
              rw [if_neg b14] at hm
              refine zr_n ?_
              try dsimp only [lt1] at hm
              refine zr_s R13 (n := 8) (by decide) b14 (fun h16 R16 f16 => ?_)
              have F16 := F13.tr f16
              obtain ⟨s15, e_s15⟩ : ∃ z, z = mA s12 40 (xp1).toNatClampNeg 0 := ⟨_, rfl⟩
              rw [← e_s15] at R16
              try rw [← e_s15] at hm
              refine zr_R R16 rfl ?_
              refine zr_R R16 rfl ?_
              have b17 : ¬ (xp1 < 0 ∨ 8 ≤ (xp1).toNatClampNeg) := fun q => by rw [if_pos q] at hm; cases hm
              rw [if_neg b17] at hm
              refine zr_n ?_
              refine zr_l R16 (by decide) b17 ?_
              have b18 : ¬ (xp1 < 0 ∨ 8 ≤ (xp1).toNatClampNeg) := fun q => by rw [if_pos q] at hm; cases hm
              rw [if_neg b18] at hm
              refine zr_n ?_
              try dsimp only [lt1] at hm
              refine zr_sl R16 (by decide) b18 (fun h20 R20 f20 => ?_)
              have F20 := F16.tr f20
              obtain ⟨s19, e_s19⟩ : ∃ z, z = mL s15 45 (xp1).toNatClampNeg (s15.2.2.2 39 (xp1).toNatClampNeg) := ⟨_, rfl⟩
              rw [← e_s19] at R20
              try rw [← e_s19] at hm
              refine zr_R R20 rfl ?_
              have b21 : ¬ (xp1 < 0 ∨ 8 ≤ (xp1).toNatClampNeg) := fun q => by rw [if_pos q] at hm; cases hm
              rw [if_neg b21] at hm
              refine zr_n ?_
              try dsimp only [lt1] at hm
              refine zr_sl R20 (by decide) b21 (fun h23 R23 f23 => ?_)
              have F23 := F20.tr f23
              obtain ⟨s22, e_s22⟩ : ∃ z, z = mL s19 44 (xp1).toNatClampNeg yp3 := ⟨_, rfl⟩
              rw [← e_s22] at R23
              try rw [← e_s22] at hm
              refine zr_R R23 rfl ?_
              have b24 : ¬ (xp1 < 0 ∨ 8 ≤ (xp1).toNatClampNeg) := fun q => by rw [if_pos q] at hm; cases hm
              rw [if_neg b24] at hm
              refine zr_n ?_
              try dsimp only [lt1] at hm
              refine zr_s R23 (n := 8) (by decide) b24 (fun h26 R26 f26 => ?_)
              have F26 := F23.tr f26
              obtain ⟨s25, e_s25⟩ : ∃ z, z = mA s22 46 (xp1).toNatClampNeg xp5 := ⟨_, rfl⟩
              rw [← e_s25] at R26
              try rw [← e_s25] at hm
              refine zr_R R26 rfl ?_
              have b27 : ¬ (xp1 < 0 ∨ 8 ≤ (xp1).toNatClampNeg) := fun q => by rw [if_pos q] at hm; cases hm
              rw [if_neg b27] at hm
              refine zr_n ?_
              try dsimp only [lt1] at hm
              refine zr_s R26 (n := 8) (by decide) b27 (fun h29 R29 f29 => ?_)
              have F29 := F26.tr f29
              obtain ⟨s28, e_s28⟩ : ∃ z, z = mA s25 43 (xp1).toNatClampNeg xp2 := ⟨_, rfl⟩
              rw [← e_s28] at R29
              try rw [← e_s28] at hm
              refine zr_R R29 rfl ?_
              refine zr_I R29 rfl ?_
              have b30 : ¬ (3 * (s28.1 57) < 0 ∨ 1800 ≤ (3 * (s28.1 57)).toNatClampNeg) := fun q => by rw [if_pos q] at hm; cases hm
              rw [if_neg b30] at hm
              refine zr_n ?_
              try dsimp only [lt1] at hm
              refine zr_sl R29 (by decide) b30 (fun h32 R32 f32 => ?_)
              have F32 := F29.tr f32
              obtain ⟨s31, e_s31⟩ : ∃ z, z = mL s28 58 (3 * (s28.1 57)).toNatClampNeg xp1.toInt64 := ⟨_, rfl⟩
              rw [← e_s31] at R32
              try rw [← e_s31] at hm
              refine zr_R R32 rfl ?_
              refine zr_I R32 rfl ?_
              have b33 : ¬ ((3 * (s31.1 57)) + 1 < 0 ∨ 1800 ≤ ((3 * (s31.1 57)) + 1).toNatClampNeg) := fun q => by rw [if_pos q] at hm; cases hm
              rw [if_neg b33] at hm
              refine zr_n ?_
              try dsimp only [lt1] at hm
              refine zr_sl R32 (by decide) b33 (fun h35 R35 f35 => ?_)
              have F35 := F32.tr f35
              obtain ⟨s34, e_s34⟩ : ∃ z, z = mL s31 58 ((3 * (s31.1 57)) + 1).toNatClampNeg yp3 := ⟨_, rfl⟩
              rw [← e_s34] at R35
              try rw [← e_s34] at hm
              refine zr_R R35 rfl ?_
              refine zr_I R35 rfl ?_
              refine zr_R R35 rfl ?_
              have b36 : ¬ (xp1 < 0 ∨ 8 ≤ (xp1).toNatClampNeg) := fun q => by rw [if_pos q] at hm; cases hm
              rw [if_neg b36] at hm
              refine zr_n ?_
              refine zr_l R35 (by decide) b36 ?_
              have b37 : ¬ ((3 * (s34.1 57)) + 2 < 0 ∨ 1800 ≤ ((3 * (s34.1 57)) + 2).toNatClampNeg) := fun q => by rw [if_pos q] at hm; cases hm
              rw [if_neg b37] at hm
              refine zr_n ?_
              try dsimp only [lt1] at hm
              refine zr_sl R35 (by decide) b37 (fun h39 R39 f39 => ?_)
              have F39 := F35.tr f39
              obtain ⟨s38, e_s38⟩ : ∃ z, z = mL s34 58 ((3 * (s34.1 57)) + 2).toNatClampNeg (s34.2.2.2 45 (xp1).toNatClampNeg) := ⟨_, rfl⟩
              rw [← e_s38] at R39
              try rw [← e_s38] at hm
              refine zr_I R39 rfl ?_
              try dsimp only [lt1] at hm
              refine zr_pI R39 (by decide) rfl (fun h41 R41 f41 => ?_)
              have F41 := F39.tr f41
              obtain ⟨s40, e_s40⟩ : ∃ z, z = mI s38 57 ((s38.1 57) + 1) := ⟨_, rfl⟩
              rw [← e_s40] at R41
              try rw [← e_s40] at hm
              refine zr_R R41 rfl ?_
              refine zr_R R41 rfl ?_
              have b42 : ¬ (xp1 < 0 ∨ 8 ≤ (xp1).toNatClampNeg) := fun q => by rw [if_pos q] at hm; cases hm
              rw [if_neg b42] at hm
              refine zr_n ?_
              refine zr_l R41 (by decide) b42 ?_
              have b43 : ¬ ((4 : Int32) < 0 ∨ 12 ≤ ((4 : Int32)).toNatClampNeg) := fun q => by rw [if_pos q] at hm; cases hm
              rw [if_neg b43] at hm
              refine zr_n ?_
              try dsimp only [lt1] at hm
              refine zr_sl R41 (by decide) b43 (fun h45 R45 f45 => ?_)
              have F45 := F41.tr f45
              obtain ⟨s44, e_s44⟩ : ∃ z, z = mL s40 18 ((4 : Int32)).toNatClampNeg (s40.2.2.2 45 (xp1).toNatClampNeg) := ⟨_, rfl⟩
              rw [← e_s44] at R45
              try rw [← e_s44] at hm
              obtain ⟨s47, o49, hm⟩ := Option.bind_eq_some_iff.mp hm
              refine zr_O R45 ?_
              refine z_toItsCard R45 o49 (fun h48 R48 f48 => ?_)
              have F48 := F45.tr f48
              refine zr_R R48 rfl ?_
              have b50 : ¬ (xp1 < 0 ∨ 8 ≤ (xp1).toNatClampNeg) := fun q => by rw [if_pos q] at hm; cases hm
              rw [if_neg b50] at hm
              refine zr_n ?_
              refine zr_l R48 (by decide) b50 ?_
              cases hm
              exact hQ _ R48 F48
set_option maxRecDepth 100000 in
set_option maxHeartbeats 4000000 in
theorem z_alter {E : Ev} {a0 : Nat} {ad : Nat → Nat} {r' : Int32} {s' : MS} {Q : Int32 → Hp → Prop} {s : MS} {h : Hp} {kc ks : Nat} {xp1 : Int32} {xp2 : Int32} {xp3 : Int32} (R0 : RepM E h a0 ad s) (hm : M_alter s xp1 xp2 xp3 = some (r', s')) (hQ : ∀ h1, RepM E h1 a0 ad s' → xf (FM a0 ad) h h1 → Q r' h1)   : m_X12_alter E a0 xp1 xp2 xp3 h kc ks Q := by
  have F0 : xf (FM a0 ad) h h := xf.rf
  unfold M_alter at hm
  unfold m_X12_alter
  obtain ⟨⟨x1, s2⟩, o4, hm⟩ := Option.bind_eq_some_iff.mp hm
  try dsimp only [lt1] at hm
  refine zr_O R0 ?_
  refine z_isMessage R0 o4 (fun h3 R3 f3 => ?_)
  have F3 := F0.tr f3
  refine ⟨fun q16 => ?_, fun q16 => ?_⟩
  · rw [if_pos q16] at hm
    cases hm
    exact hQ _ R3 F3
  · rw [if_neg q16] at hm
    refine ⟨fun q15 => ?_, fun q15 => ?_⟩
    · rw [if_pos q15] at hm
      cases hm
      exact hQ _ R3 F3
    · rw [if_neg q15] at hm
      refine zr_R R3 rfl ?_
      have b5 : ¬ (xp1 < 0 ∨ 60 ≤ (xp1).toNatClampNeg) := fun q => by rw [if_pos q] at hm; cases hm
      rw [if_neg b5] at hm
      refine zr_n ?_
      refine zr_a R3 (n := 60) (by decide) b5 ?_
      refine ⟨fun q14 => ?_, fun q14 => ?_⟩
      · rw [if_pos q14] at hm
        cases hm
        exact hQ _ R3 F3
      · rw [if_neg q14] at hm
        obtain ⟨⟨x6, s7⟩, o9, hm⟩ := Option.bind_eq_some_iff.mp hm
        try dsimp only [lt1] at hm
        refine z_isIn R3 o9 (fun h8 R8 f8 => ?_)
        have F8 := F3.tr f8
        refine ⟨fun q13 => ?_, fun q13 => ?_⟩
        · rw [if_pos q13] at hm
          cases hm
          exact hQ _ R8 F8
        · rw [if_neg q13] at hm
          refine zr_R R8 rfl ?_
          have b10 : ¬ ((64 * xp1) + xp2 < 0 ∨ 3840 ≤ ((64 * xp1) + xp2).toNatClampNeg) := fun q => by rw [if_pos q] at hm; cases hm
          rw [if_neg b10] at hm
          refine zr_n ?_
          try dsimp only [lt1] at hm
          refine zr_s R8 (n := 3840) (by decide) b10 (fun h12 R12 f12 => ?_)
          have F12 := F8.tr f12
          obtain ⟨s11, e_s11⟩ : ∃ z, z = mA s7 12 ((64 * xp1) + xp2).toNatClampNeg xp3 := ⟨_, rfl⟩
          rw [← e_s11] at R12
          try rw [← e_s11] at hm
          cases hm
          exact hQ _ R12 F12
set_option maxRecDepth 100000 in
set_option maxHeartbeats 4000000 in
theorem z_drop {E : Ev} {a0 : Nat} {ad : Nat → Nat} {r' : Int32} {s' : MS} {Q : Int32 → Hp → Prop} {s : MS} {h : Hp} {kc ks : Nat} {xp1 : Int32} (R0 : RepM E h a0 ad s) (hm : M_drop s xp1 = some (r', s')) (hQ : ∀ h1, RepM E h1 a0 ad s' → xf (FM a0 ad) h h1 → Q r' h1)   : m_X12_drop E a0 xp1 h kc ks Q := by
  have F0 : xf (FM a0 ad) h h := xf.rf
  unfold M_drop at hm
  unfold m_X12_drop
  obtain ⟨⟨x1, s2⟩, o4, hm⟩ := Option.bind_eq_some_iff.mp hm
  try dsimp only [lt1] at hm
  refine zr_O R0 ?_
  refine z_isMessage R0 o4 (fun h3 R3 f3 => ?_)
  have F3 := F0.tr f3
  refine ⟨fun q9 => ?_, fun q9 => ?_⟩
  · rw [if_pos q9] at hm
    cases hm
    exact hQ _ R3 F3
  · rw [if_neg q9] at hm
    obtain ⟨s6, o8, hm⟩ := Option.bind_eq_some_iff.mp hm
    refine zr_O R3 ?_
    refine z_remove R3 o8 (fun h7 R7 f7 => ?_)
    have F7 := F3.tr f7
    cases hm
    exact hQ _ R7 F7
set_option maxRecDepth 100000 in
set_option maxHeartbeats 4000000 in
theorem z_again_L21 {E : Ev} {a0 : Nat} {ad : Nat → Nat} {r' : Int32} {s' : MS} {Q : Int32 → Hp → Prop} : ∀ (n : Nat) {s : MS} {h : Hp} {kc ks : Nat} {xv1 : Int32} {xv2 : Int32} (R0 : RepM E h a0 ad s) (hm : M_again_L21 n s xv1 xv2 = some (r', s')) (hQ : ∀ h1, RepM E h1 a0 ad s' → xf (FM a0 ad) h h1 → Q r' h1), m_X12_again_L21 n E a0 xv1 xv2 h kc ks Q := by
  intro n
  induction n with
  | zero => intro s h kc ks xv1 xv2 R0 hm; cases hm
  | succ n ih =>
    intro s h kc ks xv1 xv2 R0 hm  hQ
    have F0 : xf (FM a0 ad) h h := xf.rf
    unfold M_again_L21 at hm
    unfold m_X12_again_L21
    refine ⟨fun q20 => ?_, fun q20 => ?_⟩
    · rw [if_pos q20] at hm
      refine zr_R R0 rfl ?_
      have b7 : ¬ (xv1 < 0 ∨ 60 ≤ (xv1).toNatClampNeg) := fun q => by rw [if_pos q] at hm; cases hm
      rw [if_neg b7] at hm
      refine zr_n ?_
      refine zr_a R0 (n := 60) (by decide) b7 ?_
      refine zr_R R0 rfl ?_
      have b8 : ¬ (xv1 < 0 ∨ 60 ≤ (xv1).toNatClampNeg) := fun q => by rw [if_pos q] at hm; cases hm
      rw [if_neg b8] at hm
      refine zr_n ?_
      refine zr_a R0 (n := 60) (by decide) b8 ?_
      refine zr_R R0 rfl ?_
      have b9 : ¬ (xv1 < 0 ∨ 60 ≤ (xv1).toNatClampNeg) := fun q => by rw [if_pos q] at hm; cases hm
      rw [if_neg b9] at hm
      refine zr_n ?_
      refine zr_a R0 (n := 60) (by decide) b9 ?_
      refine zr_R R0 rfl ?_
      have b10 : ¬ (xv1 < 0 ∨ 60 ≤ (xv1).toNatClampNeg) := fun q => by rw [if_pos q] at hm; cases hm
      rw [if_neg b10] at hm
      refine zr_n ?_
      refine zr_a R0 (n := 60) (by decide) b10 ?_
      refine zr_R R0 rfl ?_
      have b11 : ¬ (xv1 < 0 ∨ 60 ≤ (xv1).toNatClampNeg) := fun q => by rw [if_pos q] at hm; cases hm
      rw [if_neg b11] at hm
      refine zr_n ?_
      refine zr_a R0 (n := 60) (by decide) b11 ?_
      obtain ⟨s13, o15, hm⟩ := Option.bind_eq_some_iff.mp hm
      refine zr_O R0 ?_
      refine z_lie R0 o15 (fun h14 R14 f14 => ?_)
      have F14 := F0.tr f14
      cases hm
      exact hQ _ R14 F14
    · rw [if_neg q20] at hm
      refine zr_R R0 rfl ?_
      refine zr_I R0 rfl ?_
      refine zr_R R0 rfl ?_
      have b16 : ¬ ((64 * xv1) + xv2 < 0 ∨ 3840 ≤ ((64 * xv1) + xv2).toNatClampNeg) := fun q => by rw [if_pos q] at hm; cases hm
      rw [if_neg b16] at hm
      refine zr_n ?_
      refine zr_a R0 (n := 3840) (by decide) b16 ?_
      have b17 : ¬ ((64 * (s.1 6)) + xv2 < 0 ∨ 3840 ≤ ((64 * (s.1 6)) + xv2).toNatClampNeg) := fun q => by rw [if_pos q] at hm; cases hm
      rw [if_neg b17] at hm
      refine zr_n ?_
      try dsimp only [lt1] at hm
      refine zr_s R0 (n := 3840) (by decide) b17 (fun h19 R19 f19 => ?_)
      have F19 := F0.tr f19
      obtain ⟨s18, e_s18⟩ : ∃ z, z = mA s 12 ((64 * (s.1 6)) + xv2).toNatClampNeg (s.2.2.1 12 ((64 * xv1) + xv2).toNatClampNeg) := ⟨_, rfl⟩
      rw [← e_s18] at R19
      try rw [← e_s18] at hm
      exact ih R19 hm (fun h1 R1 f1 => hQ h1 R1 (F19.tr f1))
set_option maxRecDepth 100000 in
set_option maxHeartbeats 4000000 in
theorem z_again {E : Ev} {a0 : Nat} {ad : Nat → Nat} {r' : Int32} {s' : MS} {Q : Int32 → Hp → Prop} {s : MS} {h : Hp} {kc ks : Nat} {xp1 : Int32} (R0 : RepM E h a0 ad s) (hm : M_again s xp1 = some (r', s')) (hQ : ∀ h1, RepM E h1 a0 ad s' → xf (FM a0 ad) h h1 → Q r' h1)   : m_X12_again E a0 xp1 h kc ks Q := by
  have F0 : xf (FM a0 ad) h h := xf.rf
  unfold M_again at hm
  unfold m_X12_again
  obtain ⟨⟨x1, s2⟩, o4, hm⟩ := Option.bind_eq_some_iff.mp hm
  try dsimp only [lt1] at hm
  refine zr_O R0 ?_
  refine z_isMessage R0 o4 (fun h3 R3 f3 => ?_)
  have F3 := F0.tr f3
  refine ⟨fun q6 => ?_, fun q6 => ?_⟩
  · rw [if_pos q6] at hm
    cases hm
    exact hQ _ R3 F3
  · rw [if_neg q6] at hm
    refine zr_I R3 rfl ?_
    refine ⟨fun q5 => ?_, fun q5 => ?_⟩
    · rw [if_pos q5] at hm
      cases hm
      exact hQ _ R3 F3
    · rw [if_neg q5] at hm
      refine ⟨mfu, ?_⟩
      exact z_again_L21 mfu R3 hm (fun h1 R1 f1 => hQ h1 R1 (F3.tr f1))
set_option maxRecDepth 100000 in
set_option maxHeartbeats 4000000 in
theorem z_put {E : Ev} {a0 : Nat} {ad : Nat → Nat} {r' : Int32} {s' : MS} {Q : Int32 → Hp → Prop} {s : MS} {h : Hp} {kc ks : Nat} {xp1 : Int32} (R0 : RepM E h a0 ad s) (hm : M_put s xp1 = some (r', s')) (hQ : ∀ h1, RepM E h1 a0 ad s' → xf (FM a0 ad) h h1 → Q r' h1)   : m_X12_put E a0 xp1 h kc ks Q := by
  have F0 : xf (FM a0 ad) h h := xf.rf
  unfold M_put at hm
  unfold m_X12_put
  refine zr_I R0 rfl ?_
  refine ⟨fun q11 => ?_, fun q11 => ?_⟩
  · rw [if_pos q11] at hm
    cases hm
    exact hQ _ R0 F0
  · rw [if_neg q11] at hm
    obtain ⟨⟨x1, s2⟩, o4, hm⟩ := Option.bind_eq_some_iff.mp hm
    try dsimp only [lt1] at hm
    refine z_isIn R0 o4 (fun h3 R3 f3 => ?_)
    have F3 := F0.tr f3
    refine ⟨fun q10 => ?_, fun q10 => ?_⟩
    · rw [if_pos q10] at hm
      cases hm
      exact hQ _ R3 F3
    · rw [if_neg q10] at hm
      refine zr_R R3 rfl ?_
      refine zr_I R3 rfl ?_
      have b5 : ¬ (s2.1 20 < 0 ∨ 64 ≤ (s2.1 20).toNatClampNeg) := fun q => by rw [if_pos q] at hm; cases hm
      rw [if_neg b5] at hm
      refine zr_n ?_
      try dsimp only [lt1] at hm
      refine zr_s R3 (n := 64) (by decide) b5 (fun h7 R7 f7 => ?_)
      have F7 := F3.tr f7
      obtain ⟨s6, e_s6⟩ : ∃ z, z = mA s2 19 (s2.1 20).toNatClampNeg xp1 := ⟨_, rfl⟩
      rw [← e_s6] at R7
      try rw [← e_s6] at hm
      refine zr_I R7 rfl ?_
      try dsimp only [lt1] at hm
      refine zr_pI R7 (by decide) rfl (fun h9 R9 f9 => ?_)
      have F9 := F7.tr f9
      obtain ⟨s8, e_s8⟩ : ∃ z, z = mI s6 20 ((s6.1 20) + 1) := ⟨_, rfl⟩
      rw [← e_s8] at R9
      try rw [← e_s8] at hm
      refine zr_I R9 rfl ?_
      cases hm
      exact hQ _ R9 F9
set_option maxRecDepth 100000 in
set_option maxHeartbeats 4000000 in
theorem z_isThere_L44 {E : Ev} {a0 : Nat} {ad : Nat → Nat} {r' : Int32} {s' : MS} {Q : Int32 → Hp → Prop} {s : MS} {h : Hp} {kc ks : Nat}  (R0 : RepM E h a0 ad s) (hm : M_isThere_L44 s  = some (r', s')) (hQ : ∀ h1, RepM E h1 a0 ad s' → xf (FM a0 ad) h h1 → Q r' h1) : m_X12_isThere_L44 E  h kc ks Q := by
  have F0 : xf (FM a0 ad) h h := xf.rf
  unfold M_isThere_L44 at hm
  unfold m_X12_isThere_L44
  cases hm
  exact hQ _ R0 F0
set_option maxRecDepth 100000 in
set_option maxHeartbeats 4000000 in
theorem z_isThere {E : Ev} {a0 : Nat} {ad : Nat → Nat} {r' : Int32} {s' : MS} {Q : Int32 → Hp → Prop} {s : MS} {h : Hp} {kc ks : Nat} {xp1 : Int32} {xp2 : Int32} (R0 : RepM E h a0 ad s) (hm : M_isThere s xp1 xp2 = some (r', s')) (hQ : ∀ h1, RepM E h1 a0 ad s' → xf (FM a0 ad) h h1 → Q r' h1)   : m_X12_isThere E a0 xp1 xp2 h kc ks Q := by
  have F0 : xf (FM a0 ad) h h := xf.rf
  unfold M_isThere at hm
  unfold m_X12_isThere
  refine ⟨fun q7 => ?_, fun q7 => ?_⟩
  · rw [if_pos q7] at hm
    cases hm
    exact hQ _ R0 F0
  · rw [if_neg q7] at hm
    refine ⟨fun q6 => ?_, fun q6 => ?_⟩
    · rw [if_pos q6] at hm
      refine zr_I R0 rfl ?_
      refine ⟨fun q5 => ?_, fun q5 => ?_⟩
      · rw [if_pos q5] at hm
        cases hm
        exact hQ _ R0 F0
      · rw [if_neg q5] at hm
        exact z_isThere_L44 R0 hm (fun h1 R1 f1 => hQ h1 R1 (F0.tr f1))
    · rw [if_neg q6] at hm
      refine ⟨fun q4 => ?_, fun q4 => ?_⟩
      · rw [if_pos q4] at hm
        refine zr_I R0 rfl ?_
        refine ⟨fun q3 => ?_, fun q3 => ?_⟩
        · rw [if_pos q3] at hm
          cases hm
          exact hQ _ R0 F0
        · rw [if_neg q3] at hm
          exact z_isThere_L44 R0 hm (fun h1 R1 f1 => hQ h1 R1 (F0.tr f1))
      · rw [if_neg q4] at hm
        refine ⟨fun q2 => ?_, fun q2 => ?_⟩
        · rw [if_pos q2] at hm
          refine ⟨fun q1 => ?_, fun q1 => ?_⟩
          · rw [if_pos q1] at hm
            exact z_isThere_L44 R0 hm (fun h1 R1 f1 => hQ h1 R1 (F0.tr f1))
          · rw [if_neg q1] at hm
            cases hm
            exact hQ _ R0 F0
        · rw [if_neg q2] at hm
          cases hm
          exact hQ _ R0 F0
set_option maxRecDepth 100000 in
set_option maxHeartbeats 4000000 in
theorem z_inject_L40 {E : Ev} {a0 : Nat} {ad : Nat → Nat} {r' : Int32} {s' : MS} {Q : Int32 → Hp → Prop} : ∀ (n : Nat) {s : MS} {h : Hp} {kc ks : Nat} {xv1 : Int32} {xv2 : Int32} {xv3 : Int32} {xv4 : Int32} {xv5 : Int32} (R0 : RepM E h a0 ad s) (hm : M_inject_L40 n s xv1 xv2 xv3 xv4 xv5 = some (r', s')) (hQ : ∀ h1, RepM E h1 a0 ad s' → xf (FM a0 ad) h h1 → Q r' h1), m_X12_inject_L40 n E a0 xv1 xv2 xv3 xv4 xv5 h kc ks Q := by
  intro n
  induction n with
  | zero => intro s h kc ks xv1 xv2 xv3 xv4 xv5 R0 hm; cases hm
  | succ n ih =>
    intro s h kc ks xv1 xv2 xv3 xv4 xv5 R0 hm  hQ
    have F0 : xf (FM a0 ad) h h := xf.rf
    unfold M_inject_L40 at hm
    unfold m_X12_inject_L40
    refine zr_I R0 rfl ?_
    refine ⟨fun q23 => ?_, fun q23 => ?_⟩
    · rw [if_pos q23] at hm
      refine zr_I R0 rfl ?_
      obtain ⟨s14, o16, hm⟩ := Option.bind_eq_some_iff.mp hm
      refine zr_O R0 ?_
      refine z_lie R0 o16 (fun h15 R15 f15 => ?_)
      have F15 := F0.tr f15
      try dsimp only [lt1] at hm
      refine zr_pI R15 (by decide) rfl (fun h18 R18 f18 => ?_)
      have F18 := F15.tr f18
      obtain ⟨s17, e_s17⟩ : ∃ z, z = mI s14 20 0 := ⟨_, rfl⟩
      rw [← e_s17] at R18
      try rw [← e_s17] at hm
      cases hm
      exact hQ _ R18 F18
    · rw [if_neg q23] at hm
      refine zr_R R0 rfl ?_
      refine zr_I R0 rfl ?_
      refine zr_R R0 rfl ?_
      have b19 : ¬ (xv5 < 0 ∨ 64 ≤ (xv5).toNatClampNeg) := fun q => by rw [if_pos q] at hm; cases hm
      rw [if_neg b19] at hm
      refine zr_n ?_
      refine zr_a R0 (n := 64) (by decide) b19 ?_
      have b20 : ¬ ((64 * (s.1 6)) + xv5 < 0 ∨ 3840 ≤ ((64 * (s.1 6)) + xv5).toNatClampNeg) := fun q => by rw [if_pos q] at hm; cases hm
      rw [if_neg b20] at hm
      refine zr_n ?_
      try dsimp only [lt1] at hm
      refine zr_s R0 (n := 3840) (by decide) b20 (fun h22 R22 f22 => ?_)
      have F22 := F0.tr f22
      obtain ⟨s21, e_s21⟩ : ∃ z, z = mA s 12 ((64 * (s.1 6)) + xv5).toNatClampNeg (s.2.2.1 19 (xv5).toNatClampNeg) := ⟨_, rfl⟩
      rw [← e_s21] at R22
      try rw [← e_s21] at hm
      exact ih R22 hm (fun h1 R1 f1 => hQ h1 R1 (F22.tr f1))
set_option maxRecDepth 100000 in
set_option maxHeartbeats 4000000 in
theorem z_inject {E : Ev} {a0 : Nat} {ad : Nat → Nat} {r' : Int32} {s' : MS} {Q : Int32 → Hp → Prop} {s : MS} {h : Hp} {kc ks : Nat} {xp1 : Int32} {xp2 : Int32} {xp3 : Int32} {xp4 : Int32} (R0 : RepM E h a0 ad s) (hm : M_inject s xp1 xp2 xp3 xp4 = some (r', s')) (hQ : ∀ h1, RepM E h1 a0 ad s' → xf (FM a0 ad) h h1 → Q r' h1)   : m_X12_inject E a0 xp1 xp2 xp3 xp4 h kc ks Q := by
  have F0 : xf (FM a0 ad) h h := xf.rf
  unfold M_inject at hm
  unfold m_X12_inject
  obtain ⟨⟨x1, s2⟩, o4, hm⟩ := Option.bind_eq_some_iff.mp hm
  try dsimp only [lt1] at hm
  refine zr_O R0 ?_
  refine z_isThere R0 o4 (fun h3 R3 f3 => ?_)
  have F3 := F0.tr f3
  refine ⟨fun q12 => ?_, fun q12 => ?_⟩
  · rw [if_pos q12] at hm
    cases hm
    exact hQ _ R3 F3
  · rw [if_neg q12] at hm
    obtain ⟨⟨x5, s6⟩, o8, hm⟩ := Option.bind_eq_some_iff.mp hm
    try dsimp only [lt1] at hm
    refine zr_O R3 ?_
    refine z_isThere R3 o8 (fun h7 R7 f7 => ?_)
    have F7 := F3.tr f7
    refine ⟨fun q11 => ?_, fun q11 => ?_⟩
    · rw [if_pos q11] at hm
      cases hm
      exact hQ _ R7 F7
    · rw [if_neg q11] at hm
      refine zr_I R7 rfl ?_
      refine ⟨fun q10 => ?_, fun q10 => ?_⟩
      · rw [if_pos q10] at hm
        cases hm
        exact hQ _ R7 F7
      · rw [if_neg q10] at hm
        refine zr_I R7 rfl ?_
        refine ⟨fun q9 => ?_, fun q9 => ?_⟩
        · rw [if_pos q9] at hm
          cases hm
          exact hQ _ R7 F7
        · rw [if_neg q9] at hm
          refine ⟨mfu, ?_⟩
          exact z_inject_L40 mfu R7 hm (fun h1 R1 f1 => hQ h1 R1 (F7.tr f1))
set_option maxRecDepth 100000 in
set_option maxHeartbeats 4000000 in
theorem z_power {E : Ev} {a0 : Nat} {ad : Nat → Nat} {r' : Int32} {s' : MS} {Q : Int32 → Hp → Prop} {s : MS} {h : Hp} {kc ks : Nat} {xp1 : Int32} {xp2 : Int32} (R0 : RepM E h a0 ad s) (hm : M_power s xp1 xp2 = some (r', s')) (hQ : ∀ h1, RepM E h1 a0 ad s' → xf (FM a0 ad) h h1 → Q r' h1)   : m_X12_power E a0 xp1 xp2 h kc ks Q := by
  have F0 : xf (FM a0 ad) h h := xf.rf
  unfold M_power at hm
  unfold m_X12_power
  refine ⟨fun q10 => ?_, fun q10 => ?_⟩
  · rw [if_pos q10] at hm
    cases hm
    exact hQ _ R0 F0
  · rw [if_neg q10] at hm
    refine zr_I R0 rfl ?_
    refine ⟨fun q9 => ?_, fun q9 => ?_⟩
    · rw [if_pos q9] at hm
      cases hm
      exact hQ _ R0 F0
    · rw [if_neg q9] at hm
      obtain ⟨⟨x1, s2⟩, o4, hm⟩ := Option.bind_eq_some_iff.mp hm
      try dsimp only [lt1] at hm
      refine z_isIn R0 o4 (fun h3 R3 f3 => ?_)
      have F3 := F0.tr f3
      refine ⟨fun q8 => ?_, fun q8 => ?_⟩
      · rw [if_pos q8] at hm
        cases hm
        exact hQ _ R3 F3
      · rw [if_neg q8] at hm
        refine zr_R R3 rfl ?_
        have b5 : ¬ (xp1 < 0 ∨ 16 ≤ (xp1).toNatClampNeg) := fun q => by rw [if_pos q] at hm; cases hm
        rw [if_neg b5] at hm
        refine zr_n ?_
        try dsimp only [lt1] at hm
        refine zr_s R3 (n := 16) (by decide) b5 (fun h7 R7 f7 => ?_)
        have F7 := F3.tr f7
        obtain ⟨s6, e_s6⟩ : ∃ z, z = mA s2 35 (xp1).toNatClampNeg xp2 := ⟨_, rfl⟩
        rw [← e_s6] at R7
        try rw [← e_s6] at hm
        cases hm
        exact hQ _ R7 F7
set_option maxRecDepth 100000 in
set_option maxHeartbeats 4000000 in
theorem z_tick_L73 {E : Ev} {a0 : Nat} {ad : Nat → Nat} {r' : Int32} {s' : MS} {K29 : MS → Int32 → Int32 → Option (Int32 × MS)} {J29 : Nat → Int32 → Int32 → Hp → Nat → Nat → Prop} {Q : Int32 → Hp → Prop} {s : MS} {h : Hp} {kc ks : Nat} {xv2 : Int32} {xv3 : Int32} (R0 : RepM E h a0 ad s) (hm : M_tick_L73 s xv2 xv3 K29 = some (r', s')) (hK29 : ∀ (s1 : MS) (xv2 : Int32) (xv3 : Int32) (h1 : Hp) (kc1 ks1 : Nat), K29 s1 xv2 xv3 = some (r', s') → RepM E h1 a0 ad s1 → xf (FM a0 ad) h h1 → J29 a0 xv2 xv3 h1 kc1 ks1) (hQ : ∀ h1, RepM E h1 a0 ad s' → xf (FM a0 ad) h h1 → Q r' h1) : m_X12_tick_L73 E a0 xv2 xv3 h kc ks J29 Q := by
  have F0 : xf (FM a0 ad) h h := xf.rf
  unfold M_tick_L73 at hm
  unfold m_X12_tick_L73
  exact hK29 _ _ _ _ _ _ hm R0 F0
set_option maxRecDepth 100000 in
set_option maxHeartbeats 4000000 in
theorem z_tick_L29 {E : Ev} {a0 : Nat} {ad : Nat → Nat} {r' : Int32} {s' : MS} {Q : Int32 → Hp → Prop} : ∀ (n : Nat) {s : MS} {h : Hp} {kc ks : Nat} {xv2 : Int32} {xv3 : Int32} (R0 : RepM E h a0 ad s) (hm : M_tick_L29 n s xv2 xv3 = some (r', s')) (hQ : ∀ h1, RepM E h1 a0 ad s' → xf (FM a0 ad) h h1 → Q r' h1), m_X12_tick_L29 n E a0 xv2 xv3 h kc ks Q := by
  intro n
  induction n with
  | zero => intro s h kc ks xv2 xv3 R0 hm; cases hm
  | succ n ih =>
    intro s h kc ks xv2 xv3 R0 hm  hQ
    have F0 : xf (FM a0 ad) h h := xf.rf
    unfold M_tick_L29 at hm
    unfold m_X12_tick_L29
    refine zr_I R0 rfl ?_
    refine ⟨fun q16 => ?_, fun q16 => ?_⟩
    · rw [if_pos q16] at hm
      cases hm
      exact hQ _ R0 F0
    · rw [if_neg q16] at hm
      refine zr_R R0 rfl ?_
      have b8 : ¬ (xv3 < 0 ∨ 8 ≤ (xv3).toNatClampNeg) := fun q => by rw [if_pos q] at hm; cases hm
      rw [if_neg b8] at hm
      refine zr_n ?_
      refine zr_a R0 (n := 8) (by decide) b8 ?_
      refine ⟨fun q15 => ?_, fun q15 => ?_⟩
      · rw [if_pos q15] at hm
        exact z_tick_L73 R0 hm (fun u1 v0 v1 g1 kc1 ks1 j1 P1 f1 => ih P1 j1 (fun h2 R2 f2 => hQ h2 R2 ((F0.tr f1).tr f2))) (fun h1 R1 f1 => hQ h1 R1 (F0.tr f1))
      · rw [if_neg q15] at hm
        refine zr_J R0 rfl ?_
        refine zr_R R0 rfl ?_
        have b9 : ¬ (xv3 < 0 ∨ 8 ≤ (xv3).toNatClampNeg) := fun q => by rw [if_pos q] at hm; cases hm
        rw [if_neg b9] at hm
        refine zr_n ?_
        refine zr_l R0 (by decide) b9 ?_
        refine ⟨fun q14 => ?_, fun q14 => ?_⟩
        · rw [if_pos q14] at hm
          exact z_tick_L73 R0 hm (fun u1 v0 v1 g1 kc1 ks1 j1 P1 f1 => ih P1 j1 (fun h2 R2 f2 => hQ h2 R2 ((F0.tr f1).tr f2))) (fun h1 R1 f1 => hQ h1 R1 (F0.tr f1))
        · rw [if_neg q14] at hm
          obtain ⟨s11, o13, hm⟩ := Option.bind_eq_some_iff.mp hm
          refine zr_O R0 ?_
          refine z_end R0 o13 (fun h12 R12 f12 => ?_)
          have F12 := F0.tr f12
          exact z_tick_L73 R12 hm (fun u1 v0 v1 g1 kc1 ks1 j1 P1 f1 => ih P1 j1 (fun h2 R2 f2 => hQ h2 R2 ((F12.tr f1).tr f2))) (fun h1 R1 f1 => hQ h1 R1 (F12.tr f1))
set_option maxRecDepth 100000 in
set_option maxHeartbeats 4000000 in
theorem z_tick {E : Ev} {a0 : Nat} {ad : Nat → Nat} {r' : Int32} {s' : MS} {Q : Int32 → Hp → Prop} {s : MS} {h : Hp} {kc ks : Nat} {xp1 : Int32} (R0 : RepM E h a0 ad s) (hm : M_tick s xp1 = some (r', s')) (hQ : ∀ h1, RepM E h1 a0 ad s' → xf (FM a0 ad) h h1 → Q r' h1)   : m_X12_tick E a0 xp1 h kc ks Q := by
  have F0 : xf (FM a0 ad) h h := xf.rf
  unfold M_tick at hm
  unfold m_X12_tick
  obtain ⟨⟨x1, s2⟩, o4, hm⟩ := Option.bind_eq_some_iff.mp hm
  try dsimp only [lt1] at hm
  refine z_isIn R0 o4 (fun h3 R3 f3 => ?_)
  have F3 := F0.tr f3
  refine ⟨fun q7 => ?_, fun q7 => ?_⟩
  · rw [if_pos q7] at hm
    cases hm
    exact hQ _ R3 F3
  · rw [if_neg q7] at hm
    refine zr_J R3 rfl ?_
    try dsimp only [lt1] at hm
    refine zr_pJ R3 (by decide) rfl (fun h6 R6 f6 => ?_)
    have F6 := F3.tr f6
    obtain ⟨s5, e_s5⟩ : ∃ z, z = mT s2 (s2.2.1 + xp1.toInt64) := ⟨_, rfl⟩
    rw [← e_s5] at R6
    try rw [← e_s5] at hm
    refine ⟨mfu, ?_⟩
    exact z_tick_L29 mfu R6 hm (fun h1 R1 f1 => hQ h1 R1 (F6.tr f1))
set_option maxRecDepth 100000 in
set_option maxHeartbeats 4000000 in
theorem z_clear_L82 {E : Ev} {a0 : Nat} {ad : Nat → Nat} {r' : Int32} {s' : MS} {K18 : MS → Int32 → Int32 → Int32 → Option (Int32 × MS)} {J18 : Nat → Int32 → Int32 → Int32 → Hp → Nat → Nat → Prop} {K55 : MS → Int32 → Int32 → Int32 → Int32 → Option (Int32 × MS)} {J55 : Nat → Int32 → Int32 → Int32 → Int32 → Hp → Nat → Nat → Prop} {Q : Int32 → Hp → Prop} {s : MS} {h : Hp} {kc ks : Nat} {xv1 : Int32} {xv2 : Int32} {xv3 : Int32} {xv4 : Int32} {w0 : Int32} (R0 : RepM E h a0 ad s) (hm : M_clear_L82 s xv1 xv2 xv3 xv4 w0 K18 K55 = some (r', s')) (hK18 : ∀ (s1 : MS) (xv1 : Int32) (xv2 : Int32) (xv3 : Int32) (h1 : Hp) (kc1 ks1 : Nat), K18 s1 xv1 xv2 xv3 = some (r', s') → RepM E h1 a0 ad s1 → xf (FM a0 ad) h h1 → J18 a0 xv1 xv2 xv3 h1 kc1 ks1) (hK55 : ∀ (s1 : MS) (xv1 : Int32) (xv2 : Int32) (xv3 : Int32) (xv4 : Int32) (h1 : Hp) (kc1 ks1 : Nat), K55 s1 xv1 xv2 xv3 xv4 = some (r', s') → RepM E h1 a0 ad s1 → xf (FM a0 ad) h h1 → J55 a0 xv1 xv2 xv3 xv4 h1 kc1 ks1) (hQ : ∀ h1, RepM E h1 a0 ad s' → xf (FM a0 ad) h h1 → Q r' h1) : m_X12_clear_L82 E a0 xv1 xv2 xv3 xv4 w0 (some (ad 18)) h kc ks J18 J55 Q := by
  have F0 : xf (FM a0 ad) h h := xf.rf
  unfold M_clear_L82 at hm
  unfold m_X12_clear_L82
  refine zr_R R0 rfl ?_
  have b22 : ¬ ((7 * xv3) + xv4 < 0 ∨ 4200 ≤ ((7 * xv3) + xv4).toNatClampNeg) := fun q => by rw [if_pos q] at hm; cases hm
  rw [if_neg b22] at hm
  refine zr_n ?_
  refine zr_l R0 (by decide) b22 ?_
  have b23 : ¬ (w0 < 0 ∨ 12 ≤ (w0).toNatClampNeg) := fun q => by rw [if_pos q] at hm; cases hm
  rw [if_neg b23] at hm
  refine zr_n ?_
  try dsimp only [lt1] at hm
  refine zr_sl R0 (by decide) b23 (fun h25 R25 f25 => ?_)
  have F25 := F0.tr f25
  obtain ⟨s24, e_s24⟩ : ∃ z, z = mL s 18 (w0).toNatClampNeg (s.2.2.2 56 ((7 * xv3) + xv4).toNatClampNeg) := ⟨_, rfl⟩
  rw [← e_s24] at R25
  try rw [← e_s24] at hm
  exact hK55 _ _ _ _ _ _ _ _ hm R25 F25
set_option maxRecDepth 100000 in
set_option maxHeartbeats 4000000 in
theorem z_clear_L129 {E : Ev} {a0 : Nat} {ad : Nat → Nat} {r' : Int32} {s' : MS} {K18 : MS → Int32 → Int32 → Int32 → Option (Int32 × MS)} {J18 : Nat → Int32 → Int32 → Int32 → Hp → Nat → Nat → Prop} {Q : Int32 → Hp → Prop} {s : MS} {h : Hp} {kc ks : Nat} {xv1 : Int32} {xv2 : Int32} {xv3 : Int32} (R0 : RepM E h a0 ad s) (hm : M_clear_L129 s xv1 xv2 xv3 K18 = some (r', s')) (hK18 : ∀ (s1 : MS) (xv1 : Int32) (xv2 : Int32) (xv3 : Int32) (h1 : Hp) (kc1 ks1 : Nat), K18 s1 xv1 xv2 xv3 = some (r', s') → RepM E h1 a0 ad s1 → xf (FM a0 ad) h h1 → J18 a0 xv1 xv2 xv3 h1 kc1 ks1) (hQ : ∀ h1, RepM E h1 a0 ad s' → xf (FM a0 ad) h h1 → Q r' h1) : m_X12_clear_L129 E a0 xv1 xv2 xv3 h kc ks J18 Q := by
  have F0 : xf (FM a0 ad) h h := xf.rf
  unfold M_clear_L129 at hm
  unfold m_X12_clear_L129
  exact hK18 _ _ _ _ _ _ _ hm R0 F0
set_option maxRecDepth 100000 in
set_option maxHeartbeats 4000000 in
theorem z_clear_L127 {E : Ev} {a0 : Nat} {ad : Nat → Nat} {r' : Int32} {s' : MS} {K18 : MS → Int32 → Int32 → Int32 → Option (Int32 × MS)} {J18 : Nat → Int32 → Int32 → Int32 → Hp → Nat → Nat → Prop} {Q : Int32 → Hp → Prop} {s : MS} {h : Hp} {kc ks : Nat} {xv1 : Int32} {xv3 : Int32} {w0 : Int32} {w1 : Int32} (R0 : RepM E h a0 ad s) (hm : M_clear_L127 s xv1 xv3 w0 w1 K18 = some (r', s')) (hK18 : ∀ (s1 : MS) (xv1 : Int32) (xv2 : Int32) (xv3 : Int32) (h1 : Hp) (kc1 ks1 : Nat), K18 s1 xv1 xv2 xv3 = some (r', s') → RepM E h1 a0 ad s1 → xf (FM a0 ad) h h1 → J18 a0 xv1 xv2 xv3 h1 kc1 ks1) (hQ : ∀ h1, RepM E h1 a0 ad s' → xf (FM a0 ad) h h1 → Q r' h1) : m_X12_clear_L127 E a0 xv1 xv3 w0 w1 h kc ks J18 Q := by
  have F0 : xf (FM a0 ad) h h := xf.rf
  unfold M_clear_L127 at hm
  unfold m_X12_clear_L127
  exact z_clear_L129 R0 hm (fun u1 v0 v1 v2 g1 kc1 ks1 j1 P1 f1 => hK18 u1 v0 v1 v2 g1 kc1 ks1 j1 P1 (F0.tr f1)) (fun h1 R1 f1 => hQ h1 R1 (F0.tr f1))
set_option maxRecDepth 100000 in
set_option maxHeartbeats 4000000 in
theorem z_clear_L55 {E : Ev} {a0 : Nat} {ad : Nat → Nat} {r' : Int32} {s' : MS} {K18 : MS → Int32 → Int32 → Int32 → Option (Int32 × MS)} {J18 : Nat → Int32 → Int32 → Int32 → Hp → Nat → Nat → Prop} {Q : Int32 → Hp → Prop} : ∀ (n : Nat) {s : MS} {h : Hp} {kc ks : Nat} {xv1 : Int32} {xv2 : Int32} {xv3 : Int32} {xv4 : Int32} (R0 : RepM E h a0 ad s) (hm : M_clear_L55 n s xv1 xv2 xv3 xv4 K18 = some (r', s')) (hK18 : ∀ (s1 : MS) (xv1 : Int32) (xv2 : Int32) (xv3 : Int32) (h1 : Hp) (kc1 ks1 : Nat), K18 s1 xv1 xv2 xv3 = some (r', s') → RepM E h1 a0 ad s1 → xf (FM a0 ad) h h1 → J18 a0 xv1 xv2 xv3 h1 kc1 ks1) (hQ : ∀ h1, RepM E h1 a0 ad s' → xf (FM a0 ad) h h1 → Q r' h1), m_X12_clear_L55 n E a0 xv1 xv2 xv3 xv4 h kc ks J18 Q := by
  intro n
  induction n with
  | zero => intro s h kc ks xv1 xv2 xv3 xv4 R0 hm; cases hm
  | succ n ih =>
    intro s h kc ks xv1 xv2 xv3 xv4 R0 hm hK18 hQ
    have F0 : xf (FM a0 ad) h h := xf.rf
    unfold M_clear_L55 at hm
    unfold m_X12_clear_L55
    refine ⟨fun q21 => ?_, fun q21 => ?_⟩
    · rw [if_pos q21] at hm
      obtain ⟨s12, o14, hm⟩ := Option.bind_eq_some_iff.mp hm
      refine zr_O R0 ?_
      refine z_sign R0 o14 (fun h13 R13 f13 => ?_)
      have F13 := F0.tr f13
      obtain ⟨⟨x15, s16⟩, o18, hm⟩ := Option.bind_eq_some_iff.mp hm
      try dsimp only [lt1] at hm
      refine zr_O R13 ?_
      refine z_send R13 o18 (fun h17 R17 f17 => ?_)
      have F17 := F13.tr f17
      refine ⟨fun q19 => ?_, fun q19 => ?_⟩
      · rw [if_pos q19] at hm
        exact z_clear_L127 R17 hm (fun u1 v0 v1 v2 g1 kc1 ks1 j1 P1 f1 => hK18 u1 v0 v1 v2 g1 kc1 ks1 j1 P1 (F17.tr f1)) (fun h1 R1 f1 => hQ h1 R1 (F17.tr f1))
      · rw [if_neg q19] at hm
        exact z_clear_L127 R17 hm (fun u1 v0 v1 v2 g1 kc1 ks1 j1 P1 f1 => hK18 u1 v0 v1 v2 g1 kc1 ks1 j1 P1 (F17.tr f1)) (fun h1 R1 f1 => hQ h1 R1 (F17.tr f1))
    · rw [if_neg q21] at hm
      refine zr_R R0 rfl ?_
      refine ⟨fun q20 => ?_, fun q20 => ?_⟩
      · rw [if_pos q20] at hm
        exact z_clear_L82 R0 hm (fun u1 v0 v1 v2 g1 kc1 ks1 j1 P1 f1 => hK18 u1 v0 v1 v2 g1 kc1 ks1 j1 P1 (F0.tr f1)) (fun u1 v0 v1 v2 v3 g1 kc1 ks1 j1 P1 f1 => ih P1 j1 (fun u2 v0 v1 v2 g2 kc2 ks2 j2 P2 f2 => hK18 u2 v0 v1 v2 g2 kc2 ks2 j2 P2 ((F0.tr f1).tr f2)) (fun h2 R2 f2 => hQ h2 R2 ((F0.tr f1).tr f2))) (fun h1 R1 f1 => hQ h1 R1 (F0.tr f1))
      · rw [if_neg q20] at hm
        exact z_clear_L82 R0 hm (fun u1 v0 v1 v2 g1 kc1 ks1 j1 P1 f1 => hK18 u1 v0 v1 v2 g1 kc1 ks1 j1 P1 (F0.tr f1)) (fun u1 v0 v1 v2 v3 g1 kc1 ks1 j1 P1 f1 => ih P1 j1 (fun u2 v0 v1 v2 g2 kc2 ks2 j2 P2 f2 => hK18 u2 v0 v1 v2 g2 kc2 ks2 j2 P2 ((F0.tr f1).tr f2)) (fun h2 R2 f2 => hQ h2 R2 ((F0.tr f1).tr f2))) (fun h1 R1 f1 => hQ h1 R1 (F0.tr f1))
set_option maxRecDepth 100000 in
set_option maxHeartbeats 4000000 in
theorem z_clear_L18 {E : Ev} {a0 : Nat} {ad : Nat → Nat} {r' : Int32} {s' : MS} {Q : Int32 → Hp → Prop} : ∀ (n : Nat) {s : MS} {h : Hp} {kc ks : Nat} {xv1 : Int32} {xv2 : Int32} {xv3 : Int32} (R0 : RepM E h a0 ad s) (hm : M_clear_L18 n s xv1 xv2 xv3 = some (r', s')) (hQ : ∀ h1, RepM E h1 a0 ad s' → xf (FM a0 ad) h h1 → Q r' h1), m_X12_clear_L18 n E a0 xv1 xv2 xv3 h kc ks Q := by
  intro n
  induction n with
  | zero => intro s h kc ks xv1 xv2 xv3 R0 hm; cases hm
  | succ n ih =>
    intro s h kc ks xv1 xv2 xv3 R0 hm  hQ
    have F0 : xf (FM a0 ad) h h := xf.rf
    unfold M_clear_L18 at hm
    unfold m_X12_clear_L18
    refine zr_I R0 rfl ?_
    refine ⟨fun q10 => ?_, fun q10 => ?_⟩
    · rw [if_pos q10] at hm
      cases hm
      exact hQ _ R0 F0
    · rw [if_neg q10] at hm
      refine zr_R R0 rfl ?_
      have b3 : ¬ (xv3 < 0 ∨ 600 ≤ (xv3).toNatClampNeg) := fun q => by rw [if_pos q] at hm; cases hm
      rw [if_neg b3] at hm
      refine zr_n ?_
      refine zr_a R0 (n := 600) (by decide) b3 ?_
      refine ⟨fun q9 => ?_, fun q9 => ?_⟩
      · rw [if_pos q9] at hm
        refine zr_R R0 rfl ?_
        have b4 : ¬ (xv3 < 0 ∨ 600 ≤ (xv3).toNatClampNeg) := fun q => by rw [if_pos q] at hm; cases hm
        rw [if_neg b4] at hm
        refine zr_n ?_
        refine zr_a R0 (n := 600) (by decide) b4 ?_
        refine ⟨fun q8 => ?_, fun q8 => ?_⟩
        · rw [if_pos q8] at hm
          refine zr_R R0 rfl ?_
          have b5 : ¬ (xv3 < 0 ∨ 600 ≤ (xv3).toNatClampNeg) := fun q => by rw [if_pos q] at hm; cases hm
          rw [if_neg b5] at hm
          refine zr_n ?_
          try dsimp only [lt1] at hm
          refine zr_z R0 (n := 600) (by decide) b5 (fun h7 R7 f7 => ?_)
          have F7 := F0.tr f7
          obtain ⟨s6, e_s6⟩ : ∃ z, z = mA s 55 (xv3).toNatClampNeg (vp_nar .boolean 1) := ⟨_, rfl⟩
          rw [← e_s6] at R7
          try rw [← e_s6] at hm
          refine ⟨mfu, ?_⟩
          exact z_clear_L55 mfu R7 hm (fun u1 v0 v1 v2 g1 kc1 ks1 j1 P1 f1 => ih P1 j1 (fun h2 R2 f2 => hQ h2 R2 ((F7.tr f1).tr f2))) (fun h1 R1 f1 => hQ h1 R1 (F7.tr f1))
        · rw [if_neg q8] at hm
          exact z_clear_L129 R0 hm (fun u1 v0 v1 v2 g1 kc1 ks1 j1 P1 f1 => ih P1 j1 (fun h2 R2 f2 => hQ h2 R2 ((F0.tr f1).tr f2))) (fun h1 R1 f1 => hQ h1 R1 (F0.tr f1))
      · rw [if_neg q9] at hm
        exact z_clear_L129 R0 hm (fun u1 v0 v1 v2 g1 kc1 ks1 j1 P1 f1 => ih P1 j1 (fun h2 R2 f2 => hQ h2 R2 ((F0.tr f1).tr f2))) (fun h1 R1 f1 => hQ h1 R1 (F0.tr f1))
set_option maxRecDepth 100000 in
set_option maxHeartbeats 4000000 in
theorem z_clear {E : Ev} {a0 : Nat} {ad : Nat → Nat} {r' : Int32} {s' : MS} {Q : Int32 → Hp → Prop} {s : MS} {h : Hp} {kc ks : Nat} {xp1 : Int32} (R0 : RepM E h a0 ad s) (hm : M_clear s xp1 = some (r', s')) (hQ : ∀ h1, RepM E h1 a0 ad s' → xf (FM a0 ad) h h1 → Q r' h1)   : m_X12_clear E a0 xp1 h kc ks Q := by
  have F0 : xf (FM a0 ad) h h := xf.rf
  unfold M_clear at hm
  unfold m_X12_clear
  refine ⟨fun q2 => ?_, fun q2 => ?_⟩
  · rw [if_pos q2] at hm
    cases hm
    exact hQ _ R0 F0
  · rw [if_neg q2] at hm
    refine zr_I R0 rfl ?_
    refine ⟨fun q1 => ?_, fun q1 => ?_⟩
    · rw [if_pos q1] at hm
      refine ⟨mfu, ?_⟩
      exact z_clear_L18 mfu R0 hm (fun h1 R1 f1 => hQ h1 R1 (F0.tr f1))
    · rw [if_neg q1] at hm
      cases hm
      exact hQ _ R0 F0
set_option maxRecDepth 100000 in
set_option maxHeartbeats 4000000 in
theorem z_count {E : Ev} {a0 : Nat} {ad : Nat → Nat} {r' : Int32} {s' : MS} {Q : Int32 → Hp → Prop} {s : MS} {h : Hp} {kc ks : Nat} {xp1 : Int32} (R0 : RepM E h a0 ad s) (hm : M_count s xp1 = some (r', s')) (hQ : ∀ h1, RepM E h1 a0 ad s' → xf (FM a0 ad) h h1 → Q r' h1)   : m_X12_count E a0 xp1 h kc ks Q := by
  have F0 : xf (FM a0 ad) h h := xf.rf
  unfold M_count at hm
  unfold m_X12_count
  refine ⟨fun q6 => ?_, fun q6 => ?_⟩
  · rw [if_pos q6] at hm
    refine zr_I R0 rfl ?_
    cases hm
    exact hQ _ R0 F0
  · rw [if_neg q6] at hm
    refine ⟨fun q5 => ?_, fun q5 => ?_⟩
    · rw [if_pos q5] at hm
      refine zr_I R0 rfl ?_
      cases hm
      exact hQ _ R0 F0
    · rw [if_neg q5] at hm
      refine ⟨fun q4 => ?_, fun q4 => ?_⟩
      · rw [if_pos q4] at hm
        refine zr_I R0 rfl ?_
        cases hm
        exact hQ _ R0 F0
      · rw [if_neg q4] at hm
        refine ⟨fun q3 => ?_, fun q3 => ?_⟩
        · rw [if_pos q3] at hm
          refine zr_I R0 rfl ?_
          cases hm
          exact hQ _ R0 F0
        · rw [if_neg q3] at hm
          refine ⟨fun q2 => ?_, fun q2 => ?_⟩
          · rw [if_pos q2] at hm
            refine zr_I R0 rfl ?_
            cases hm
            exact hQ _ R0 F0
          · rw [if_neg q2] at hm
            refine ⟨fun q1 => ?_, fun q1 => ?_⟩
            · rw [if_pos q1] at hm
              refine zr_I R0 rfl ?_
              cases hm
              exact hQ _ R0 F0
            · rw [if_neg q1] at hm
              cases hm
              exact hQ _ R0 F0
set_option maxRecDepth 100000 in
set_option maxHeartbeats 4000000 in
theorem z_outcome_L12 {E : Ev} {a0 : Nat} {ad : Nat → Nat} {r' : Int32} {s' : MS} {Q : Int32 → Hp → Prop} {s : MS} {h : Hp} {kc ks : Nat}  (R0 : RepM E h a0 ad s) (hm : M_outcome_L12 s  = some (r', s')) (hQ : ∀ h1, RepM E h1 a0 ad s' → xf (FM a0 ad) h h1 → Q r' h1) : m_X12_outcome_L12 E  h kc ks Q := by
  have F0 : xf (FM a0 ad) h h := xf.rf
  unfold M_outcome_L12 at hm
  unfold m_X12_outcome_L12
  cases hm
  exact hQ _ R0 F0
set_option maxRecDepth 100000 in
set_option maxHeartbeats 4000000 in
theorem z_outcome {E : Ev} {a0 : Nat} {ad : Nat → Nat} {r' : Int32} {s' : MS} {Q : Int32 → Hp → Prop} {s : MS} {h : Hp} {kc ks : Nat} {xp1 : Int32} (R0 : RepM E h a0 ad s) (hm : M_outcome s xp1 = some (r', s')) (hQ : ∀ h1, RepM E h1 a0 ad s' → xf (FM a0 ad) h h1 → Q r' h1)   : m_X12_outcome E a0 xp1 h kc ks Q := by
  have F0 : xf (FM a0 ad) h h := xf.rf
  unfold M_outcome at hm
  unfold m_X12_outcome
  refine ⟨fun q3 => ?_, fun q3 => ?_⟩
  · rw [if_pos q3] at hm
    exact z_outcome_L12 R0 hm (fun h1 R1 f1 => hQ h1 R1 (F0.tr f1))
  · rw [if_neg q3] at hm
    refine zr_I R0 rfl ?_
    refine ⟨fun q2 => ?_, fun q2 => ?_⟩
    · rw [if_pos q2] at hm
      refine zr_R R0 rfl ?_
      have b1 : ¬ (xp1 < 0 ∨ 8 ≤ (xp1).toNatClampNeg) := fun q => by rw [if_pos q] at hm; cases hm
      rw [if_neg b1] at hm
      refine zr_n ?_
      refine zr_a R0 (n := 8) (by decide) b1 ?_
      cases hm
      exact hQ _ R0 F0
    · rw [if_neg q2] at hm
      exact z_outcome_L12 R0 hm (fun h1 R1 f1 => hQ h1 R1 (F0.tr f1))
set_option maxRecDepth 100000 in
set_option maxHeartbeats 4000000 in
theorem z_told {E : Ev} {a0 : Nat} {ad : Nat → Nat} {r' : Int32} {s' : MS} {Q : Int32 → Hp → Prop} {s : MS} {h : Hp} {kc ks : Nat} {xp1 : Int32} {xp2 : Int32} (R0 : RepM E h a0 ad s) (hm : M_told s xp1 xp2 = some (r', s')) (hQ : ∀ h1, RepM E h1 a0 ad s' → xf (FM a0 ad) h h1 → Q r' h1)   : m_X12_told E a0 xp1 xp2 h kc ks Q := by
  have F0 : xf (FM a0 ad) h h := xf.rf
  unfold M_told at hm
  unfold m_X12_told
  refine ⟨fun q10 => ?_, fun q10 => ?_⟩
  · rw [if_pos q10] at hm
    cases hm
    exact hQ _ R0 F0
  · rw [if_neg q10] at hm
    refine zr_I R0 rfl ?_
    refine ⟨fun q9 => ?_, fun q9 => ?_⟩
    · rw [if_pos q9] at hm
      refine ⟨fun q8 => ?_, fun q8 => ?_⟩
      · rw [if_pos q8] at hm
        refine zr_R R0 rfl ?_
        have b7 : ¬ (xp1 < 0 ∨ 16 ≤ (xp1).toNatClampNeg) := fun q => by rw [if_pos q] at hm; cases hm
        rw [if_neg b7] at hm
        refine zr_n ?_
        refine zr_a R0 (n := 16) (by decide) b7 ?_
        cases hm
        exact hQ _ R0 F0
      · rw [if_neg q8] at hm
        refine ⟨fun q6 => ?_, fun q6 => ?_⟩
        · rw [if_pos q6] at hm
          refine zr_R R0 rfl ?_
          have b5 : ¬ (xp1 < 0 ∨ 16 ≤ (xp1).toNatClampNeg) := fun q => by rw [if_pos q] at hm; cases hm
          rw [if_neg b5] at hm
          refine zr_n ?_
          refine zr_a R0 (n := 16) (by decide) b5 ?_
          cases hm
          exact hQ _ R0 F0
        · rw [if_neg q6] at hm
          refine ⟨fun q4 => ?_, fun q4 => ?_⟩
          · rw [if_pos q4] at hm
            refine zr_R R0 rfl ?_
            have b3 : ¬ (xp1 < 0 ∨ 16 ≤ (xp1).toNatClampNeg) := fun q => by rw [if_pos q] at hm; cases hm
            rw [if_neg b3] at hm
            refine zr_n ?_
            refine zr_a R0 (n := 16) (by decide) b3 ?_
            cases hm
            exact hQ _ R0 F0
          · rw [if_neg q4] at hm
            refine ⟨fun q2 => ?_, fun q2 => ?_⟩
            · rw [if_pos q2] at hm
              refine zr_R R0 rfl ?_
              have b1 : ¬ (xp1 < 0 ∨ 16 ≤ (xp1).toNatClampNeg) := fun q => by rw [if_pos q] at hm; cases hm
              rw [if_neg b1] at hm
              refine zr_n ?_
              refine zr_a R0 (n := 16) (by decide) b1 ?_
              cases hm
              exact hQ _ R0 F0
            · rw [if_neg q2] at hm
              cases hm
              exact hQ _ R0 F0
    · rw [if_neg q9] at hm
      cases hm
      exact hQ _ R0 F0
set_option maxRecDepth 100000 in
set_option maxHeartbeats 4000000 in
theorem z_account_L12 {E : Ev} {a0 : Nat} {ad : Nat → Nat} {r' : Int64} {s' : MS} {Q : Int64 → Hp → Prop} {s : MS} {h : Hp} {kc ks : Nat}  (R0 : RepM E h a0 ad s) (hm : M_account_L12 s  = some (r', s')) (hQ : ∀ h1, RepM E h1 a0 ad s' → xf (FM a0 ad) h h1 → Q r' h1) : m_X12_account_L12 E  h kc ks Q := by
  have F0 : xf (FM a0 ad) h h := xf.rf
  unfold M_account_L12 at hm
  unfold m_X12_account_L12
  cases hm
  exact hQ _ R0 F0
set_option maxRecDepth 100000 in
set_option maxHeartbeats 4000000 in
theorem z_account {E : Ev} {a0 : Nat} {ad : Nat → Nat} {r' : Int64} {s' : MS} {Q : Int64 → Hp → Prop} {s : MS} {h : Hp} {kc ks : Nat} {xp1 : Int32} (R0 : RepM E h a0 ad s) (hm : M_account s xp1 = some (r', s')) (hQ : ∀ h1, RepM E h1 a0 ad s' → xf (FM a0 ad) h h1 → Q r' h1)   : m_X12_account E a0 xp1 h kc ks Q := by
  have F0 : xf (FM a0 ad) h h := xf.rf
  unfold M_account at hm
  unfold m_X12_account
  refine ⟨fun q3 => ?_, fun q3 => ?_⟩
  · rw [if_pos q3] at hm
    exact z_account_L12 R0 hm (fun h1 R1 f1 => hQ h1 R1 (F0.tr f1))
  · rw [if_neg q3] at hm
    refine zr_I R0 rfl ?_
    refine ⟨fun q2 => ?_, fun q2 => ?_⟩
    · rw [if_pos q2] at hm
      refine zr_R R0 rfl ?_
      have b1 : ¬ (xp1 < 0 ∨ 16 ≤ (xp1).toNatClampNeg) := fun q => by rw [if_pos q] at hm; cases hm
      rw [if_neg b1] at hm
      refine zr_n ?_
      refine zr_l R0 (by decide) b1 ?_
      cases hm
      exact hQ _ R0 F0
    · rw [if_neg q2] at hm
      exact z_account_L12 R0 hm (fun h1 R1 f1 => hQ h1 R1 (F0.tr f1))
set_option maxRecDepth 100000 in
set_option maxHeartbeats 4000000 in
theorem z_debit_II_L22 {E : Ev} {a0 : Nat} {ad : Nat → Nat} {r' : Int64} {s' : MS} {Q : Int64 → Hp → Prop} {s : MS} {h : Hp} {kc ks : Nat}  (R0 : RepM E h a0 ad s) (hm : M_debit_II_L22 s  = some (r', s')) (hQ : ∀ h1, RepM E h1 a0 ad s' → xf (FM a0 ad) h h1 → Q r' h1) : m_X12_debit__L22 E  h kc ks Q := by
  have F0 : xf (FM a0 ad) h h := xf.rf
  unfold M_debit_II_L22 at hm
  unfold m_X12_debit__L22
  cases hm
  exact hQ _ R0 F0
set_option maxRecDepth 100000 in
set_option maxHeartbeats 4000000 in
theorem z_debit_II {E : Ev} {a0 : Nat} {ad : Nat → Nat} {r' : Int64} {s' : MS} {Q : Int64 → Hp → Prop} {s : MS} {h : Hp} {kc ks : Nat} {xp1 : Int32} {xp2 : Int32} (R0 : RepM E h a0 ad s) (hm : M_debit_II s xp1 xp2 = some (r', s')) (hQ : ∀ h1, RepM E h1 a0 ad s' → xf (FM a0 ad) h h1 → Q r' h1)   : m_X12_debit_ E a0 xp1 xp2 h kc ks Q := by
  have F0 : xf (FM a0 ad) h h := xf.rf
  unfold M_debit_II at hm
  unfold m_X12_debit_
  refine ⟨fun q5 => ?_, fun q5 => ?_⟩
  · rw [if_pos q5] at hm
    exact z_debit_II_L22 R0 hm (fun h1 R1 f1 => hQ h1 R1 (F0.tr f1))
  · rw [if_neg q5] at hm
    refine zr_I R0 rfl ?_
    refine ⟨fun q4 => ?_, fun q4 => ?_⟩
    · rw [if_pos q4] at hm
      exact z_debit_II_L22 R0 hm (fun h1 R1 f1 => hQ h1 R1 (F0.tr f1))
    · rw [if_neg q4] at hm
      refine ⟨fun q3 => ?_, fun q3 => ?_⟩
      · rw [if_pos q3] at hm
        exact z_debit_II_L22 R0 hm (fun h1 R1 f1 => hQ h1 R1 (F0.tr f1))
      · rw [if_neg q3] at hm
        refine ⟨fun q2 => ?_, fun q2 => ?_⟩
        · rw [if_pos q2] at hm
          refine zr_R R0 rfl ?_
          have b1 : ¬ ((7 * xp1) + xp2 < 0 ∨ 4200 ≤ ((7 * xp1) + xp2).toNatClampNeg) := fun q => by rw [if_pos q] at hm; cases hm
          rw [if_neg b1] at hm
          refine zr_n ?_
          refine zr_l R0 (by decide) b1 ?_
          cases hm
          exact hQ _ R0 F0
        · rw [if_neg q2] at hm
          exact z_debit_II_L22 R0 hm (fun h1 R1 f1 => hQ h1 R1 (F0.tr f1))
set_option maxRecDepth 100000 in
set_option maxHeartbeats 4000000 in
theorem z_message {E : Ev} {a0 : Nat} {ad : Nat → Nat} {r' : Int32} {s' : MS} {Q : Int32 → Hp → Prop} {s : MS} {h : Hp} {kc ks : Nat} {xp1 : Int32} {xp2 : Int32} (R0 : RepM E h a0 ad s) (hm : M_message s xp1 xp2 = some (r', s')) (hQ : ∀ h1, RepM E h1 a0 ad s' → xf (FM a0 ad) h h1 → Q r' h1)   : m_X12_message E a0 xp1 xp2 h kc ks Q := by
  have F0 : xf (FM a0 ad) h h := xf.rf
  unfold M_message at hm
  unfold m_X12_message
  obtain ⟨⟨x1, s2⟩, o4, hm⟩ := Option.bind_eq_some_iff.mp hm
  try dsimp only [lt1] at hm
  refine zr_O R0 ?_
  refine z_isMessage R0 o4 (fun h3 R3 f3 => ?_)
  have F3 := F0.tr f3
  refine ⟨fun q15 => ?_, fun q15 => ?_⟩
  · rw [if_pos q15] at hm
    cases hm
    exact hQ _ R3 F3
  · rw [if_neg q15] at hm
    refine ⟨fun q14 => ?_, fun q14 => ?_⟩
    · rw [if_pos q14] at hm
      refine zr_R R3 rfl ?_
      have b13 : ¬ (xp1 < 0 ∨ 60 ≤ (xp1).toNatClampNeg) := fun q => by rw [if_pos q] at hm; cases hm
      rw [if_neg b13] at hm
      refine zr_n ?_
      refine zr_a R3 (n := 60) (by decide) b13 ?_
      cases hm
      exact hQ _ R3 F3
    · rw [if_neg q14] at hm
      refine ⟨fun q12 => ?_, fun q12 => ?_⟩
      · rw [if_pos q12] at hm
        refine zr_R R3 rfl ?_
        have b11 : ¬ (xp1 < 0 ∨ 60 ≤ (xp1).toNatClampNeg) := fun q => by rw [if_pos q] at hm; cases hm
        rw [if_neg b11] at hm
        refine zr_n ?_
        refine zr_a R3 (n := 60) (by decide) b11 ?_
        cases hm
        exact hQ _ R3 F3
      · rw [if_neg q12] at hm
        refine ⟨fun q10 => ?_, fun q10 => ?_⟩
        · rw [if_pos q10] at hm
          refine zr_R R3 rfl ?_
          have b9 : ¬ (xp1 < 0 ∨ 60 ≤ (xp1).toNatClampNeg) := fun q => by rw [if_pos q] at hm; cases hm
          rw [if_neg b9] at hm
          refine zr_n ?_
          refine zr_a R3 (n := 60) (by decide) b9 ?_
          cases hm
          exact hQ _ R3 F3
        · rw [if_neg q10] at hm
          refine ⟨fun q8 => ?_, fun q8 => ?_⟩
          · rw [if_pos q8] at hm
            refine zr_R R3 rfl ?_
            have b7 : ¬ (xp1 < 0 ∨ 60 ≤ (xp1).toNatClampNeg) := fun q => by rw [if_pos q] at hm; cases hm
            rw [if_neg b7] at hm
            refine zr_n ?_
            refine zr_a R3 (n := 60) (by decide) b7 ?_
            cases hm
            exact hQ _ R3 F3
          · rw [if_neg q8] at hm
            refine ⟨fun q6 => ?_, fun q6 => ?_⟩
            · rw [if_pos q6] at hm
              refine zr_R R3 rfl ?_
              have b5 : ¬ (xp1 < 0 ∨ 60 ≤ (xp1).toNatClampNeg) := fun q => by rw [if_pos q] at hm; cases hm
              rw [if_neg b5] at hm
              refine zr_n ?_
              refine zr_a R3 (n := 60) (by decide) b5 ?_
              cases hm
              exact hQ _ R3 F3
            · rw [if_neg q6] at hm
              cases hm
              exact hQ _ R3 F3
set_option maxRecDepth 100000 in
set_option maxHeartbeats 4000000 in
theorem z_at_L22 {E : Ev} {a0 : Nat} {ad : Nat → Nat} {r' : Int32} {s' : MS} {Q : Int32 → Hp → Prop} {s : MS} {h : Hp} {kc ks : Nat}  (R0 : RepM E h a0 ad s) (hm : M_at_L22 s  = some (r', s')) (hQ : ∀ h1, RepM E h1 a0 ad s' → xf (FM a0 ad) h h1 → Q r' h1) : m_X12_at_L22 E  h kc ks Q := by
  have F0 : xf (FM a0 ad) h h := xf.rf
  unfold M_at_L22 at hm
  unfold m_X12_at_L22
  cases hm
  exact hQ _ R0 F0
set_option maxRecDepth 100000 in
set_option maxHeartbeats 4000000 in
theorem z_at {E : Ev} {a0 : Nat} {ad : Nat → Nat} {r' : Int32} {s' : MS} {Q : Int32 → Hp → Prop} {s : MS} {h : Hp} {kc ks : Nat} {xp1 : Int32} {xp2 : Int32} (R0 : RepM E h a0 ad s) (hm : M_at s xp1 xp2 = some (r', s')) (hQ : ∀ h1, RepM E h1 a0 ad s' → xf (FM a0 ad) h h1 → Q r' h1)   : m_X12_at E a0 xp1 xp2 h kc ks Q := by
  have F0 : xf (FM a0 ad) h h := xf.rf
  unfold M_at at hm
  unfold m_X12_at
  obtain ⟨⟨x1, s2⟩, o4, hm⟩ := Option.bind_eq_some_iff.mp hm
  try dsimp only [lt1] at hm
  refine zr_O R0 ?_
  refine z_isMessage R0 o4 (fun h3 R3 f3 => ?_)
  have F3 := F0.tr f3
  refine ⟨fun q9 => ?_, fun q9 => ?_⟩
  · rw [if_pos q9] at hm
    exact z_at_L22 R3 hm (fun h1 R1 f1 => hQ h1 R1 (F3.tr f1))
  · rw [if_neg q9] at hm
    refine ⟨fun q8 => ?_, fun q8 => ?_⟩
    · rw [if_pos q8] at hm
      exact z_at_L22 R3 hm (fun h1 R1 f1 => hQ h1 R1 (F3.tr f1))
    · rw [if_neg q8] at hm
      refine zr_R R3 rfl ?_
      have b5 : ¬ (xp1 < 0 ∨ 60 ≤ (xp1).toNatClampNeg) := fun q => by rw [if_pos q] at hm; cases hm
      rw [if_neg b5] at hm
      refine zr_n ?_
      refine zr_a R3 (n := 60) (by decide) b5 ?_
      refine ⟨fun q7 => ?_, fun q7 => ?_⟩
      · rw [if_pos q7] at hm
        refine zr_R R3 rfl ?_
        have b6 : ¬ ((64 * xp1) + xp2 < 0 ∨ 3840 ≤ ((64 * xp1) + xp2).toNatClampNeg) := fun q => by rw [if_pos q] at hm; cases hm
        rw [if_neg b6] at hm
        refine zr_n ?_
        refine zr_a R3 (n := 3840) (by decide) b6 ?_
        cases hm
        exact hQ _ R3 F3
      · rw [if_neg q7] at hm
        exact z_at_L22 R3 hm (fun h1 R1 f1 => hQ h1 R1 (F3.tr f1))
set_option maxRecDepth 100000 in
set_option maxHeartbeats 4000000 in
theorem z_matched_L110 {E : Ev} {a0 : Nat} {ad : Nat → Nat} {r' : Int32} {s' : MS} {K4 : MS → Int32 → Int32 → Option (Int32 × MS)} {J4 : Nat → Int32 → Int32 → Hp → Nat → Nat → Prop} {K27 : MS → Int32 → Int32 → Int32 → Int32 → Option (Int32 × MS)} {J27 : Nat → Int32 → Int32 → Int32 → Int32 → Hp → Nat → Nat → Prop} {Q : Int32 → Hp → Prop} {s : MS} {h : Hp} {kc ks : Nat} {xv2 : Int32} {xv3 : Int32} {xv5 : Int32} {w0 : Int32} {w1 : Int32} (R0 : RepM E h a0 ad s) (hm : M_matched_L110 s xv2 xv3 xv5 w0 w1 K4 K27 = some (r', s')) (hK4 : ∀ (s1 : MS) (xv1 : Int32) (xv2 : Int32) (h1 : Hp) (kc1 ks1 : Nat), K4 s1 xv1 xv2 = some (r', s') → RepM E h1 a0 ad s1 → xf (FM a0 ad) h h1 → J4 a0 xv1 xv2 h1 kc1 ks1) (hK27 : ∀ (s1 : MS) (xv2 : Int32) (xv3 : Int32) (xv4 : Int32) (xv5 : Int32) (h1 : Hp) (kc1 ks1 : Nat), K27 s1 xv2 xv3 xv4 xv5 = some (r', s') → RepM E h1 a0 ad s1 → xf (FM a0 ad) h h1 → J27 a0 xv2 xv3 xv4 xv5 h1 kc1 ks1) (hQ : ∀ h1, RepM E h1 a0 ad s' → xf (FM a0 ad) h h1 → Q r' h1) : m_X12_matched_L110 E a0 xv2 xv3 xv5 w0 w1 h kc ks J4 J27 Q := by
  have F0 : xf (FM a0 ad) h h := xf.rf
  unfold M_matched_L110 at hm
  unfold m_X12_matched_L110
  exact hK27 _ _ _ _ _ _ _ _ hm R0 F0
set_option maxRecDepth 100000 in
set_option maxHeartbeats 4000000 in
theorem z_matched_L109 {E : Ev} {a0 : Nat} {ad : Nat → Nat} {r' : Int32} {s' : MS} {K4 : MS → Int32 → Int32 → Option (Int32 × MS)} {J4 : Nat → Int32 → Int32 → Hp → Nat → Nat → Prop} {K27 : MS → Int32 → Int32 → Int32 → Int32 → Option (Int32 × MS)} {J27 : Nat → Int32 → Int32 → Int32 → Int32 → Hp → Nat → Nat → Prop} {Q : Int32 → Hp → Prop} {s : MS} {h : Hp} {kc ks : Nat} {xv2 : Int32} {xv3 : Int32} {xv5 : Int32} {w0 : Int32} (R0 : RepM E h a0 ad s) (hm : M_matched_L109 s xv2 xv3 xv5 w0 K4 K27 = some (r', s')) (hK4 : ∀ (s1 : MS) (xv1 : Int32) (xv2 : Int32) (h1 : Hp) (kc1 ks1 : Nat), K4 s1 xv1 xv2 = some (r', s') → RepM E h1 a0 ad s1 → xf (FM a0 ad) h h1 → J4 a0 xv1 xv2 h1 kc1 ks1) (hK27 : ∀ (s1 : MS) (xv2 : Int32) (xv3 : Int32) (xv4 : Int32) (xv5 : Int32) (h1 : Hp) (kc1 ks1 : Nat), K27 s1 xv2 xv3 xv4 xv5 = some (r', s') → RepM E h1 a0 ad s1 → xf (FM a0 ad) h h1 → J27 a0 xv2 xv3 xv4 xv5 h1 kc1 ks1) (hQ : ∀ h1, RepM E h1 a0 ad s' → xf (FM a0 ad) h h1 → Q r' h1) : m_X12_matched_L109 E a0 xv2 xv3 xv5 w0 h kc ks J4 J27 Q := by
  have F0 : xf (FM a0 ad) h h := xf.rf
  unfold M_matched_L109 at hm
  unfold m_X12_matched_L109
  exact z_matched_L110 R0 hm (fun u1 v0 v1 g1 kc1 ks1 j1 P1 f1 => hK4 u1 v0 v1 g1 kc1 ks1 j1 P1 (F0.tr f1)) (fun u1 v0 v1 v2 v3 g1 kc1 ks1 j1 P1 f1 => hK27 u1 v0 v1 v2 v3 g1 kc1 ks1 j1 P1 (F0.tr f1)) (fun h1 R1 f1 => hQ h1 R1 (F0.tr f1))
set_option maxRecDepth 100000 in
set_option maxHeartbeats 4000000 in
theorem z_matched_L183 {E : Ev} {a0 : Nat} {ad : Nat → Nat} {r' : Int32} {s' : MS} {K4 : MS → Int32 → Int32 → Option (Int32 × MS)} {J4 : Nat → Int32 → Int32 → Hp → Nat → Nat → Prop} {K125 : MS → Int32 → Int32 → Int32 → Int32 → Int32 → Option (Int32 × MS)} {J125 : Nat → Int32 → Int32 → Int32 → Int32 → Int32 → Hp → Nat → Nat → Prop} {K140 : MS → Int32 → Int32 → Int32 → Int32 → Int32 → Int32 → Int32 → Option (Int32 × MS)} {J140 : Nat → Int32 → Int32 → Int32 → Int32 → Int32 → Int32 → Int32 → Hp → Nat → Nat → Prop} {Q : Int32 → Hp → Prop} {s : MS} {h : Hp} {kc ks : Nat} {xv2 : Int32} {xv3 : Int32} {xv4 : Int32} {xv5 : Int32} {xv6 : Int32} {xv8 : Int32} {w0 : Int32} (R0 : RepM E h a0 ad s) (hm : M_matched_L183 s xv2 xv3 xv4 xv5 xv6 xv8 w0 K4 K125 K140 = some (r', s')) (hK4 : ∀ (s1 : MS) (xv1 : Int32) (xv2 : Int32) (h1 : Hp) (kc1 ks1 : Nat), K4 s1 xv1 xv2 = some (r', s') → RepM E h1 a0 ad s1 → xf (FM a0 ad) h h1 → J4 a0 xv1 xv2 h1 kc1 ks1) (hK125 : ∀ (s1 : MS) (xv2 : Int32) (xv3 : Int32) (xv4 : Int32) (xv5 : Int32) (xv6 : Int32) (h1 : Hp) (kc1 ks1 : Nat), K125 s1 xv2 xv3 xv4 xv5 xv6 = some (r', s') → RepM E h1 a0 ad s1 → xf (FM a0 ad) h h1 → J125 a0 xv2 xv3 xv4 xv5 xv6 h1 kc1 ks1) (hK140 : ∀ (s1 : MS) (xv2 : Int32) (xv3 : Int32) (xv4 : Int32) (xv5 : Int32) (xv6 : Int32) (xv7 : Int32) (xv8 : Int32) (h1 : Hp) (kc1 ks1 : Nat), K140 s1 xv2 xv3 xv4 xv5 xv6 xv7 xv8 = some (r', s') → RepM E h1 a0 ad s1 → xf (FM a0 ad) h h1 → J140 a0 xv2 xv3 xv4 xv5 xv6 xv7 xv8 h1 kc1 ks1) (hQ : ∀ h1, RepM E h1 a0 ad s' → xf (FM a0 ad) h h1 → Q r' h1) : m_X12_matched_L183 E a0 xv2 xv3 xv4 xv5 xv6 xv8 w0 h kc ks J4 J125 J140 Q := by
  have F0 : xf (FM a0 ad) h h := xf.rf
  unfold M_matched_L183 at hm
  unfold m_X12_matched_L183
  exact hK140 _ _ _ _ _ _ _ _ _ _ _ hm R0 F0
set_option maxRecDepth 100000 in
set_option maxHeartbeats 4000000 in
theorem z_matched_L182 {E : Ev} {a0 : Nat} {ad : Nat → Nat} {r' : Int32} {s' : MS} {K4 : MS → Int32 → Int32 → Option (Int32 × MS)} {J4 : Nat → Int32 → Int32 → Hp → Nat → Nat → Prop} {K125 : MS → Int32 → Int32 → Int32 → Int32 → Int32 → Option (Int32 × MS)} {J125 : Nat → Int32 → Int32 → Int32 → Int32 → Int32 → Hp → Nat → Nat → Prop} {K140 : MS → Int32 → Int32 → Int32 → Int32 → Int32 → Int32 → Int32 → Option (Int32 × MS)} {J140 : Nat → Int32 → Int32 → Int32 → Int32 → Int32 → Int32 → Int32 → Hp → Nat → Nat → Prop} {Q : Int32 → Hp → Prop} {s : MS} {h : Hp} {kc ks : Nat} {xv2 : Int32} {xv3 : Int32} {xv4 : Int32} {xv5 : Int32} {xv6 : Int32} {xv8 : Int32} (R0 : RepM E h a0 ad s) (hm : M_matched_L182 s xv2 xv3 xv4 xv5 xv6 xv8 K4 K125 K140 = some (r', s')) (hK4 : ∀ (s1 : MS) (xv1 : Int32) (xv2 : Int32) (h1 : Hp) (kc1 ks1 : Nat), K4 s1 xv1 xv2 = some (r', s') → RepM E h1 a0 ad s1 → xf (FM a0 ad) h h1 → J4 a0 xv1 xv2 h1 kc1 ks1) (hK125 : ∀ (s1 : MS) (xv2 : Int32) (xv3 : Int32) (xv4 : Int32) (xv5 : Int32) (xv6 : Int32) (h1 : Hp) (kc1 ks1 : Nat), K125 s1 xv2 xv3 xv4 xv5 xv6 = some (r', s') → RepM E h1 a0 ad s1 → xf (FM a0 ad) h h1 → J125 a0 xv2 xv3 xv4 xv5 xv6 h1 kc1 ks1) (hK140 : ∀ (s1 : MS) (xv2 : Int32) (xv3 : Int32) (xv4 : Int32) (xv5 : Int32) (xv6 : Int32) (xv7 : Int32) (xv8 : Int32) (h1 : Hp) (kc1 ks1 : Nat), K140 s1 xv2 xv3 xv4 xv5 xv6 xv7 xv8 = some (r', s') → RepM E h1 a0 ad s1 → xf (FM a0 ad) h h1 → J140 a0 xv2 xv3 xv4 xv5 xv6 xv7 xv8 h1 kc1 ks1) (hQ : ∀ h1, RepM E h1 a0 ad s' → xf (FM a0 ad) h h1 → Q r' h1) : m_X12_matched_L182 E a0 xv2 xv3 xv4 xv5 xv6 xv8 h kc ks J4 J125 J140 Q := by
  have F0 : xf (FM a0 ad) h h := xf.rf
  unfold M_matched_L182 at hm
  unfold m_X12_matched_L182
  exact z_matched_L183 R0 hm (fun u1 v0 v1 g1 kc1 ks1 j1 P1 f1 => hK4 u1 v0 v1 g1 kc1 ks1 j1 P1 (F0.tr f1)) (fun u1 v0 v1 v2 v3 v4 g1 kc1 ks1 j1 P1 f1 => hK125 u1 v0 v1 v2 v3 v4 g1 kc1 ks1 j1 P1 (F0.tr f1)) (fun u1 v0 v1 v2 v3 v4 v5 v6 g1 kc1 ks1 j1 P1 f1 => hK140 u1 v0 v1 v2 v3 v4 v5 v6 g1 kc1 ks1 j1 P1 (F0.tr f1)) (fun h1 R1 f1 => hQ h1 R1 (F0.tr f1))
set_option maxRecDepth 100000 in
set_option maxHeartbeats 4000000 in
theorem z_matched_L206 {E : Ev} {a0 : Nat} {ad : Nat → Nat} {r' : Int32} {s' : MS} {K4 : MS → Int32 → Int32 → Option (Int32 × MS)} {J4 : Nat → Int32 → Int32 → Hp → Nat → Nat → Prop} {K125 : MS → Int32 → Int32 → Int32 → Int32 → Int32 → Option (Int32 × MS)} {J125 : Nat → Int32 → Int32 → Int32 → Int32 → Int32 → Hp → Nat → Nat → Prop} {Q : Int32 → Hp → Prop} {s : MS} {h : Hp} {kc ks : Nat} {xv2 : Int32} {xv3 : Int32} {xv4 : Int32} {xv6 : Int32} {w0 : Int32} (R0 : RepM E h a0 ad s) (hm : M_matched_L206 s xv2 xv3 xv4 xv6 w0 K4 K125 = some (r', s')) (hK4 : ∀ (s1 : MS) (xv1 : Int32) (xv2 : Int32) (h1 : Hp) (kc1 ks1 : Nat), K4 s1 xv1 xv2 = some (r', s') → RepM E h1 a0 ad s1 → xf (FM a0 ad) h h1 → J4 a0 xv1 xv2 h1 kc1 ks1) (hK125 : ∀ (s1 : MS) (xv2 : Int32) (xv3 : Int32) (xv4 : Int32) (xv5 : Int32) (xv6 : Int32) (h1 : Hp) (kc1 ks1 : Nat), K125 s1 xv2 xv3 xv4 xv5 xv6 = some (r', s') → RepM E h1 a0 ad s1 → xf (FM a0 ad) h h1 → J125 a0 xv2 xv3 xv4 xv5 xv6 h1 kc1 ks1) (hQ : ∀ h1, RepM E h1 a0 ad s' → xf (FM a0 ad) h h1 → Q r' h1) : m_X12_matched_L206 E a0 xv2 xv3 xv4 xv6 w0 h kc ks J4 J125 Q := by
  have F0 : xf (FM a0 ad) h h := xf.rf
  unfold M_matched_L206 at hm
  unfold m_X12_matched_L206
  exact hK125 _ _ _ _ _ _ _ _ _ hm R0 F0
set_option maxRecDepth 100000 in
set_option maxHeartbeats 4000000 in
theorem z_matched_L201 {E : Ev} {a0 : Nat} {ad : Nat → Nat} {r' : Int32} {s' : MS} {K4 : MS → Int32 → Int32 → Option (Int32 × MS)} {J4 : Nat → Int32 → Int32 → Hp → Nat → Nat → Prop} {K125 : MS → Int32 → Int32 → Int32 → Int32 → Int32 → Option (Int32 × MS)} {J125 : Nat → Int32 → Int32 → Int32 → Int32 → Int32 → Hp → Nat → Nat → Prop} {Q : Int32 → Hp → Prop} {s : MS} {h : Hp} {kc ks : Nat} {xv2 : Int32} {xv3 : Int32} {xv4 : Int32} {xv6 : Int32} (R0 : RepM E h a0 ad s) (hm : M_matched_L201 s xv2 xv3 xv4 xv6 K4 K125 = some (r', s')) (hK4 : ∀ (s1 : MS) (xv1 : Int32) (xv2 : Int32) (h1 : Hp) (kc1 ks1 : Nat), K4 s1 xv1 xv2 = some (r', s') → RepM E h1 a0 ad s1 → xf (FM a0 ad) h h1 → J4 a0 xv1 xv2 h1 kc1 ks1) (hK125 : ∀ (s1 : MS) (xv2 : Int32) (xv3 : Int32) (xv4 : Int32) (xv5 : Int32) (xv6 : Int32) (h1 : Hp) (kc1 ks1 : Nat), K125 s1 xv2 xv3 xv4 xv5 xv6 = some (r', s') → RepM E h1 a0 ad s1 → xf (FM a0 ad) h h1 → J125 a0 xv2 xv3 xv4 xv5 xv6 h1 kc1 ks1) (hQ : ∀ h1, RepM E h1 a0 ad s' → xf (FM a0 ad) h h1 → Q r' h1) : m_X12_matched_L201 E a0 xv2 xv3 xv4 xv6 h kc ks J4 J125 Q := by
  have F0 : xf (FM a0 ad) h h := xf.rf
  unfold M_matched_L201 at hm
  unfold m_X12_matched_L201
  exact z_matched_L206 R0 hm (fun u1 v0 v1 g1 kc1 ks1 j1 P1 f1 => hK4 u1 v0 v1 g1 kc1 ks1 j1 P1 (F0.tr f1)) (fun u1 v0 v1 v2 v3 v4 g1 kc1 ks1 j1 P1 f1 => hK125 u1 v0 v1 v2 v3 v4 g1 kc1 ks1 j1 P1 (F0.tr f1)) (fun h1 R1 f1 => hQ h1 R1 (F0.tr f1))
set_option maxRecDepth 100000 in
set_option maxHeartbeats 4000000 in
theorem z_matched_L140 {E : Ev} {a0 : Nat} {ad : Nat → Nat} {r' : Int32} {s' : MS} {K4 : MS → Int32 → Int32 → Option (Int32 × MS)} {J4 : Nat → Int32 → Int32 → Hp → Nat → Nat → Prop} {K125 : MS → Int32 → Int32 → Int32 → Int32 → Int32 → Option (Int32 × MS)} {J125 : Nat → Int32 → Int32 → Int32 → Int32 → Int32 → Hp → Nat → Nat → Prop} {Q : Int32 → Hp → Prop} : ∀ (n : Nat) {s : MS} {h : Hp} {kc ks : Nat} {xv2 : Int32} {xv3 : Int32} {xv4 : Int32} {xv5 : Int32} {xv6 : Int32} {xv7 : Int32} {xv8 : Int32} (R0 : RepM E h a0 ad s) (hm : M_matched_L140 n s xv2 xv3 xv4 xv5 xv6 xv7 xv8 K4 K125 = some (r', s')) (hK4 : ∀ (s1 : MS) (xv1 : Int32) (xv2 : Int32) (h1 : Hp) (kc1 ks1 : Nat), K4 s1 xv1 xv2 = some (r', s') → RepM E h1 a0 ad s1 → xf (FM a0 ad) h h1 → J4 a0 xv1 xv2 h1 kc1 ks1) (hK125 : ∀ (s1 : MS) (xv2 : Int32) (xv3 : Int32) (xv4 : Int32) (xv5 : Int32) (xv6 : Int32) (h1 : Hp) (kc1 ks1 : Nat), K125 s1 xv2 xv3 xv4 xv5 xv6 = some (r', s') → RepM E h1 a0 ad s1 → xf (FM a0 ad) h h1 → J125 a0 xv2 xv3 xv4 xv5 xv6 h1 kc1 ks1) (hQ : ∀ h1, RepM E h1 a0 ad s' → xf (FM a0 ad) h h1 → Q r' h1), m_X12_matched_L140 n E a0 xv2 xv3 xv4 xv5 xv6 xv7 xv8 h kc ks J4 J125 Q := by
  intro n
  induction n with
  | zero => intro s h kc ks xv2 xv3 xv4 xv5 xv6 xv7 xv8 R0 hm; cases hm
  | succ n ih =>
    intro s h kc ks xv2 xv3 xv4 xv5 xv6 xv7 xv8 R0 hm hK4 hK125 hQ
    have F0 : xf (FM a0 ad) h h := xf.rf
    unfold M_matched_L140 at hm
    unfold m_X12_matched_L140
    refine ⟨fun q22 => ?_, fun q22 => ?_⟩
    · rw [if_pos q22] at hm
      refine ⟨fun q17 => ?_, fun q17 => ?_⟩
      · rw [if_pos q17] at hm
        refine ⟨fun q16 => ?_, fun q16 => ?_⟩
        · rw [if_pos q16] at hm
          exact z_matched_L206 R0 hm (fun u1 v0 v1 g1 kc1 ks1 j1 P1 f1 => hK4 u1 v0 v1 g1 kc1 ks1 j1 P1 (F0.tr f1)) (fun u1 v0 v1 v2 v3 v4 g1 kc1 ks1 j1 P1 f1 => hK125 u1 v0 v1 v2 v3 v4 g1 kc1 ks1 j1 P1 (F0.tr f1)) (fun h1 R1 f1 => hQ h1 R1 (F0.tr f1))
        · rw [if_neg q16] at hm
          exact z_matched_L201 R0 hm (fun u1 v0 v1 g1 kc1 ks1 j1 P1 f1 => hK4 u1 v0 v1 g1 kc1 ks1 j1 P1 (F0.tr f1)) (fun u1 v0 v1 v2 v3 v4 g1 kc1 ks1 j1 P1 f1 => hK125 u1 v0 v1 v2 v3 v4 g1 kc1 ks1 j1 P1 (F0.tr f1)) (fun h1 R1 f1 => hQ h1 R1 (F0.tr f1))
      · rw [if_neg q17] at hm
        exact z_matched_L201 R0 hm (fun u1 v0 v1 g1 kc1 ks1 j1 P1 f1 => hK4 u1 v0 v1 g1 kc1 ks1 j1 P1 (F0.tr f1)) (fun u1 v0 v1 v2 v3 v4 g1 kc1 ks1 j1 P1 f1 => hK125 u1 v0 v1 v2 v3 v4 g1 kc1 ks1 j1 P1 (F0.tr f1)) (fun h1 R1 f1 => hQ h1 R1 (F0.tr f1))
    · rw [if_neg q22] at hm
      refine ⟨fun q21 => ?_, fun q21 => ?_⟩
      · rw [if_pos q21] at hm
        exact z_matched_L182 R0 hm (fun u1 v0 v1 g1 kc1 ks1 j1 P1 f1 => hK4 u1 v0 v1 g1 kc1 ks1 j1 P1 (F0.tr f1)) (fun u1 v0 v1 v2 v3 v4 g1 kc1 ks1 j1 P1 f1 => hK125 u1 v0 v1 v2 v3 v4 g1 kc1 ks1 j1 P1 (F0.tr f1)) (fun u1 v0 v1 v2 v3 v4 v5 v6 g1 kc1 ks1 j1 P1 f1 => ih P1 j1 (fun u2 v0 v1 g2 kc2 ks2 j2 P2 f2 => hK4 u2 v0 v1 g2 kc2 ks2 j2 P2 ((F0.tr f1).tr f2)) (fun u2 v0 v1 v2 v3 v4 g2 kc2 ks2 j2 P2 f2 => hK125 u2 v0 v1 v2 v3 v4 g2 kc2 ks2 j2 P2 ((F0.tr f1).tr f2)) (fun h2 R2 f2 => hQ h2 R2 ((F0.tr f1).tr f2))) (fun h1 R1 f1 => hQ h1 R1 (F0.tr f1))
      · rw [if_neg q21] at hm
        refine zr_R R0 rfl ?_
        have b18 : ¬ ((7 * xv6) + xv8 < 0 ∨ 4200 ≤ ((7 * xv6) + xv8).toNatClampNeg) := fun q => by rw [if_pos q] at hm; cases hm
        rw [if_neg b18] at hm
        refine zr_n ?_
        refine zr_l R0 (by decide) b18 ?_
        refine zr_R R0 rfl ?_
        have b19 : ¬ (xv3 + xv8 < 0 ∨ 4200 ≤ (xv3 + xv8).toNatClampNeg) := fun q => by rw [if_pos q] at hm; cases hm
        rw [if_neg b19] at hm
        refine zr_n ?_
        refine zr_l R0 (by decide) b19 ?_
        refine ⟨fun q20 => ?_, fun q20 => ?_⟩
        · rw [if_pos q20] at hm
          exact z_matched_L183 R0 hm (fun u1 v0 v1 g1 kc1 ks1 j1 P1 f1 => hK4 u1 v0 v1 g1 kc1 ks1 j1 P1 (F0.tr f1)) (fun u1 v0 v1 v2 v3 v4 g1 kc1 ks1 j1 P1 f1 => hK125 u1 v0 v1 v2 v3 v4 g1 kc1 ks1 j1 P1 (F0.tr f1)) (fun u1 v0 v1 v2 v3 v4 v5 v6 g1 kc1 ks1 j1 P1 f1 => ih P1 j1 (fun u2 v0 v1 g2 kc2 ks2 j2 P2 f2 => hK4 u2 v0 v1 g2 kc2 ks2 j2 P2 ((F0.tr f1).tr f2)) (fun u2 v0 v1 v2 v3 v4 g2 kc2 ks2 j2 P2 f2 => hK125 u2 v0 v1 v2 v3 v4 g2 kc2 ks2 j2 P2 ((F0.tr f1).tr f2)) (fun h2 R2 f2 => hQ h2 R2 ((F0.tr f1).tr f2))) (fun h1 R1 f1 => hQ h1 R1 (F0.tr f1))
        · rw [if_neg q20] at hm
          exact z_matched_L182 R0 hm (fun u1 v0 v1 g1 kc1 ks1 j1 P1 f1 => hK4 u1 v0 v1 g1 kc1 ks1 j1 P1 (F0.tr f1)) (fun u1 v0 v1 v2 v3 v4 g1 kc1 ks1 j1 P1 f1 => hK125 u1 v0 v1 v2 v3 v4 g1 kc1 ks1 j1 P1 (F0.tr f1)) (fun u1 v0 v1 v2 v3 v4 v5 v6 g1 kc1 ks1 j1 P1 f1 => ih P1 j1 (fun u2 v0 v1 g2 kc2 ks2 j2 P2 f2 => hK4 u2 v0 v1 g2 kc2 ks2 j2 P2 ((F0.tr f1).tr f2)) (fun u2 v0 v1 v2 v3 v4 g2 kc2 ks2 j2 P2 f2 => hK125 u2 v0 v1 v2 v3 v4 g2 kc2 ks2 j2 P2 ((F0.tr f1).tr f2)) (fun h2 R2 f2 => hQ h2 R2 ((F0.tr f1).tr f2))) (fun h1 R1 f1 => hQ h1 R1 (F0.tr f1))
set_option maxRecDepth 100000 in
set_option maxHeartbeats 4000000 in
theorem z_matched_L293 {E : Ev} {a0 : Nat} {ad : Nat → Nat} {r' : Int32} {s' : MS} {K4 : MS → Int32 → Int32 → Option (Int32 × MS)} {J4 : Nat → Int32 → Int32 → Hp → Nat → Nat → Prop} {K234 : MS → Int32 → Int32 → Int32 → Int32 → Option (Int32 × MS)} {J234 : Nat → Int32 → Int32 → Int32 → Int32 → Hp → Nat → Nat → Prop} {Q : Int32 → Hp → Prop} {s : MS} {h : Hp} {kc ks : Nat} {xv2 : Int32} {xv3 : Int32} {xv6 : Int32} {w0 : Int32} (R0 : RepM E h a0 ad s) (hm : M_matched_L293 s xv2 xv3 xv6 w0 K4 K234 = some (r', s')) (hK4 : ∀ (s1 : MS) (xv1 : Int32) (xv2 : Int32) (h1 : Hp) (kc1 ks1 : Nat), K4 s1 xv1 xv2 = some (r', s') → RepM E h1 a0 ad s1 → xf (FM a0 ad) h h1 → J4 a0 xv1 xv2 h1 kc1 ks1) (hK234 : ∀ (s1 : MS) (xv1 : Int32) (xv2 : Int32) (xv3 : Int32) (xv6 : Int32) (h1 : Hp) (kc1 ks1 : Nat), K234 s1 xv1 xv2 xv3 xv6 = some (r', s') → RepM E h1 a0 ad s1 → xf (FM a0 ad) h h1 → J234 a0 xv1 xv2 xv3 xv6 h1 kc1 ks1) (hQ : ∀ h1, RepM E h1 a0 ad s' → xf (FM a0 ad) h h1 → Q r' h1) : m_X12_matched_L293 E a0 xv2 xv3 xv6 w0 h kc ks J4 J234 Q := by
  have F0 : xf (FM a0 ad) h h := xf.rf
  unfold M_matched_L293 at hm
  unfold m_X12_matched_L293
  exact hK234 _ _ _ _ _ _ _ _ hm R0 F0
set_option maxRecDepth 100000 in
set_option maxHeartbeats 4000000 in
theorem z_matched_L288 {E : Ev} {a0 : Nat} {ad : Nat → Nat} {r' : Int32} {s' : MS} {K4 : MS → Int32 → Int32 → Option (Int32 × MS)} {J4 : Nat → Int32 → Int32 → Hp → Nat → Nat → Prop} {K234 : MS → Int32 → Int32 → Int32 → Int32 → Option (Int32 × MS)} {J234 : Nat → Int32 → Int32 → Int32 → Int32 → Hp → Nat → Nat → Prop} {Q : Int32 → Hp → Prop} {s : MS} {h : Hp} {kc ks : Nat} {xv2 : Int32} {xv3 : Int32} {xv6 : Int32} (R0 : RepM E h a0 ad s) (hm : M_matched_L288 s xv2 xv3 xv6 K4 K234 = some (r', s')) (hK4 : ∀ (s1 : MS) (xv1 : Int32) (xv2 : Int32) (h1 : Hp) (kc1 ks1 : Nat), K4 s1 xv1 xv2 = some (r', s') → RepM E h1 a0 ad s1 → xf (FM a0 ad) h h1 → J4 a0 xv1 xv2 h1 kc1 ks1) (hK234 : ∀ (s1 : MS) (xv1 : Int32) (xv2 : Int32) (xv3 : Int32) (xv6 : Int32) (h1 : Hp) (kc1 ks1 : Nat), K234 s1 xv1 xv2 xv3 xv6 = some (r', s') → RepM E h1 a0 ad s1 → xf (FM a0 ad) h h1 → J234 a0 xv1 xv2 xv3 xv6 h1 kc1 ks1) (hQ : ∀ h1, RepM E h1 a0 ad s' → xf (FM a0 ad) h h1 → Q r' h1) : m_X12_matched_L288 E a0 xv2 xv3 xv6 h kc ks J4 J234 Q := by
  have F0 : xf (FM a0 ad) h h := xf.rf
  unfold M_matched_L288 at hm
  unfold m_X12_matched_L288
  exact z_matched_L293 R0 hm (fun u1 v0 v1 g1 kc1 ks1 j1 P1 f1 => hK4 u1 v0 v1 g1 kc1 ks1 j1 P1 (F0.tr f1)) (fun u1 v0 v1 v2 v3 g1 kc1 ks1 j1 P1 f1 => hK234 u1 v0 v1 v2 v3 g1 kc1 ks1 j1 P1 (F0.tr f1)) (fun h1 R1 f1 => hQ h1 R1 (F0.tr f1))
set_option maxRecDepth 100000 in
set_option maxHeartbeats 4000000 in
theorem z_matched_L292 {E : Ev} {a0 : Nat} {ad : Nat → Nat} {r' : Int32} {s' : MS} {K4 : MS → Int32 → Int32 → Option (Int32 × MS)} {J4 : Nat → Int32 → Int32 → Hp → Nat → Nat → Prop} {K234 : MS → Int32 → Int32 → Int32 → Int32 → Option (Int32 × MS)} {J234 : Nat → Int32 → Int32 → Int32 → Int32 → Hp → Nat → Nat → Prop} {Q : Int32 → Hp → Prop} {s : MS} {h : Hp} {kc ks : Nat} {xv2 : Int32} {xv3 : Int32} {xv6 : Int32} (R0 : RepM E h a0 ad s) (hm : M_matched_L292 s xv2 xv3 xv6 K4 K234 = some (r', s')) (hK4 : ∀ (s1 : MS) (xv1 : Int32) (xv2 : Int32) (h1 : Hp) (kc1 ks1 : Nat), K4 s1 xv1 xv2 = some (r', s') → RepM E h1 a0 ad s1 → xf (FM a0 ad) h h1 → J4 a0 xv1 xv2 h1 kc1 ks1) (hK234 : ∀ (s1 : MS) (xv1 : Int32) (xv2 : Int32) (xv3 : Int32) (xv6 : Int32) (h1 : Hp) (kc1 ks1 : Nat), K234 s1 xv1 xv2 xv3 xv6 = some (r', s') → RepM E h1 a0 ad s1 → xf (FM a0 ad) h h1 → J234 a0 xv1 xv2 xv3 xv6 h1 kc1 ks1) (hQ : ∀ h1, RepM E h1 a0 ad s' → xf (FM a0 ad) h h1 → Q r' h1) : m_X12_matched_L292 E a0 xv2 xv3 xv6 h kc ks J4 J234 Q := by
  have F0 : xf (FM a0 ad) h h := xf.rf
  unfold M_matched_L292 at hm
  unfold m_X12_matched_L292
  exact z_matched_L293 R0 hm (fun u1 v0 v1 g1 kc1 ks1 j1 P1 f1 => hK4 u1 v0 v1 g1 kc1 ks1 j1 P1 (F0.tr f1)) (fun u1 v0 v1 v2 v3 g1 kc1 ks1 j1 P1 f1 => hK234 u1 v0 v1 v2 v3 g1 kc1 ks1 j1 P1 (F0.tr f1)) (fun h1 R1 f1 => hQ h1 R1 (F0.tr f1))
set_option maxRecDepth 100000 in
set_option maxHeartbeats 4000000 in
theorem z_matched_L234 {E : Ev} {a0 : Nat} {ad : Nat → Nat} {r' : Int32} {s' : MS} {K4 : MS → Int32 → Int32 → Option (Int32 × MS)} {J4 : Nat → Int32 → Int32 → Hp → Nat → Nat → Prop} {Q : Int32 → Hp → Prop} : ∀ (n : Nat) {s : MS} {h : Hp} {kc ks : Nat} {xv1 : Int32} {xv2 : Int32} {xv3 : Int32} {xv6 : Int32} (R0 : RepM E h a0 ad s) (hm : M_matched_L234 n s xv1 xv2 xv3 xv6 K4 = some (r', s')) (hK4 : ∀ (s1 : MS) (xv1 : Int32) (xv2 : Int32) (h1 : Hp) (kc1 ks1 : Nat), K4 s1 xv1 xv2 = some (r', s') → RepM E h1 a0 ad s1 → xf (FM a0 ad) h h1 → J4 a0 xv1 xv2 h1 kc1 ks1) (hQ : ∀ h1, RepM E h1 a0 ad s' → xf (FM a0 ad) h h1 → Q r' h1), m_X12_matched_L234 n E a0 xv1 xv2 xv3 xv6 h kc ks J4 Q := by
  intro n
  induction n with
  | zero => intro s h kc ks xv1 xv2 xv3 xv6 R0 hm; cases hm
  | succ n ih =>
    intro s h kc ks xv1 xv2 xv3 xv6 R0 hm hK4 hQ
    have F0 : xf (FM a0 ad) h h := xf.rf
    unfold M_matched_L234 at hm
    unfold m_X12_matched_L234
    refine ⟨fun q30 => ?_, fun q30 => ?_⟩
    · rw [if_pos q30] at hm
      exact hK4 _ _ _ _ _ _ hm R0 F0
    · rw [if_neg q30] at hm
      refine ⟨fun q29 => ?_, fun q29 => ?_⟩
      · rw [if_pos q29] at hm
        exact z_matched_L292 R0 hm (fun u1 v0 v1 g1 kc1 ks1 j1 P1 f1 => hK4 u1 v0 v1 g1 kc1 ks1 j1 P1 (F0.tr f1)) (fun u1 v0 v1 v2 v3 g1 kc1 ks1 j1 P1 f1 => ih P1 j1 (fun u2 v0 v1 g2 kc2 ks2 j2 P2 f2 => hK4 u2 v0 v1 g2 kc2 ks2 j2 P2 ((F0.tr f1).tr f2)) (fun h2 R2 f2 => hQ h2 R2 ((F0.tr f1).tr f2))) (fun h1 R1 f1 => hQ h1 R1 (F0.tr f1))
      · rw [if_neg q29] at hm
        refine zr_R R0 rfl ?_
        have b23 : ¬ (7 * xv6 < 0 ∨ 4200 ≤ (7 * xv6).toNatClampNeg) := fun q => by rw [if_pos q] at hm; cases hm
        rw [if_neg b23] at hm
        refine zr_n ?_
        refine zr_l R0 (by decide) b23 ?_
        refine zr_R R0 rfl ?_
        have b24 : ¬ (xv3 < 0 ∨ 4200 ≤ (xv3).toNatClampNeg) := fun q => by rw [if_pos q] at hm; cases hm
        rw [if_neg b24] at hm
        refine zr_n ?_
        refine zr_l R0 (by decide) b24 ?_
        refine ⟨fun q28 => ?_, fun q28 => ?_⟩
        · rw [if_pos q28] at hm
          refine zr_R R0 rfl ?_
          have b25 : ¬ ((7 * xv6) + 1 < 0 ∨ 4200 ≤ ((7 * xv6) + 1).toNatClampNeg) := fun q => by rw [if_pos q] at hm; cases hm
          rw [if_neg b25] at hm
          refine zr_n ?_
          refine zr_l R0 (by decide) b25 ?_
          refine zr_R R0 rfl ?_
          have b26 : ¬ (xv3 + 1 < 0 ∨ 4200 ≤ (xv3 + 1).toNatClampNeg) := fun q => by rw [if_pos q] at hm; cases hm
          rw [if_neg b26] at hm
          refine zr_n ?_
          refine zr_l R0 (by decide) b26 ?_
          refine ⟨fun q27 => ?_, fun q27 => ?_⟩
          · rw [if_pos q27] at hm
            exact z_matched_L292 R0 hm (fun u1 v0 v1 g1 kc1 ks1 j1 P1 f1 => hK4 u1 v0 v1 g1 kc1 ks1 j1 P1 (F0.tr f1)) (fun u1 v0 v1 v2 v3 g1 kc1 ks1 j1 P1 f1 => ih P1 j1 (fun u2 v0 v1 g2 kc2 ks2 j2 P2 f2 => hK4 u2 v0 v1 g2 kc2 ks2 j2 P2 ((F0.tr f1).tr f2)) (fun h2 R2 f2 => hQ h2 R2 ((F0.tr f1).tr f2))) (fun h1 R1 f1 => hQ h1 R1 (F0.tr f1))
          · rw [if_neg q27] at hm
            exact z_matched_L288 R0 hm (fun u1 v0 v1 g1 kc1 ks1 j1 P1 f1 => hK4 u1 v0 v1 g1 kc1 ks1 j1 P1 (F0.tr f1)) (fun u1 v0 v1 v2 v3 g1 kc1 ks1 j1 P1 f1 => ih P1 j1 (fun u2 v0 v1 g2 kc2 ks2 j2 P2 f2 => hK4 u2 v0 v1 g2 kc2 ks2 j2 P2 ((F0.tr f1).tr f2)) (fun h2 R2 f2 => hQ h2 R2 ((F0.tr f1).tr f2))) (fun h1 R1 f1 => hQ h1 R1 (F0.tr f1))
        · rw [if_neg q28] at hm
          exact z_matched_L288 R0 hm (fun u1 v0 v1 g1 kc1 ks1 j1 P1 f1 => hK4 u1 v0 v1 g1 kc1 ks1 j1 P1 (F0.tr f1)) (fun u1 v0 v1 v2 v3 g1 kc1 ks1 j1 P1 f1 => ih P1 j1 (fun u2 v0 v1 g2 kc2 ks2 j2 P2 f2 => hK4 u2 v0 v1 g2 kc2 ks2 j2 P2 ((F0.tr f1).tr f2)) (fun h2 R2 f2 => hQ h2 R2 ((F0.tr f1).tr f2))) (fun h1 R1 f1 => hQ h1 R1 (F0.tr f1))
set_option maxRecDepth 100000 in
set_option maxHeartbeats 4000000 in
theorem z_matched_L230 {E : Ev} {a0 : Nat} {ad : Nat → Nat} {r' : Int32} {s' : MS} {K4 : MS → Int32 → Int32 → Option (Int32 × MS)} {J4 : Nat → Int32 → Int32 → Hp → Nat → Nat → Prop} {Q : Int32 → Hp → Prop} {s : MS} {h : Hp} {kc ks : Nat} {xv2 : Int32} {xv3 : Int32} {w0 : Int32} (R0 : RepM E h a0 ad s) (hm : M_matched_L230 s xv2 xv3 w0 K4 = some (r', s')) (hK4 : ∀ (s1 : MS) (xv1 : Int32) (xv2 : Int32) (h1 : Hp) (kc1 ks1 : Nat), K4 s1 xv1 xv2 = some (r', s') → RepM E h1 a0 ad s1 → xf (FM a0 ad) h h1 → J4 a0 xv1 xv2 h1 kc1 ks1) (hQ : ∀ h1, RepM E h1 a0 ad s' → xf (FM a0 ad) h h1 → Q r' h1) : m_X12_matched_L230 E a0 xv2 xv3 w0 h kc ks J4 Q := by
  have F0 : xf (FM a0 ad) h h := xf.rf
  unfold M_matched_L230 at hm
  unfold m_X12_matched_L230
  refine ⟨mfu, ?_⟩
  exact z_matched_L234 mfu R0 hm (fun u1 v0 v1 g1 kc1 ks1 j1 P1 f1 => hK4 u1 v0 v1 g1 kc1 ks1 j1 P1 (F0.tr f1)) (fun h1 R1 f1 => hQ h1 R1 (F0.tr f1))
set_option maxRecDepth 100000 in
set_option maxHeartbeats 4000000 in
theorem z_matched_L229 {E : Ev} {a0 : Nat} {ad : Nat → Nat} {r' : Int32} {s' : MS} {K4 : MS → Int32 → Int32 → Option (Int32 × MS)} {J4 : Nat → Int32 → Int32 → Hp → Nat → Nat → Prop} {Q : Int32 → Hp → Prop} {s : MS} {h : Hp} {kc ks : Nat} {xv2 : Int32} {xv3 : Int32} (R0 : RepM E h a0 ad s) (hm : M_matched_L229 s xv2 xv3 K4 = some (r', s')) (hK4 : ∀ (s1 : MS) (xv1 : Int32) (xv2 : Int32) (h1 : Hp) (kc1 ks1 : Nat), K4 s1 xv1 xv2 = some (r', s') → RepM E h1 a0 ad s1 → xf (FM a0 ad) h h1 → J4 a0 xv1 xv2 h1 kc1 ks1) (hQ : ∀ h1, RepM E h1 a0 ad s' → xf (FM a0 ad) h h1 → Q r' h1) : m_X12_matched_L229 E a0 xv2 xv3 h kc ks J4 Q := by
  have F0 : xf (FM a0 ad) h h := xf.rf
  unfold M_matched_L229 at hm
  unfold m_X12_matched_L229
  exact z_matched_L230 R0 hm (fun u1 v0 v1 g1 kc1 ks1 j1 P1 f1 => hK4 u1 v0 v1 g1 kc1 ks1 j1 P1 (F0.tr f1)) (fun h1 R1 f1 => hQ h1 R1 (F0.tr f1))
set_option maxRecDepth 100000 in
set_option maxHeartbeats 4000000 in
theorem z_matched_L125 {E : Ev} {a0 : Nat} {ad : Nat → Nat} {r' : Int32} {s' : MS} {K4 : MS → Int32 → Int32 → Option (Int32 × MS)} {J4 : Nat → Int32 → Int32 → Hp → Nat → Nat → Prop} {Q : Int32 → Hp → Prop} : ∀ (n : Nat) {s : MS} {h : Hp} {kc ks : Nat} {xv2 : Int32} {xv3 : Int32} {xv4 : Int32} {xv5 : Int32} {xv6 : Int32} (R0 : RepM E h a0 ad s) (hm : M_matched_L125 n s xv2 xv3 xv4 xv5 xv6 K4 = some (r', s')) (hK4 : ∀ (s1 : MS) (xv1 : Int32) (xv2 : Int32) (h1 : Hp) (kc1 ks1 : Nat), K4 s1 xv1 xv2 = some (r', s') → RepM E h1 a0 ad s1 → xf (FM a0 ad) h h1 → J4 a0 xv1 xv2 h1 kc1 ks1) (hQ : ∀ h1, RepM E h1 a0 ad s' → xf (FM a0 ad) h h1 → Q r' h1), m_X12_matched_L125 n E a0 xv2 xv3 xv4 xv5 xv6 h kc ks J4 Q := by
  intro n
  induction n with
  | zero => intro s h kc ks xv2 xv3 xv4 xv5 xv6 R0 hm; cases hm
  | succ n ih =>
    intro s h kc ks xv2 xv3 xv4 xv5 xv6 R0 hm hK4 hQ
    have F0 : xf (FM a0 ad) h h := xf.rf
    unfold M_matched_L125 at hm
    unfold m_X12_matched_L125
    refine zr_I R0 rfl ?_
    refine ⟨fun q15 => ?_, fun q15 => ?_⟩
    · rw [if_pos q15] at hm
      refine ⟨fun q14 => ?_, fun q14 => ?_⟩
      · rw [if_pos q14] at hm
        refine ⟨fun q13 => ?_, fun q13 => ?_⟩
        · rw [if_pos q13] at hm
          exact z_matched_L229 R0 hm (fun u1 v0 v1 g1 kc1 ks1 j1 P1 f1 => hK4 u1 v0 v1 g1 kc1 ks1 j1 P1 (F0.tr f1)) (fun h1 R1 f1 => hQ h1 R1 (F0.tr f1))
        · rw [if_neg q13] at hm
          exact z_matched_L230 R0 hm (fun u1 v0 v1 g1 kc1 ks1 j1 P1 f1 => hK4 u1 v0 v1 g1 kc1 ks1 j1 P1 (F0.tr f1)) (fun h1 R1 f1 => hQ h1 R1 (F0.tr f1))
      · rw [if_neg q14] at hm
        exact z_matched_L229 R0 hm (fun u1 v0 v1 g1 kc1 ks1 j1 P1 f1 => hK4 u1 v0 v1 g1 kc1 ks1 j1 P1 (F0.tr f1)) (fun h1 R1 f1 => hQ h1 R1 (F0.tr f1))
    · rw [if_neg q15] at hm
      refine ⟨mfu, ?_⟩
      exact z_matched_L140 mfu R0 hm (fun u1 v0 v1 g1 kc1 ks1 j1 P1 f1 => hK4 u1 v0 v1 g1 kc1 ks1 j1 P1 (F0.tr f1)) (fun u1 v0 v1 v2 v3 v4 g1 kc1 ks1 j1 P1 f1 => ih P1 j1 (fun u2 v0 v1 g2 kc2 ks2 j2 P2 f2 => hK4 u2 v0 v1 g2 kc2 ks2 j2 P2 ((F0.tr f1).tr f2)) (fun h2 R2 f2 => hQ h2 R2 ((F0.tr f1).tr f2))) (fun h1 R1 f1 => hQ h1 R1 (F0.tr f1))
set_option maxRecDepth 100000 in
set_option maxHeartbeats 4000000 in
theorem z_matched_L27 {E : Ev} {a0 : Nat} {ad : Nat → Nat} {r' : Int32} {s' : MS} {K4 : MS → Int32 → Int32 → Option (Int32 × MS)} {J4 : Nat → Int32 → Int32 → Hp → Nat → Nat → Prop} {Q : Int32 → Hp → Prop} : ∀ (n : Nat) {s : MS} {h : Hp} {kc ks : Nat} {xv2 : Int32} {xv3 : Int32} {xv4 : Int32} {xv5 : Int32} (R0 : RepM E h a0 ad s) (hm : M_matched_L27 n s xv2 xv3 xv4 xv5 K4 = some (r', s')) (hK4 : ∀ (s1 : MS) (xv1 : Int32) (xv2 : Int32) (h1 : Hp) (kc1 ks1 : Nat), K4 s1 xv1 xv2 = some (r', s') → RepM E h1 a0 ad s1 → xf (FM a0 ad) h h1 → J4 a0 xv1 xv2 h1 kc1 ks1) (hQ : ∀ h1, RepM E h1 a0 ad s' → xf (FM a0 ad) h h1 → Q r' h1), m_X12_matched_L27 n E a0 xv2 xv3 xv4 xv5 h kc ks J4 Q := by
  intro n
  induction n with
  | zero => intro s h kc ks xv2 xv3 xv4 xv5 R0 hm; cases hm
  | succ n ih =>
    intro s h kc ks xv2 xv3 xv4 xv5 R0 hm hK4 hQ
    have F0 : xf (FM a0 ad) h h := xf.rf
    unfold M_matched_L27 at hm
    unfold m_X12_matched_L27
    refine zr_I R0 rfl ?_
    refine ⟨fun q12 => ?_, fun q12 => ?_⟩
    · rw [if_pos q12] at hm
      refine ⟨mfu, ?_⟩
      exact z_matched_L125 mfu R0 hm (fun u1 v0 v1 g1 kc1 ks1 j1 P1 f1 => hK4 u1 v0 v1 g1 kc1 ks1 j1 P1 (F0.tr f1)) (fun h1 R1 f1 => hQ h1 R1 (F0.tr f1))
    · rw [if_neg q12] at hm
      refine zr_R R0 rfl ?_
      have b3 : ¬ (3 * xv5 < 0 ∨ 1800 ≤ (3 * xv5).toNatClampNeg) := fun q => by rw [if_pos q] at hm; cases hm
      rw [if_neg b3] at hm
      refine zr_n ?_
      refine zr_l R0 (by decide) b3 ?_
      refine zr_R R0 rfl ?_
      have b4 : ¬ (xv3 + 4 < 0 ∨ 4200 ≤ (xv3 + 4).toNatClampNeg) := fun q => by rw [if_pos q] at hm; cases hm
      rw [if_neg b4] at hm
      refine zr_n ?_
      refine zr_l R0 (by decide) b4 ?_
      refine ⟨fun q11 => ?_, fun q11 => ?_⟩
      · rw [if_pos q11] at hm
        refine zr_R R0 rfl ?_
        have b5 : ¬ ((3 * xv5) + 1 < 0 ∨ 1800 ≤ ((3 * xv5) + 1).toNatClampNeg) := fun q => by rw [if_pos q] at hm; cases hm
        rw [if_neg b5] at hm
        refine zr_n ?_
        refine zr_l R0 (by decide) b5 ?_
        refine zr_R R0 rfl ?_
        have b6 : ¬ (xv3 + 2 < 0 ∨ 4200 ≤ (xv3 + 2).toNatClampNeg) := fun q => by rw [if_pos q] at hm; cases hm
        rw [if_neg b6] at hm
        refine zr_n ?_
        refine zr_l R0 (by decide) b6 ?_
        refine ⟨fun q10 => ?_, fun q10 => ?_⟩
        · rw [if_pos q10] at hm
          refine zr_R R0 rfl ?_
          have b7 : ¬ ((3 * xv5) + 2 < 0 ∨ 1800 ≤ ((3 * xv5) + 2).toNatClampNeg) := fun q => by rw [if_pos q] at hm; cases hm
          rw [if_neg b7] at hm
          refine zr_n ?_
          refine zr_l R0 (by decide) b7 ?_
          refine zr_R R0 rfl ?_
          have b8 : ¬ (xv3 + 3 < 0 ∨ 4200 ≤ (xv3 + 3).toNatClampNeg) := fun q => by rw [if_pos q] at hm; cases hm
          rw [if_neg b8] at hm
          refine zr_n ?_
          refine zr_l R0 (by decide) b8 ?_
          refine ⟨fun q9 => ?_, fun q9 => ?_⟩
          · rw [if_pos q9] at hm
            exact z_matched_L110 R0 hm (fun u1 v0 v1 g1 kc1 ks1 j1 P1 f1 => hK4 u1 v0 v1 g1 kc1 ks1 j1 P1 (F0.tr f1)) (fun u1 v0 v1 v2 v3 g1 kc1 ks1 j1 P1 f1 => ih P1 j1 (fun u2 v0 v1 g2 kc2 ks2 j2 P2 f2 => hK4 u2 v0 v1 g2 kc2 ks2 j2 P2 ((F0.tr f1).tr f2)) (fun h2 R2 f2 => hQ h2 R2 ((F0.tr f1).tr f2))) (fun h1 R1 f1 => hQ h1 R1 (F0.tr f1))
          · rw [if_neg q9] at hm
            exact z_matched_L109 R0 hm (fun u1 v0 v1 g1 kc1 ks1 j1 P1 f1 => hK4 u1 v0 v1 g1 kc1 ks1 j1 P1 (F0.tr f1)) (fun u1 v0 v1 v2 v3 g1 kc1 ks1 j1 P1 f1 => ih P1 j1 (fun u2 v0 v1 g2 kc2 ks2 j2 P2 f2 => hK4 u2 v0 v1 g2 kc2 ks2 j2 P2 ((F0.tr f1).tr f2)) (fun h2 R2 f2 => hQ h2 R2 ((F0.tr f1).tr f2))) (fun h1 R1 f1 => hQ h1 R1 (F0.tr f1))
        · rw [if_neg q10] at hm
          exact z_matched_L109 R0 hm (fun u1 v0 v1 g1 kc1 ks1 j1 P1 f1 => hK4 u1 v0 v1 g1 kc1 ks1 j1 P1 (F0.tr f1)) (fun u1 v0 v1 v2 v3 g1 kc1 ks1 j1 P1 f1 => ih P1 j1 (fun u2 v0 v1 g2 kc2 ks2 j2 P2 f2 => hK4 u2 v0 v1 g2 kc2 ks2 j2 P2 ((F0.tr f1).tr f2)) (fun h2 R2 f2 => hQ h2 R2 ((F0.tr f1).tr f2))) (fun h1 R1 f1 => hQ h1 R1 (F0.tr f1))
      · rw [if_neg q11] at hm
        exact z_matched_L109 R0 hm (fun u1 v0 v1 g1 kc1 ks1 j1 P1 f1 => hK4 u1 v0 v1 g1 kc1 ks1 j1 P1 (F0.tr f1)) (fun u1 v0 v1 v2 v3 g1 kc1 ks1 j1 P1 f1 => ih P1 j1 (fun u2 v0 v1 g2 kc2 ks2 j2 P2 f2 => hK4 u2 v0 v1 g2 kc2 ks2 j2 P2 ((F0.tr f1).tr f2)) (fun h2 R2 f2 => hQ h2 R2 ((F0.tr f1).tr f2))) (fun h1 R1 f1 => hQ h1 R1 (F0.tr f1))
set_option maxRecDepth 100000 in
set_option maxHeartbeats 4000000 in
theorem z_matched_L4 {E : Ev} {a0 : Nat} {ad : Nat → Nat} {r' : Int32} {s' : MS} {Q : Int32 → Hp → Prop} : ∀ (n : Nat) {s : MS} {h : Hp} {kc ks : Nat} {xv1 : Int32} {xv2 : Int32} (R0 : RepM E h a0 ad s) (hm : M_matched_L4 n s xv1 xv2 = some (r', s')) (hQ : ∀ h1, RepM E h1 a0 ad s' → xf (FM a0 ad) h h1 → Q r' h1), m_X12_matched_L4 n E a0 xv1 xv2 h kc ks Q := by
  intro n
  induction n with
  | zero => intro s h kc ks xv1 xv2 R0 hm; cases hm
  | succ n ih =>
    intro s h kc ks xv1 xv2 R0 hm  hQ
    have F0 : xf (FM a0 ad) h h := xf.rf
    unfold M_matched_L4 at hm
    unfold m_X12_matched_L4
    refine zr_I R0 rfl ?_
    refine ⟨fun q2 => ?_, fun q2 => ?_⟩
    · rw [if_pos q2] at hm
      by_cases qz : xv1 = 0 ∨ xv1 = 1
      · rw [if_pos qz] at hm
        cases hm
        exact ⟨qz, hQ _ R0 F0⟩
      · rw [if_neg qz] at hm
        cases hm
    · rw [if_neg q2] at hm
      refine ⟨fun q1 => ?_, fun q1 => ?_⟩
      · rw [if_pos q1] at hm
        by_cases qz : xv1 = 0 ∨ xv1 = 1
        · rw [if_pos qz] at hm
          cases hm
          exact ⟨qz, hQ _ R0 F0⟩
        · rw [if_neg qz] at hm
          cases hm
      · rw [if_neg q1] at hm
        refine ⟨mfu, ?_⟩
        exact z_matched_L27 mfu R0 hm (fun u1 v0 v1 g1 kc1 ks1 j1 P1 f1 => ih P1 j1 (fun h2 R2 f2 => hQ h2 R2 ((F0.tr f1).tr f2))) (fun h1 R1 f1 => hQ h1 R1 (F0.tr f1))
set_option maxRecDepth 100000 in
set_option maxHeartbeats 4000000 in
theorem z_matched {E : Ev} {a0 : Nat} {ad : Nat → Nat} {r' : Int32} {s' : MS} {Q : Int32 → Hp → Prop} {s : MS} {h : Hp} {kc ks : Nat}  (R0 : RepM E h a0 ad s) (hm : M_matched s  = some (r', s')) (hQ : ∀ h1, RepM E h1 a0 ad s' → xf (FM a0 ad) h h1 → Q r' h1)   : m_X12_matched E a0  h kc ks Q := by
  have F0 : xf (FM a0 ad) h h := xf.rf
  unfold M_matched at hm
  unfold m_X12_matched
  refine ⟨mfu, ?_⟩
  exact z_matched_L4 mfu R0 hm (fun h1 R1 f1 => hQ h1 R1 (F0.tr f1))
