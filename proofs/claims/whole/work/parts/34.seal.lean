/-! sealing and sending, as both do it -/
def sealP (k j : Nat) : Prop := (k = 0 ∨ k = 15) ∧ j = 16
def sendP (k j : Nat) : Prop := (k = 0 ∧ (j = 3 ∨ j = 10 ∨ j = 6)) ∨ k = 1 ∨ k = 2
section SEALB
variable {E : Ev} {A : Nat → Prop} {h h0 h' : Hp} {y : Nat → Nat → Nat} {s s' : MS} {n cp n' cp' : Nat → Nat} {so nu : Nat} {l : List Int64} {r : Int32}
theorem SealR.F {key : Int32} {rs : Nat} {g : Nat → Int64} (hS : SealR s key rs g n cp r s' n' cp') (hn4 : n 4 < 2048) (hc : ∀ j, cp j ≤ 8192) : Fc n' ≤ Fc n ∧ Fs n' cp' ≤ Fs n cp ∧ n' 4 ≤ n 4 + 1 ∧ (∀ j, j ≠ 4 → n' j = n j) := by
  rcases hS with ⟨j, _, _, _, _, _, rfl, rfl⟩ | ⟨_, _, _, rfl, rfl⟩
  · exact ⟨Nat.le_refl _, Nat.le_refl _, by omega, fun _ _ => rfl⟩
  · have e4 : va_up n 4 (n 4 + 1) 4 = n 4 + 1 := va_up_self _ _ _
    have e9 : va_up n 4 (n 4 + 1) 9 = n 9 := rfl
    refine ⟨?_, ?_, by omega, fun j hj => va_up_ne _ _ hj⟩
    · unfold Fc; rw [e4, e9]; omega
    · have : cpS cp ≤ cpS (va_up cp 16 (if n 4 = cp 16 then al_cap (cp 16) else cp 16)) := by
        show _ ≤ cp 12 + cp 13 + cp 14 + cp 15 + (if n 4 = cp 16 then al_cap (cp 16) else cp 16) + cp 17 + cp 18 + cp 20 + cp 21 + cp 22 + cp 23 + cp 24 + cp 25 + cp 26 + cp 27
        unfold cpS al_cap
        split <;> (try split) <;> omega
      unfold Fs; rw [e4, e9]; omega
theorem s_seal {kc ks : Nat} {Q : Int64 → Hp → Prop} (S : RS E A h0 h y s n cp so nu l) (hso : so ≤ 2) (hnu : nu ≤ 255) (hlen : l.length ≤ 8) (hn4 : n 4 < 2048) (hS : SealR s (nI (256 * so + nu)) l.length (fun i => l.getD i 0) n cp r s' n' cp') (hk1 : Fc n ≤ kc + Fc n') (hk2 : Fs n cp ≤ ks + Fs n' cp')
    (hQ : ∀ h' y', RXo E A h' y' s' n' cp' → xg (YS y n cp sealP) h h' → (∀ k j, k ≠ 10 → k ≠ 11 → k ≠ 15 → y' k j = y k j) → Q r.toInt64 h') : m_X7_seal E (y 0 4) h kc ks Q := by
  obtain ⟨R, g0, g, hr, hg⟩ := id S
  have hc := R.2.1.2.2.2.2.2.2.2.2.2.2
  refine ⟨n 4 + 1, s_sealLoop S hso hnu hlen (n 4) 0 (by omega) (by omega) (fun j _ hj hm hno => ?_) (fun hno => ?_)⟩
  · rcases hS with ⟨j', hj', hm', hno', rfl, rfl, rfl, rfl⟩ | ⟨hno', _⟩
    · have : j' = j := by
        rcases Nat.lt_trichotomy j' j with z | z | z
        · exact absurd hm' (hno j' (Nat.zero_le _) z)
        · exact z
        · exact absurd hm (hno' j z)
      subst this
      exact hQ h y R xg.rf (fun _ _ _ _ _ => rfl)
    · exact absurd hm (hno' j hj)
  · rcases hS with ⟨j', hj', hm', _⟩ | ⟨_, rfl, rfl, rfl, rfl⟩
    · exact absurd hm' (hno j' (Nat.zero_le _) hj')
    have e4 : va_up n 4 (n 4 + 1) 4 = n 4 + 1 := va_up_self _ _ _
    have e9 : va_up n 4 (n 4 + 1) 9 = n 9 := rfl
    have b1 : 4 ≤ kc := by
      unfold Fc at hk1; rw [e4, e9] at hk1; omega
    have hcS := cpS_le hc
    have b2 : 3 + l.length + (if n 4 = cp 16 then al_cap (cp 16) else 0) ≤ ks := by
      have e : cpS (va_up cp 16 (if n 4 = cp 16 then al_cap (cp 16) else cp 16)) = cp 12 + cp 13 + cp 14 + cp 15 + (if n 4 = cp 16 then al_cap (cp 16) else cp 16) + cp 17 + cp 18 + cp 20 + cp 21 + cp 22 + cp 23 + cp 24 + cp 25 + cp 26 + cp 27 := rfl
      have hc16 := R.2.2.2.1.2.2.2.2.1
      have hc10 : cp 16 = 0 ∨ 10 ≤ cp 16 := by
        obtain ⟨md, a1, a2, a3⟩ := hc16
        rcases a3 with ⟨z, _⟩ | ⟨z, _⟩
        · exact Or.inl z
        · exact Or.inr z
      have hup : cpS (va_up cp 16 (if n 4 = cp 16 then al_cap (cp 16) else cp 16)) ≤ 122880 := by
        refine cpS_le (fun j => ?_)
        by_cases z : j = 16
        · subst z; rw [va_up_self]; unfold al_cap; have := hc 16; split <;> (try split) <;> omega
        · rw [va_up_ne _ _ z]; exact hc j
      unfold Fs at hk2
      rw [e4, e9] at hk2
      rw [e] at hup hk2
      unfold cpS at hk2 hcS
      unfold al_cap at hk2 hup ⊢
      by_cases z : n 4 = cp 16
      · simp only [if_pos z] at hk2 hup ⊢
        by_cases z0 : cp 16 = 0
        · simp only [if_pos z0] at hk2 hup ⊢
          omega
        · simp only [if_neg z0] at hk2 hup ⊢
          omega
      · simp only [if_neg z] at hk2 hup ⊢
        omega
    have l4 := R.2.2.2.1.2.2.2.2.1
    refine gR_of hr.1 rfl (nN_of (l4.isO (s_size l4 ⟨fun _ => ?_, fun q => absurd (nI_le (Nat.le_refl _) (by omega)) q⟩)))
    refine gR_of hr.1 rfl ⟨kc - 1, ks - 3, by omega, by omega, fun q h1 hq e1 => ?_⟩
    have u0 : xh_at h1 q (.inr (7, [.int 0, .int 0, .null])) := by rw [e1]; exact xh_at.newq
    have g1 : xg (fun _ => False) h h1 := by rw [e1]; exact xg.new hq
    have r1 := g1.at hr.1 (fun z => z)
    have r2 := g1.at hr.2 (fun z => z)
    refine gI_of r1 rfl (gI_of r1 rfl (gR_of r1 rfl (gI_of r1 rfl (cK_of 1 l.length (by omega) (by omega) (s_copyL r2 hlen ⟨Nat.le_refl _, Nat.le_refl _⟩ (fun h2 b f' hb b2' hf g2 => ?_))))))
    have u0' := g2.at u0 (fun z => z)
    have nqb : q ≠ b := u0'.neq b2' (by intro z; cases z)
    refine pV_of u0' (by show 0 < 3; decide) (pV_of u0'.set (by show 1 < 3; decide) (pV_of u0'.set.set (by show 2 < 3; decide) ?_))
    have u3 := ((u0'.set (e' := .inr (7, [.int (nI so), .int 0, .null]))).set (e' := .inr (7, [.int (nI so), .int (nI nu), .null]))).set (e' := .inr (7, [.int (nI so), .int (nI nu), .ref b]))
    have g3 : xg (fun _ => False) h (xh_set (xh_set (xh_set h2 q (.inr (7, [.int (nI so), .int 0, .null]))) q (.inr (7, [.int (nI so), .int (nI nu), .null]))) q (.inr (7, [.int (nI so), .int (nI nu), .ref b]))) := (((g1.tr g2).setn hq).setn hq).setn hq
    have b3 := ((b2'.ne (e' := .inr (7, [.int (nI so), .int 0, .null])) (fun z => nqb z.symm)).ne (e' := .inr (7, [.int (nI so), .int (nI nu), .null])) (fun z => nqb z.symm)).ne (e' := .inr (7, [.int (nI so), .int (nI nu), .ref b])) (fun z => nqb z.symm)
    have R3 := R.k (h' := xh_set (xh_set (xh_set h2 q (.inr (7, [.int (nI so), .int 0, .null]))) q (.inr (7, [.int (nI so), .int (nI nu), .null]))) q (.inr (7, [.int (nI so), .int (nI nu), .ref b]))) ⟨g3.1, fun a ha _ => g3.2 a ha (fun z => z)⟩
    have l43 := R3.2.2.2.1.2.2.2.2.1
    have hb0 : b ∉ h.1 := fun z => hb (g1.1 b z)
    refine nN_of (l43.isO (cK_of 1 (if n 4 = cp 16 then al_cap (cp 16) else 0) (by omega) (by omega) (s_add l43 ⟨7, _, by omega, u3⟩ (by have := hc 16; omega) (fun z => ⟨Nat.le_refl _, by rw [if_pos z]; exact Nat.le_refl _⟩) (fun h' d' c' al ga hd => ?_))))
    obtain ⟨X1, X2, X3⟩ := R.seal (g := fun i => l.getD i 0) hn4 hso hnu hlen g3 hq hb0 nqb u3 b3 (fun i hi => (hf i hi).trans (hg i hi)) ga al hd
    have r1' := YS.k R.1 X3 (ly0 (j := 4) (by omega)) (by omega) hr.1
    refine gR_of r1' rfl (nN_of (al.isO (s_size al ?_)))
    have ec : c' = if n 4 = cp 16 then al_cap (cp 16) else cp 16 := by
      rcases hd with ⟨w1, w2, w3⟩ | ⟨w1, w2, w3⟩
      · rw [if_neg (by omega)]; exact w3
      · rw [if_pos w1]; exact w3
    rw [ec] at X1
    refine hQ _ _ X1 X3 (fun k j k1 k2 k3 => ?_)
    show va_up (va_up (va_up y 10 _) 11 _) 15 _ k j = y k j
    rw [va_up_ne _ _ k3, va_up_ne _ _ k2, va_up_ne _ _ k1]
/-- sending, as the reference does it: v are the numbers -/
def SendR (s : MS) (k : Nat) (so nu oso onu : Int32) (v : Nat → Int64) (n : Nat → Nat) (r : Int32) (s' : MS) (n' : Nat → Nat) : Prop :=
  (n 2 = 60 ∧ r = 0 ∧ s' = s ∧ n' = n) ∨ (n 2 < 60 ∧ r = 1 ∧ n' = n9 n ∧ ∃ B, s' = lieA s so nu oso onu (nI (szK k 11)) B ∧ (∀ i, i < szK k 11 → B (64 * n 2 + i) = wvT k v 11 i) ∧ ∀ a, (a < 64 * n 2 ∨ 64 * n 2 + szK k 11 ≤ a) → B a = s.2.2.1 12 a)
theorem M_send_spec {k : Nat} {so nu oso onu : Int32} (hk : 1 ≤ k ∧ k < 12) (h6 : s.1 6 = nI (n 2)) (hn : n 2 ≤ 60) : ∃ r s' n', M_send s (nI k) so nu oso onu = some (r, s') ∧ SendR s k so nu oso onu (s.2.2.2 18) n r s' n' := by
  by_cases z : n 2 = 60
  · exact ⟨0, s, n, M_send_full (by rw [h6, z]), Or.inl ⟨z, rfl, rfl, rfl⟩⟩
  · obtain ⟨B, h1, h2, h3⟩ := M_send_eq (so := so) (nu := nu) (oso := oso) (onu := onu) hk h6 (by omega)
    exact ⟨1, _, n9 n, h1, Or.inr ⟨by omega, rfl, rfl, B, rfl, h2, h3⟩⟩
theorem wvT_c {k : Nat} {v w : Nat → Int64} : ∀ t, (∀ u, 1 ≤ u → u ≤ t → hasK k u = true → v u = w u) → ∀ i, wvT k v t i = wvT k w t i := by
  intro t
  induction t with
  | zero => intro _ i; rfl
  | succ t ih =>
    intro e i
    have e0 := ih (fun u h1 h2 => e u h1 (by omega)) i
    show (if _ then _ else _) = (if _ then _ else _)
    by_cases z : hasK k (t + 1) = true ∧ szK k t ≤ i
    · rw [if_pos z, if_pos z, e (t + 1) (by omega) (by omega) z.1]
    · rw [if_neg z, if_neg z, e0]
theorem SendR.F {k : Nat} {so nu oso onu : Int32} {v : Nat → Int64} (hS : SendR s k so nu oso onu v n r s' n') (hn : n 2 ≤ n 9 ∧ n 9 ≤ 60) : Fc n' ≤ Fc n ∧ Fs n' cp ≤ Fs n cp ∧ n' 4 = n 4 ∧ (∀ j, j ≠ 2 → j ≠ 9 → n' j = n j) := by
  rcases hS with ⟨_, _, _, rfl⟩ | ⟨_, _, rfl, _⟩
  · exact ⟨Nat.le_refl _, Nat.le_refl _, rfl, fun _ _ _ => rfl⟩
  · have e9 : n9 n 9 = if n 2 < n 9 then n 9 else n 9 + 1 := rfl
    have e4 : n9 n 4 = n 4 := rfl
    refine ⟨?_, ?_, rfl, fun j h1 h2 => ?_⟩
    · unfold Fc; rw [e9, e4]; split <;> omega
    · unfold Fs; rw [e9, e4]; split <;> omega
    · unfold n9; rw [va_up_ne _ _ h1, va_up_ne _ _ h2]
theorem s_snd {k : Nat} {so nu oso onu : Int32} {gf v : Nat → Int64} {kc ks : Nat} {Q : Int32 → Hp → Prop} (R : RXo E A h y s n cp) (hsz : ∀ j, j < 60 → s.2.2.1 11 j ≤ 64) (hk : 1 ≤ k ∧ k < 12) (hg : xh_at h (y 0 8) (.inl (E.1 1, 12, .inr (.inl gf)))) (he : ∀ t, 1 ≤ t → t ≤ 11 → hasK k t = true → gf t = v t) (hS : SendR s k so nu oso onu v n r s' n') (hk1 : Fc n ≤ kc + Fc n') (hk2 : Fs n cp ≤ ks + Fs n' cp)
    (hQ : ∀ h' y', RXo E A h' y' s' n' cp → xg (YS y n cp sendP) h h' → (∀ k j, k ≠ 1 → k ≠ 2 → y' k j = y k j) → Q r h') : m_X10_send E (y 0 1) (nI k) so nu oso onu h kc ks Q := by
  have hn := R.2.1.2.2.1.2
  refine s_send R hsz hk hg (fun z z2 => ?_) (fun z => ?_) (fun h' q b h60 hq g hR => ?_)
  · rcases hS with ⟨w, _⟩ | ⟨w, _, rfl, _⟩
    · omega
    · have e9 : n9 n 9 = if n 2 < n 9 then n 9 else n 9 + 1 := rfl
      have e4 : n9 n 4 = n 4 := rfl
      rw [if_neg (by omega)] at e9
      unfold Fc at hk1; unfold Fs at hk2
      rw [e9, e4] at hk1 hk2
      omega
  · rcases hS with ⟨w, rfl, rfl, rfl⟩ | ⟨w, _⟩
    · exact hQ h y R xg.rf (fun _ _ _ _ => rfl)
    · omega
  · rcases hS with ⟨w, _⟩ | ⟨w, rfl, rfl, B, rfl, b1, b2⟩
    · omega
    · refine hQ h' _ (hR B (fun i hi => (b1 i hi).trans (wvT_c 11 (fun u h1 h2 h3 => (he u h1 h2 h3).symm) i)) (fun a ha => b2 a (Or.inl ha))) (g.mono (fun x hx z => ?_)) (fun k j k1 k2 => ?_)
      · rcases z with rfl | rfl | rfl | rfl | rfl
        · exact ⟨0, 3, ly0 (by omega), Or.inl ⟨rfl, Or.inl rfl⟩, rfl⟩
        · exact ⟨0, 10, ly0 (by omega), Or.inl ⟨rfl, Or.inr (Or.inl rfl)⟩, rfl⟩
        · exact ⟨0, 6, ly0 (by omega), Or.inl ⟨rfl, Or.inr (Or.inr rfl)⟩, rfl⟩
        · rcases hq with ⟨w, rfl, rfl⟩ | ⟨w, w1, w2, w3⟩
          · exact ⟨1, _, ly1 w, Or.inr (Or.inl rfl), rfl⟩
          · exact absurd hx w1
        · rcases hq with ⟨w, rfl, rfl⟩ | ⟨w, w1, w2, w3⟩
          · exact ⟨2, _, ly2 w, Or.inr (Or.inr rfl), rfl⟩
          · exact absurd hx w2
      · show va_up (va_up y 1 _) 2 _ k j = y k j
        rw [va_up_ne _ _ k2, va_up_ne _ _ k1]
end SEALB
