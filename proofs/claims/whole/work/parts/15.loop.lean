/-! the law's loop, out of one step for each call -/
abbrev TRX : Type := Ev → (Nat → Prop) → Hp → Nat → MS → Nat → Nat → Nat → Prop
abbrev TWF : Type := Nat → MS → Prop
theorem RepM.g {A : Nat → Prop} {E : Ev} {h h' : Hp} {m : Nat} {ad : Nat → Nat} {s : MS} (R : RepM E h m ad s) (g : xg A h h') (hA : ∀ a, FM m ad a → ¬ A a) : RepM E h' m ad s :=
  ⟨g.at R.1 (hA _ (Or.inl rfl)), fun q hq => g.at (R.2.1 q hq) (hA _ (Or.inr ⟨q.1, mArr.a hq, rfl⟩)), fun q hq => g.at (R.2.2.1 q hq) (hA _ (Or.inr ⟨q.1, mArr.l hq, rfl⟩)), R.2.2.2⟩
theorem lg_cmp_self (x : Int64) : lg_cmp x x = 0 := by unfold lg_cmp; simp
theorem xsI_of {L : Nat} {xs : Nat → Int32} {i : Int32} {P : Int32 → Prop} (j : Nat) (hj : j < L) (hL : L < 2 ^ 31) (e : i = nI j) (p : P (xs j)) : xsI L xs i P := by
  subst e
  exact ⟨_, vp_in_nI hj hL, rfl, by rw [nI_clamp (by omega)]; exact p⟩
theorem nI_addk (j k : Nat) {x : Int32} (e : x = nI k) : nI j + x = nI (j + k) := by rw [e, nI_add]
def SX_card (RX : TRX) (WF : TWF) : Prop := ∀ (E : Ev) (A : Nat → Prop) (h : Hp) (x : Nat) (s s' : MS) (i kc ks : Nat) (r : Int32) (z0 : Int32) (z1 : Int64) (z2 : Int32) (z3 : Int64), RX E A h x s i kc ks → WF i s → i < 512 → M_card s z0 z1 z2 z3 = some (r, s') → cK kc ks fun mc ms kc1 ks1 => ∀ Q : Int32 → Hp → Prop, (∀ h', RX E A h' x s' (i + 1) kc1 ks1 → xg A h h' → Q r h') → m_X11_card E x z0 z1 z2 z3 h mc ms Q
def SM_card (WF : TWF) : Prop := ∀ (s : MS) (i : Nat) (z0 : Int32) (z1 : Int64) (z2 : Int32) (z3 : Int64), WF i s → i < 512 → ∃ r s', M_card s z0 z1 z2 z3 = some (r, s') ∧ WF (i + 1) s'
def SJ_card (RX : TRX) (WF : TWF) : Prop := ∀ (E : Ev) (A : Nat → Prop) (h : Hp) (x : Nat) (s : MS) (i kc ks : Nat) (z0 : Int32) (z1 : Int64) (z2 : Int32) (z3 : Int64), RX E A h x s i kc ks → WF i s → i < 512 → ∃ r s', M_card s z0 z1 z2 z3 = some (r, s') ∧ WF (i + 1) s' ∧ cK kc ks fun mc ms kc1 ks1 => ∀ Q : Int32 → Hp → Prop, (∀ h', RX E A h' x s' (i + 1) kc1 ks1 → xg A h h' → Q r h') → m_X11_card E x z0 z1 z2 z3 h mc ms Q
theorem SJ_card_of {RX : TRX} {WF : TWF} (X : SX_card RX WF) (T : SM_card WF) : SJ_card RX WF := by
  intro E A h x s i kc ks z0 z1 z2 z3 hR hW hi
  obtain ⟨r, s', hm, hW'⟩ := T s i z0 z1 z2 z3 hW hi
  exact ⟨r, s', hm, hW', X E A h x s s' i kc ks r z0 z1 z2 z3 hR hW hi hm⟩
def SX_terminal (RX : TRX) (WF : TWF) : Prop := ∀ (E : Ev) (A : Nat → Prop) (h : Hp) (x : Nat) (s s' : MS) (i kc ks : Nat) (r : Int32) (z0 : Int64) (z1 : Int64), RX E A h x s i kc ks → WF i s → i < 512 → M_terminal s z0 z1 = some (r, s') → cK kc ks fun mc ms kc1 ks1 => ∀ Q : Int32 → Hp → Prop, (∀ h', RX E A h' x s' (i + 1) kc1 ks1 → xg A h h' → Q r h') → m_X11_terminal E x z0 z1 h mc ms Q
def SM_terminal (WF : TWF) : Prop := ∀ (s : MS) (i : Nat) (z0 : Int64) (z1 : Int64), WF i s → i < 512 → ∃ r s', M_terminal s z0 z1 = some (r, s') ∧ WF (i + 1) s'
def SJ_terminal (RX : TRX) (WF : TWF) : Prop := ∀ (E : Ev) (A : Nat → Prop) (h : Hp) (x : Nat) (s : MS) (i kc ks : Nat) (z0 : Int64) (z1 : Int64), RX E A h x s i kc ks → WF i s → i < 512 → ∃ r s', M_terminal s z0 z1 = some (r, s') ∧ WF (i + 1) s' ∧ cK kc ks fun mc ms kc1 ks1 => ∀ Q : Int32 → Hp → Prop, (∀ h', RX E A h' x s' (i + 1) kc1 ks1 → xg A h h' → Q r h') → m_X11_terminal E x z0 z1 h mc ms Q
theorem SJ_terminal_of {RX : TRX} {WF : TWF} (X : SX_terminal RX WF) (T : SM_terminal WF) : SJ_terminal RX WF := by
  intro E A h x s i kc ks z0 z1 hR hW hi
  obtain ⟨r, s', hm, hW'⟩ := T s i z0 z1 hW hi
  exact ⟨r, s', hm, hW', X E A h x s s' i kc ks r z0 z1 hR hW hi hm⟩
def SX_purchase (RX : TRX) (WF : TWF) : Prop := ∀ (E : Ev) (A : Nat → Prop) (h : Hp) (x : Nat) (s s' : MS) (i kc ks : Nat) (r : Int32) (z0 : Int32) (z1 : Int32) (z2 : Int64) (z3 : Int32), RX E A h x s i kc ks → WF i s → i < 512 → M_purchase s z0 z1 z2 z3 = some (r, s') → cK kc ks fun mc ms kc1 ks1 => ∀ Q : Int32 → Hp → Prop, (∀ h', RX E A h' x s' (i + 1) kc1 ks1 → xg A h h' → Q r h') → m_X11_purchase E x z0 z1 z2 z3 h mc ms Q
def SM_purchase (WF : TWF) : Prop := ∀ (s : MS) (i : Nat) (z0 : Int32) (z1 : Int32) (z2 : Int64) (z3 : Int32), WF i s → i < 512 → ∃ r s', M_purchase s z0 z1 z2 z3 = some (r, s') ∧ WF (i + 1) s'
def SJ_purchase (RX : TRX) (WF : TWF) : Prop := ∀ (E : Ev) (A : Nat → Prop) (h : Hp) (x : Nat) (s : MS) (i kc ks : Nat) (z0 : Int32) (z1 : Int32) (z2 : Int64) (z3 : Int32), RX E A h x s i kc ks → WF i s → i < 512 → ∃ r s', M_purchase s z0 z1 z2 z3 = some (r, s') ∧ WF (i + 1) s' ∧ cK kc ks fun mc ms kc1 ks1 => ∀ Q : Int32 → Hp → Prop, (∀ h', RX E A h' x s' (i + 1) kc1 ks1 → xg A h h' → Q r h') → m_X11_purchase E x z0 z1 z2 z3 h mc ms Q
theorem SJ_purchase_of {RX : TRX} {WF : TWF} (X : SX_purchase RX WF) (T : SM_purchase WF) : SJ_purchase RX WF := by
  intro E A h x s i kc ks z0 z1 z2 z3 hR hW hi
  obtain ⟨r, s', hm, hW'⟩ := T s i z0 z1 z2 z3 hW hi
  exact ⟨r, s', hm, hW', X E A h x s s' i kc ks r z0 z1 z2 z3 hR hW hi hm⟩
def SX_deliver (RX : TRX) (WF : TWF) : Prop := ∀ (E : Ev) (A : Nat → Prop) (h : Hp) (x : Nat) (s s' : MS) (i kc ks : Nat) (r : Int32) (z0 : Int32), RX E A h x s i kc ks → WF i s → i < 512 → M_deliver s z0 = some (r, s') → cK kc ks fun mc ms kc1 ks1 => ∀ Q : Int32 → Hp → Prop, (∀ h', RX E A h' x s' (i + 1) kc1 ks1 → xg A h h' → Q r h') → m_X11_deliver E x z0 h mc ms Q
def SM_deliver (WF : TWF) : Prop := ∀ (s : MS) (i : Nat) (z0 : Int32), WF i s → i < 512 → ∃ r s', M_deliver s z0 = some (r, s') ∧ WF (i + 1) s'
def SJ_deliver (RX : TRX) (WF : TWF) : Prop := ∀ (E : Ev) (A : Nat → Prop) (h : Hp) (x : Nat) (s : MS) (i kc ks : Nat) (z0 : Int32), RX E A h x s i kc ks → WF i s → i < 512 → ∃ r s', M_deliver s z0 = some (r, s') ∧ WF (i + 1) s' ∧ cK kc ks fun mc ms kc1 ks1 => ∀ Q : Int32 → Hp → Prop, (∀ h', RX E A h' x s' (i + 1) kc1 ks1 → xg A h h' → Q r h') → m_X11_deliver E x z0 h mc ms Q
theorem SJ_deliver_of {RX : TRX} {WF : TWF} (X : SX_deliver RX WF) (T : SM_deliver WF) : SJ_deliver RX WF := by
  intro E A h x s i kc ks z0 hR hW hi
  obtain ⟨r, s', hm, hW'⟩ := T s i z0 hW hi
  exact ⟨r, s', hm, hW', X E A h x s s' i kc ks r z0 hR hW hi hm⟩
def SX_alter (RX : TRX) (WF : TWF) : Prop := ∀ (E : Ev) (A : Nat → Prop) (h : Hp) (x : Nat) (s s' : MS) (i kc ks : Nat) (r : Int32) (z0 : Int32) (z1 : Int32) (z2 : Int32), RX E A h x s i kc ks → WF i s → i < 512 → M_alter s z0 z1 z2 = some (r, s') → ∀ Q : Int32 → Hp → Prop, (∀ h', RX E A h' x s' (i + 1) kc ks → xg A h h' → Q r h') → m_X11_alter E x z0 z1 z2 h 0 0 Q
def SM_alter (WF : TWF) : Prop := ∀ (s : MS) (i : Nat) (z0 : Int32) (z1 : Int32) (z2 : Int32), WF i s → i < 512 → ∃ r s', M_alter s z0 z1 z2 = some (r, s') ∧ WF (i + 1) s'
def SJ_alter (RX : TRX) (WF : TWF) : Prop := ∀ (E : Ev) (A : Nat → Prop) (h : Hp) (x : Nat) (s : MS) (i kc ks : Nat) (z0 : Int32) (z1 : Int32) (z2 : Int32), RX E A h x s i kc ks → WF i s → i < 512 → ∃ r s', M_alter s z0 z1 z2 = some (r, s') ∧ WF (i + 1) s' ∧ ∀ Q : Int32 → Hp → Prop, (∀ h', RX E A h' x s' (i + 1) kc ks → xg A h h' → Q r h') → m_X11_alter E x z0 z1 z2 h 0 0 Q
theorem SJ_alter_of {RX : TRX} {WF : TWF} (X : SX_alter RX WF) (T : SM_alter WF) : SJ_alter RX WF := by
  intro E A h x s i kc ks z0 z1 z2 hR hW hi
  obtain ⟨r, s', hm, hW'⟩ := T s i z0 z1 z2 hW hi
  exact ⟨r, s', hm, hW', X E A h x s s' i kc ks r z0 z1 z2 hR hW hi hm⟩
def SX_drop (RX : TRX) (WF : TWF) : Prop := ∀ (E : Ev) (A : Nat → Prop) (h : Hp) (x : Nat) (s s' : MS) (i kc ks : Nat) (r : Int32) (z0 : Int32), RX E A h x s i kc ks → WF i s → i < 512 → M_drop s z0 = some (r, s') → ∀ Q : Int32 → Hp → Prop, (∀ h', RX E A h' x s' (i + 1) kc ks → xg A h h' → Q r h') → m_X11_drop E x z0 h 0 0 Q
def SM_drop (WF : TWF) : Prop := ∀ (s : MS) (i : Nat) (z0 : Int32), WF i s → i < 512 → ∃ r s', M_drop s z0 = some (r, s') ∧ WF (i + 1) s'
def SJ_drop (RX : TRX) (WF : TWF) : Prop := ∀ (E : Ev) (A : Nat → Prop) (h : Hp) (x : Nat) (s : MS) (i kc ks : Nat) (z0 : Int32), RX E A h x s i kc ks → WF i s → i < 512 → ∃ r s', M_drop s z0 = some (r, s') ∧ WF (i + 1) s' ∧ ∀ Q : Int32 → Hp → Prop, (∀ h', RX E A h' x s' (i + 1) kc ks → xg A h h' → Q r h') → m_X11_drop E x z0 h 0 0 Q
theorem SJ_drop_of {RX : TRX} {WF : TWF} (X : SX_drop RX WF) (T : SM_drop WF) : SJ_drop RX WF := by
  intro E A h x s i kc ks z0 hR hW hi
  obtain ⟨r, s', hm, hW'⟩ := T s i z0 hW hi
  exact ⟨r, s', hm, hW', X E A h x s s' i kc ks r z0 hR hW hi hm⟩
def SX_again (RX : TRX) (WF : TWF) : Prop := ∀ (E : Ev) (A : Nat → Prop) (h : Hp) (x : Nat) (s s' : MS) (i kc ks : Nat) (r : Int32) (z0 : Int32), RX E A h x s i kc ks → WF i s → i < 512 → M_again s z0 = some (r, s') → cK kc ks fun mc ms kc1 ks1 => ∀ Q : Int32 → Hp → Prop, (∀ h', RX E A h' x s' (i + 1) kc1 ks1 → xg A h h' → Q r h') → m_X11_again E x z0 h mc ms Q
def SM_again (WF : TWF) : Prop := ∀ (s : MS) (i : Nat) (z0 : Int32), WF i s → i < 512 → ∃ r s', M_again s z0 = some (r, s') ∧ WF (i + 1) s'
def SJ_again (RX : TRX) (WF : TWF) : Prop := ∀ (E : Ev) (A : Nat → Prop) (h : Hp) (x : Nat) (s : MS) (i kc ks : Nat) (z0 : Int32), RX E A h x s i kc ks → WF i s → i < 512 → ∃ r s', M_again s z0 = some (r, s') ∧ WF (i + 1) s' ∧ cK kc ks fun mc ms kc1 ks1 => ∀ Q : Int32 → Hp → Prop, (∀ h', RX E A h' x s' (i + 1) kc1 ks1 → xg A h h' → Q r h') → m_X11_again E x z0 h mc ms Q
theorem SJ_again_of {RX : TRX} {WF : TWF} (X : SX_again RX WF) (T : SM_again WF) : SJ_again RX WF := by
  intro E A h x s i kc ks z0 hR hW hi
  obtain ⟨r, s', hm, hW'⟩ := T s i z0 hW hi
  exact ⟨r, s', hm, hW', X E A h x s s' i kc ks r z0 hR hW hi hm⟩
def SX_put (RX : TRX) (WF : TWF) : Prop := ∀ (E : Ev) (A : Nat → Prop) (h : Hp) (x : Nat) (s s' : MS) (i kc ks : Nat) (r : Int32) (z0 : Int32), RX E A h x s i kc ks → WF i s → i < 512 → M_put s z0 = some (r, s') → ∀ Q : Int32 → Hp → Prop, (∀ h', RX E A h' x s' (i + 1) kc ks → xg A h h' → Q r h') → m_X11_put E x z0 h 0 0 Q
def SM_put (WF : TWF) : Prop := ∀ (s : MS) (i : Nat) (z0 : Int32), WF i s → i < 512 → ∃ r s', M_put s z0 = some (r, s') ∧ WF (i + 1) s'
def SJ_put (RX : TRX) (WF : TWF) : Prop := ∀ (E : Ev) (A : Nat → Prop) (h : Hp) (x : Nat) (s : MS) (i kc ks : Nat) (z0 : Int32), RX E A h x s i kc ks → WF i s → i < 512 → ∃ r s', M_put s z0 = some (r, s') ∧ WF (i + 1) s' ∧ ∀ Q : Int32 → Hp → Prop, (∀ h', RX E A h' x s' (i + 1) kc ks → xg A h h' → Q r h') → m_X11_put E x z0 h 0 0 Q
theorem SJ_put_of {RX : TRX} {WF : TWF} (X : SX_put RX WF) (T : SM_put WF) : SJ_put RX WF := by
  intro E A h x s i kc ks z0 hR hW hi
  obtain ⟨r, s', hm, hW'⟩ := T s i z0 hW hi
  exact ⟨r, s', hm, hW', X E A h x s s' i kc ks r z0 hR hW hi hm⟩
def SX_inject (RX : TRX) (WF : TWF) : Prop := ∀ (E : Ev) (A : Nat → Prop) (h : Hp) (x : Nat) (s s' : MS) (i kc ks : Nat) (r : Int32) (z0 : Int32) (z1 : Int32) (z2 : Int32) (z3 : Int32), RX E A h x s i kc ks → WF i s → i < 512 → M_inject s z0 z1 z2 z3 = some (r, s') → cK kc ks fun mc ms kc1 ks1 => ∀ Q : Int32 → Hp → Prop, (∀ h', RX E A h' x s' (i + 1) kc1 ks1 → xg A h h' → Q r h') → m_X11_inject E x z0 z1 z2 z3 h mc ms Q
def SM_inject (WF : TWF) : Prop := ∀ (s : MS) (i : Nat) (z0 : Int32) (z1 : Int32) (z2 : Int32) (z3 : Int32), WF i s → i < 512 → ∃ r s', M_inject s z0 z1 z2 z3 = some (r, s') ∧ WF (i + 1) s'
def SJ_inject (RX : TRX) (WF : TWF) : Prop := ∀ (E : Ev) (A : Nat → Prop) (h : Hp) (x : Nat) (s : MS) (i kc ks : Nat) (z0 : Int32) (z1 : Int32) (z2 : Int32) (z3 : Int32), RX E A h x s i kc ks → WF i s → i < 512 → ∃ r s', M_inject s z0 z1 z2 z3 = some (r, s') ∧ WF (i + 1) s' ∧ cK kc ks fun mc ms kc1 ks1 => ∀ Q : Int32 → Hp → Prop, (∀ h', RX E A h' x s' (i + 1) kc1 ks1 → xg A h h' → Q r h') → m_X11_inject E x z0 z1 z2 z3 h mc ms Q
theorem SJ_inject_of {RX : TRX} {WF : TWF} (X : SX_inject RX WF) (T : SM_inject WF) : SJ_inject RX WF := by
  intro E A h x s i kc ks z0 z1 z2 z3 hR hW hi
  obtain ⟨r, s', hm, hW'⟩ := T s i z0 z1 z2 z3 hW hi
  exact ⟨r, s', hm, hW', X E A h x s s' i kc ks r z0 z1 z2 z3 hR hW hi hm⟩
def SX_power (RX : TRX) (WF : TWF) : Prop := ∀ (E : Ev) (A : Nat → Prop) (h : Hp) (x : Nat) (s s' : MS) (i kc ks : Nat) (r : Int32) (z0 : Int32) (z1 : Int32), RX E A h x s i kc ks → WF i s → i < 512 → M_power s z0 z1 = some (r, s') → ∀ Q : Int32 → Hp → Prop, (∀ h', RX E A h' x s' (i + 1) kc ks → xg A h h' → Q r h') → m_X11_power E x z0 z1 h 0 0 Q
def SM_power (WF : TWF) : Prop := ∀ (s : MS) (i : Nat) (z0 : Int32) (z1 : Int32), WF i s → i < 512 → ∃ r s', M_power s z0 z1 = some (r, s') ∧ WF (i + 1) s'
def SJ_power (RX : TRX) (WF : TWF) : Prop := ∀ (E : Ev) (A : Nat → Prop) (h : Hp) (x : Nat) (s : MS) (i kc ks : Nat) (z0 : Int32) (z1 : Int32), RX E A h x s i kc ks → WF i s → i < 512 → ∃ r s', M_power s z0 z1 = some (r, s') ∧ WF (i + 1) s' ∧ ∀ Q : Int32 → Hp → Prop, (∀ h', RX E A h' x s' (i + 1) kc ks → xg A h h' → Q r h') → m_X11_power E x z0 z1 h 0 0 Q
theorem SJ_power_of {RX : TRX} {WF : TWF} (X : SX_power RX WF) (T : SM_power WF) : SJ_power RX WF := by
  intro E A h x s i kc ks z0 z1 hR hW hi
  obtain ⟨r, s', hm, hW'⟩ := T s i z0 z1 hW hi
  exact ⟨r, s', hm, hW', X E A h x s s' i kc ks r z0 z1 hR hW hi hm⟩
def SX_tick (RX : TRX) (WF : TWF) : Prop := ∀ (E : Ev) (A : Nat → Prop) (h : Hp) (x : Nat) (s s' : MS) (i kc ks : Nat) (r : Int32) (z0 : Int32), RX E A h x s i kc ks → WF i s → i < 512 → M_tick s z0 = some (r, s') → ∀ Q : Int32 → Hp → Prop, (∀ h', RX E A h' x s' (i + 1) kc ks → xg A h h' → Q r h') → m_X11_tick E x z0 h 0 0 Q
def SM_tick (WF : TWF) : Prop := ∀ (s : MS) (i : Nat) (z0 : Int32), WF i s → i < 512 → ∃ r s', M_tick s z0 = some (r, s') ∧ WF (i + 1) s'
def SJ_tick (RX : TRX) (WF : TWF) : Prop := ∀ (E : Ev) (A : Nat → Prop) (h : Hp) (x : Nat) (s : MS) (i kc ks : Nat) (z0 : Int32), RX E A h x s i kc ks → WF i s → i < 512 → ∃ r s', M_tick s z0 = some (r, s') ∧ WF (i + 1) s' ∧ ∀ Q : Int32 → Hp → Prop, (∀ h', RX E A h' x s' (i + 1) kc ks → xg A h h' → Q r h') → m_X11_tick E x z0 h 0 0 Q
theorem SJ_tick_of {RX : TRX} {WF : TWF} (X : SX_tick RX WF) (T : SM_tick WF) : SJ_tick RX WF := by
  intro E A h x s i kc ks z0 hR hW hi
  obtain ⟨r, s', hm, hW'⟩ := T s i z0 hW hi
  exact ⟨r, s', hm, hW', X E A h x s s' i kc ks r z0 hR hW hi hm⟩
def SX_clear (RX : TRX) (WF : TWF) : Prop := ∀ (E : Ev) (A : Nat → Prop) (h : Hp) (x : Nat) (s s' : MS) (i kc ks : Nat) (r : Int32) (z0 : Int32), RX E A h x s i kc ks → WF i s → i < 512 → M_clear s z0 = some (r, s') → cK kc ks fun mc ms kc1 ks1 => ∀ Q : Int32 → Hp → Prop, (∀ h', RX E A h' x s' (i + 1) kc1 ks1 → xg A h h' → Q r h') → m_X11_clear E x z0 h mc ms Q
def SM_clear (WF : TWF) : Prop := ∀ (s : MS) (i : Nat) (z0 : Int32), WF i s → i < 512 → ∃ r s', M_clear s z0 = some (r, s') ∧ WF (i + 1) s'
def SJ_clear (RX : TRX) (WF : TWF) : Prop := ∀ (E : Ev) (A : Nat → Prop) (h : Hp) (x : Nat) (s : MS) (i kc ks : Nat) (z0 : Int32), RX E A h x s i kc ks → WF i s → i < 512 → ∃ r s', M_clear s z0 = some (r, s') ∧ WF (i + 1) s' ∧ cK kc ks fun mc ms kc1 ks1 => ∀ Q : Int32 → Hp → Prop, (∀ h', RX E A h' x s' (i + 1) kc1 ks1 → xg A h h' → Q r h') → m_X11_clear E x z0 h mc ms Q
theorem SJ_clear_of {RX : TRX} {WF : TWF} (X : SX_clear RX WF) (T : SM_clear WF) : SJ_clear RX WF := by
  intro E A h x s i kc ks z0 hR hW hi
  obtain ⟨r, s', hm, hW'⟩ := T s i z0 hW hi
  exact ⟨r, s', hm, hW', X E A h x s s' i kc ks r z0 hR hW hi hm⟩
def SX_count (RX : TRX) (WF : TWF) : Prop := ∀ (E : Ev) (A : Nat → Prop) (h : Hp) (x : Nat) (s s' : MS) (i kc ks : Nat) (r : Int32) (z0 : Int32), RX E A h x s i kc ks → WF i s → i < 512 → M_count s z0 = some (r, s') → ∀ Q : Int32 → Hp → Prop, (∀ h', RX E A h' x s' (i + 1) kc ks → xg A h h' → Q r h') → m_X11_count E x z0 h 0 0 Q
def SM_count (WF : TWF) : Prop := ∀ (s : MS) (i : Nat) (z0 : Int32), WF i s → i < 512 → ∃ r s', M_count s z0 = some (r, s') ∧ WF (i + 1) s'
def SJ_count (RX : TRX) (WF : TWF) : Prop := ∀ (E : Ev) (A : Nat → Prop) (h : Hp) (x : Nat) (s : MS) (i kc ks : Nat) (z0 : Int32), RX E A h x s i kc ks → WF i s → i < 512 → ∃ r s', M_count s z0 = some (r, s') ∧ WF (i + 1) s' ∧ ∀ Q : Int32 → Hp → Prop, (∀ h', RX E A h' x s' (i + 1) kc ks → xg A h h' → Q r h') → m_X11_count E x z0 h 0 0 Q
theorem SJ_count_of {RX : TRX} {WF : TWF} (X : SX_count RX WF) (T : SM_count WF) : SJ_count RX WF := by
  intro E A h x s i kc ks z0 hR hW hi
  obtain ⟨r, s', hm, hW'⟩ := T s i z0 hW hi
  exact ⟨r, s', hm, hW', X E A h x s s' i kc ks r z0 hR hW hi hm⟩
def SX_outcome (RX : TRX) (WF : TWF) : Prop := ∀ (E : Ev) (A : Nat → Prop) (h : Hp) (x : Nat) (s s' : MS) (i kc ks : Nat) (r : Int32) (z0 : Int32), RX E A h x s i kc ks → WF i s → i < 512 → M_outcome s z0 = some (r, s') → ∀ Q : Int32 → Hp → Prop, (∀ h', RX E A h' x s' (i + 1) kc ks → xg A h h' → Q r h') → m_X11_outcome E x z0 h 0 0 Q
def SM_outcome (WF : TWF) : Prop := ∀ (s : MS) (i : Nat) (z0 : Int32), WF i s → i < 512 → ∃ r s', M_outcome s z0 = some (r, s') ∧ WF (i + 1) s'
def SJ_outcome (RX : TRX) (WF : TWF) : Prop := ∀ (E : Ev) (A : Nat → Prop) (h : Hp) (x : Nat) (s : MS) (i kc ks : Nat) (z0 : Int32), RX E A h x s i kc ks → WF i s → i < 512 → ∃ r s', M_outcome s z0 = some (r, s') ∧ WF (i + 1) s' ∧ ∀ Q : Int32 → Hp → Prop, (∀ h', RX E A h' x s' (i + 1) kc ks → xg A h h' → Q r h') → m_X11_outcome E x z0 h 0 0 Q
theorem SJ_outcome_of {RX : TRX} {WF : TWF} (X : SX_outcome RX WF) (T : SM_outcome WF) : SJ_outcome RX WF := by
  intro E A h x s i kc ks z0 hR hW hi
  obtain ⟨r, s', hm, hW'⟩ := T s i z0 hW hi
  exact ⟨r, s', hm, hW', X E A h x s s' i kc ks r z0 hR hW hi hm⟩
def SX_told (RX : TRX) (WF : TWF) : Prop := ∀ (E : Ev) (A : Nat → Prop) (h : Hp) (x : Nat) (s s' : MS) (i kc ks : Nat) (r : Int32) (z0 : Int32) (z1 : Int32), RX E A h x s i kc ks → WF i s → i < 512 → M_told s z0 z1 = some (r, s') → ∀ Q : Int32 → Hp → Prop, (∀ h', RX E A h' x s' (i + 1) kc ks → xg A h h' → Q r h') → m_X11_told E x z0 z1 h 0 0 Q
def SM_told (WF : TWF) : Prop := ∀ (s : MS) (i : Nat) (z0 : Int32) (z1 : Int32), WF i s → i < 512 → ∃ r s', M_told s z0 z1 = some (r, s') ∧ WF (i + 1) s'
def SJ_told (RX : TRX) (WF : TWF) : Prop := ∀ (E : Ev) (A : Nat → Prop) (h : Hp) (x : Nat) (s : MS) (i kc ks : Nat) (z0 : Int32) (z1 : Int32), RX E A h x s i kc ks → WF i s → i < 512 → ∃ r s', M_told s z0 z1 = some (r, s') ∧ WF (i + 1) s' ∧ ∀ Q : Int32 → Hp → Prop, (∀ h', RX E A h' x s' (i + 1) kc ks → xg A h h' → Q r h') → m_X11_told E x z0 z1 h 0 0 Q
theorem SJ_told_of {RX : TRX} {WF : TWF} (X : SX_told RX WF) (T : SM_told WF) : SJ_told RX WF := by
  intro E A h x s i kc ks z0 z1 hR hW hi
  obtain ⟨r, s', hm, hW'⟩ := T s i z0 z1 hW hi
  exact ⟨r, s', hm, hW', X E A h x s s' i kc ks r z0 z1 hR hW hi hm⟩
def SX_account (RX : TRX) (WF : TWF) : Prop := ∀ (E : Ev) (A : Nat → Prop) (h : Hp) (x : Nat) (s s' : MS) (i kc ks : Nat) (r : Int64) (z0 : Int32), RX E A h x s i kc ks → WF i s → i < 512 → M_account s z0 = some (r, s') → ∀ Q : Int64 → Hp → Prop, (∀ h', RX E A h' x s' (i + 1) kc ks → xg A h h' → Q r h') → m_X11_account E x z0 h 0 0 Q
def SM_account (WF : TWF) : Prop := ∀ (s : MS) (i : Nat) (z0 : Int32), WF i s → i < 512 → ∃ r s', M_account s z0 = some (r, s') ∧ WF (i + 1) s'
def SJ_account (RX : TRX) (WF : TWF) : Prop := ∀ (E : Ev) (A : Nat → Prop) (h : Hp) (x : Nat) (s : MS) (i kc ks : Nat) (z0 : Int32), RX E A h x s i kc ks → WF i s → i < 512 → ∃ r s', M_account s z0 = some (r, s') ∧ WF (i + 1) s' ∧ ∀ Q : Int64 → Hp → Prop, (∀ h', RX E A h' x s' (i + 1) kc ks → xg A h h' → Q r h') → m_X11_account E x z0 h 0 0 Q
theorem SJ_account_of {RX : TRX} {WF : TWF} (X : SX_account RX WF) (T : SM_account WF) : SJ_account RX WF := by
  intro E A h x s i kc ks z0 hR hW hi
  obtain ⟨r, s', hm, hW'⟩ := T s i z0 hW hi
  exact ⟨r, s', hm, hW', X E A h x s s' i kc ks r z0 hR hW hi hm⟩
def SX_debit (RX : TRX) (WF : TWF) : Prop := ∀ (E : Ev) (A : Nat → Prop) (h : Hp) (x : Nat) (s s' : MS) (i kc ks : Nat) (r : Int64) (z0 : Int32) (z1 : Int32), RX E A h x s i kc ks → WF i s → i < 512 → M_debit_II s z0 z1 = some (r, s') → ∀ Q : Int64 → Hp → Prop, (∀ h', RX E A h' x s' (i + 1) kc ks → xg A h h' → Q r h') → m_X11_debit E x z0 z1 h 0 0 Q
def SM_debit (WF : TWF) : Prop := ∀ (s : MS) (i : Nat) (z0 : Int32) (z1 : Int32), WF i s → i < 512 → ∃ r s', M_debit_II s z0 z1 = some (r, s') ∧ WF (i + 1) s'
def SJ_debit (RX : TRX) (WF : TWF) : Prop := ∀ (E : Ev) (A : Nat → Prop) (h : Hp) (x : Nat) (s : MS) (i kc ks : Nat) (z0 : Int32) (z1 : Int32), RX E A h x s i kc ks → WF i s → i < 512 → ∃ r s', M_debit_II s z0 z1 = some (r, s') ∧ WF (i + 1) s' ∧ ∀ Q : Int64 → Hp → Prop, (∀ h', RX E A h' x s' (i + 1) kc ks → xg A h h' → Q r h') → m_X11_debit E x z0 z1 h 0 0 Q
theorem SJ_debit_of {RX : TRX} {WF : TWF} (X : SX_debit RX WF) (T : SM_debit WF) : SJ_debit RX WF := by
  intro E A h x s i kc ks z0 z1 hR hW hi
  obtain ⟨r, s', hm, hW'⟩ := T s i z0 z1 hW hi
  exact ⟨r, s', hm, hW', X E A h x s s' i kc ks r z0 z1 hR hW hi hm⟩
def SX_message (RX : TRX) (WF : TWF) : Prop := ∀ (E : Ev) (A : Nat → Prop) (h : Hp) (x : Nat) (s s' : MS) (i kc ks : Nat) (r : Int32) (z0 : Int32) (z1 : Int32), RX E A h x s i kc ks → WF i s → i < 512 → M_message s z0 z1 = some (r, s') → ∀ Q : Int32 → Hp → Prop, (∀ h', RX E A h' x s' (i + 1) kc ks → xg A h h' → Q r h') → m_X11_message E x z0 z1 h 0 0 Q
def SM_message (WF : TWF) : Prop := ∀ (s : MS) (i : Nat) (z0 : Int32) (z1 : Int32), WF i s → i < 512 → ∃ r s', M_message s z0 z1 = some (r, s') ∧ WF (i + 1) s'
def SJ_message (RX : TRX) (WF : TWF) : Prop := ∀ (E : Ev) (A : Nat → Prop) (h : Hp) (x : Nat) (s : MS) (i kc ks : Nat) (z0 : Int32) (z1 : Int32), RX E A h x s i kc ks → WF i s → i < 512 → ∃ r s', M_message s z0 z1 = some (r, s') ∧ WF (i + 1) s' ∧ ∀ Q : Int32 → Hp → Prop, (∀ h', RX E A h' x s' (i + 1) kc ks → xg A h h' → Q r h') → m_X11_message E x z0 z1 h 0 0 Q
theorem SJ_message_of {RX : TRX} {WF : TWF} (X : SX_message RX WF) (T : SM_message WF) : SJ_message RX WF := by
  intro E A h x s i kc ks z0 z1 hR hW hi
  obtain ⟨r, s', hm, hW'⟩ := T s i z0 z1 hW hi
  exact ⟨r, s', hm, hW', X E A h x s s' i kc ks r z0 z1 hR hW hi hm⟩
def SX_at (RX : TRX) (WF : TWF) : Prop := ∀ (E : Ev) (A : Nat → Prop) (h : Hp) (x : Nat) (s s' : MS) (i kc ks : Nat) (r : Int32) (z0 : Int32) (z1 : Int32), RX E A h x s i kc ks → WF i s → i < 512 → M_at s z0 z1 = some (r, s') → ∀ Q : Int32 → Hp → Prop, (∀ h', RX E A h' x s' (i + 1) kc ks → xg A h h' → Q r h') → m_X11_at E x z0 z1 h 0 0 Q
def SM_at (WF : TWF) : Prop := ∀ (s : MS) (i : Nat) (z0 : Int32) (z1 : Int32), WF i s → i < 512 → ∃ r s', M_at s z0 z1 = some (r, s') ∧ WF (i + 1) s'
def SJ_at (RX : TRX) (WF : TWF) : Prop := ∀ (E : Ev) (A : Nat → Prop) (h : Hp) (x : Nat) (s : MS) (i kc ks : Nat) (z0 : Int32) (z1 : Int32), RX E A h x s i kc ks → WF i s → i < 512 → ∃ r s', M_at s z0 z1 = some (r, s') ∧ WF (i + 1) s' ∧ ∀ Q : Int32 → Hp → Prop, (∀ h', RX E A h' x s' (i + 1) kc ks → xg A h h' → Q r h') → m_X11_at E x z0 z1 h 0 0 Q
theorem SJ_at_of {RX : TRX} {WF : TWF} (X : SX_at RX WF) (T : SM_at WF) : SJ_at RX WF := by
  intro E A h x s i kc ks z0 z1 hR hW hi
  obtain ⟨r, s', hm, hW'⟩ := T s i z0 z1 hW hi
  exact ⟨r, s', hm, hW', X E A h x s s' i kc ks r z0 z1 hR hW hi hm⟩
def SX_matched (RX : TRX) (WF : TWF) : Prop := ∀ (E : Ev) (A : Nat → Prop) (h : Hp) (x : Nat) (s s' : MS) (i kc ks : Nat) (r : Int32) , RX E A h x s i kc ks → WF i s → i < 512 → M_matched s  = some (r, s') → ∀ Q : Int32 → Hp → Prop, (∀ h', RX E A h' x s' (i + 1) kc ks → xg A h h' → Q r h') → m_X11_matched E x  h 0 0 Q
def SM_matched (WF : TWF) : Prop := ∀ (s : MS) (i : Nat) , WF i s → i < 512 → ∃ r s', M_matched s  = some (r, s') ∧ WF (i + 1) s'
def SJ_matched (RX : TRX) (WF : TWF) : Prop := ∀ (E : Ev) (A : Nat → Prop) (h : Hp) (x : Nat) (s : MS) (i kc ks : Nat) , RX E A h x s i kc ks → WF i s → i < 512 → ∃ r s', M_matched s  = some (r, s') ∧ WF (i + 1) s' ∧ ∀ Q : Int32 → Hp → Prop, (∀ h', RX E A h' x s' (i + 1) kc ks → xg A h h' → Q r h') → m_X11_matched E x  h 0 0 Q
theorem SJ_matched_of {RX : TRX} {WF : TWF} (X : SX_matched RX WF) (T : SM_matched WF) : SJ_matched RX WF := by
  intro E A h x s i kc ks  hR hW hi
  obtain ⟨r, s', hm, hW'⟩ := T s i  hW hi
  exact ⟨r, s', hm, hW', X E A h x s s' i kc ks r  hR hW hi hm⟩
/-- the start: both are made -/
def S_init (RX : TRX) (WF : TWF) : Prop := ∀ (E : Ev) (K : Nat → Nat → Hp → Nat → Nat → Prop), (∀ (A : Nat → Prop) (h : Hp) (x m : Nat) (ad : Nat → Nat) (s : MS) (kc ks : Nat), RX E A h x s 0 kc ks → RepM E h m ad s → (∀ a, FM m ad a → ¬ A a) → WF 0 s → K x m h kc ks) →
  nO xh_0 600000 7302250 12 4 [.null, .null, .null, .int 0] fun a3 h4 kc5 ks6 => cK kc5 ks6 fun mc9 ms10 kc11 ks12 => m_X11_init E a3 h4 mc9 ms10 (fun h14 =>
    nO h14 kc11 ks12 13 63 [.int 0, .null, .null, .null, .null, .int 0, .int 0, .null, .null, .null, .null, .null, .null, .int 0, .int 0, .null, .int 0, .null, .null, .null, .int 0, .int 0, .null, .null, .null, .null, .null, .null, .null, .null, .null, .null, .null, .null, .null, .null, .int 0, .null, .null, .null, .null, .null, .null, .null, .null, .null, .null, .null, .null, .null, .null, .null, .long 0, .int 0, .null, .null, .null, .int 0, .null, .int 0, .null, .int 0, .null] fun a17 h18 kc19 ks20 => cK kc19 ks20 fun mc23 ms24 kc25 ks26 => m_X12_init E a17 h18 mc23 ms24 (fun h28 => K a3 a17 h28 kc25 ks26))
/-- what isn't the class's stays out of its relation; a call that is none counts too -/
def S_keep (RX : TRX) (WF : TWF) : Prop := (∀ (E : Ev) (A S : Nat → Prop) (h h' : Hp) (x : Nat) (s : MS) (i kc ks : Nat), RX E A h x s i kc ks → xf S h h' → (∀ a, S a → ¬ A a) → RX E A h' x s i kc ks) ∧ (∀ (E : Ev) (A : Nat → Prop) (h : Hp) (x : Nat) (s : MS) (i kc ks : Nat), RX E A h x s i kc ks → ∃ fs, xh_at h x (.inr (12, fs))) ∧ (∀ (E : Ev) (A : Nat → Prop) (h : Hp) (x : Nat) (s : MS) (i kc ks : Nat), RX E A h x s i kc ks → i < 512 → RX E A h x s (i + 1) kc ks) ∧ ∀ (s : MS) (i : Nat), WF i s → i < 512 → WF (i + 1) s
set_option maxRecDepth 100000 in
set_option maxHeartbeats 16000000 in
theorem law_loop_open {RX : TRX} {WF : TWF} (K0 : S_keep RX WF) (J_card : SJ_card RX WF) (J_terminal : SJ_terminal RX WF) (J_purchase : SJ_purchase RX WF) (J_deliver : SJ_deliver RX WF) (J_alter : SJ_alter RX WF) (J_drop : SJ_drop RX WF) (J_again : SJ_again RX WF) (J_put : SJ_put RX WF) (J_inject : SJ_inject RX WF) (J_power : SJ_power RX WF) (J_tick : SJ_tick RX WF) (J_clear : SJ_clear RX WF) (J_count : SJ_count RX WF) (J_outcome : SJ_outcome RX WF) (J_told : SJ_told RX WF) (J_account : SJ_account RX WF) (J_debit : SJ_debit RX WF) (J_message : SJ_message RX WF) (J_at : SJ_at RX WF) (J_matched : SJ_matched RX WF) {E : Ev} {L : Nat} {xs : Nat → Int32} (hL : L ≤ 3584) {A : Nat → Prop} {x m : Nat} {ad : Nat → Nat} (hA : ∀ a, FM m ad a → ¬ A a) : ∀ (n i : Nat) (h : Hp) (s : MS) (kc ks : Nat), 7 * i ≤ L → L < 7 * (n + i) → RX E A h x s i kc ks → RepM E h m ad s → WF i s → m_L_law_L18 n E L xs x m (nI (7 * i)) h kc ks := by
  intro n
  induction n with
  | zero =>
    intro i h s kc ks h7 hn
    omega
  | succ n ih =>
    intro i h s kc ks h7 hn hR hM hW
    have hL31 : L < 2 ^ 31 := by omega
    refine ⟨fun _ => rfl, fun hb => ?_⟩
    have hin : 7 * i + 7 ≤ L := by
      rcases Nat.lt_or_ge L (7 * i + 7) with q | q
      · exfalso
        apply hb
        show nI L - 7 < nI (7 * i)
        rw [Int32.lt_iff_toInt_lt, show (7 : Int32) = nI 7 from rfl, pk_sub_toInt (by omega) (by omega), nI_toInt (by omega)]
        omega
      · exact q
    have hi : i < 512 := by omega
    have fin : ∀ (h' : Hp) (s' : MS) (kc1 ks1 : Nat), RX E A h' x s' (i + 1) kc1 ks1 → RepM E h' m ad s' → WF (i + 1) s' → m_L_law_L902 E L xs x m (nI (7 * i)) h' kc1 ks1 (fun a1k a2k xv3k hk kck ksk => m_L_law_L18 n E L xs a1k a2k xv3k hk kck ksk) := by
      intro h' s' kc1 ks1 p1 p2 p3
      show m_L_law_L18 n E L xs x m (nI (7 * i) + 7) h' kc1 ks1
      rw [show nI (7 * i) + 7 = nI (7 * (i + 1)) from (nI_addk (7 * i) 7 (x := 7) rfl).trans (congrArg nI (by omega))]
      exact ih (i + 1) h' s' kc1 ks1 (by omega) (by omega) p1 p2 p3
    refine xsI_of (7 * i) (by omega) hL31 rfl ?_
    refine ⟨fun _ => ?_, fun _ => ?_⟩
    · refine xsI_of (7 * i + 1) (by omega) hL31 (nI_addk _ 1 rfl) ?_
      refine xsI_of (7 * i + 2) (by omega) hL31 (nI_addk _ 2 rfl) ?_
      refine xsI_of (7 * i + 3) (by omega) hL31 (nI_addk _ 3 rfl) ?_
      intro y1 e1
      refine xsI_of (7 * i + 4) (by omega) hL31 (nI_addk _ 4 rfl) ?_
      refine xsI_of (7 * i + 5) (by omega) hL31 (nI_addk _ 5 rfl) ?_
      refine xsI_of (7 * i + 6) (by omega) hL31 (nI_addk _ 6 rfl) ?_
      intro y3 e3
      refine ⟨K0.2.1 _ _ _ _ _ _ _ _ hR, ?_⟩
      obtain ⟨r, s', hm, hW', hX⟩ := J_card E A h x s i kc ks (xs (7 * i + 1)) y1 (xs (7 * i + 4)) y3 hR hW hi
      obtain ⟨mc, ms, kc1, ks1, q1, q2, hX⟩ := hX
      refine ⟨mc, ms, kc1, ks1, q1, q2, hX _ (fun h1 hR1 g1 => ?_)⟩
      refine xsI_of (7 * i + 1) (by omega) hL31 (nI_addk _ 1 rfl) ?_
      refine xsI_of (7 * i + 2) (by omega) hL31 (nI_addk _ 2 rfl) ?_
      refine xsI_of (7 * i + 3) (by omega) hL31 (nI_addk _ 3 rfl) ?_
      intro y1b e1b
      refine xsI_of (7 * i + 4) (by omega) hL31 (nI_addk _ 4 rfl) ?_
      refine xsI_of (7 * i + 5) (by omega) hL31 (nI_addk _ 5 rfl) ?_
      refine xsI_of (7 * i + 6) (by omega) hL31 (nI_addk _ 6 rfl) ?_
      intro y3b e3b
      have w1 : y1b = y1 := e1b.trans e1.symm
      subst w1
      have w3 : y3b = y3 := e3b.trans e3.symm
      subst w3
      refine ⟨⟨_, (hM.g g1 hA).1⟩, ?_⟩
      refine z_card (hM.g g1 hA) hm (fun h2 hM2 f2 => ?_)
      refine ⟨fun _ => ?_, fun q => absurd rfl q⟩
      exact fin h2 s' kc1 ks1 (K0.1 E A (FM m ad) h1 h2 x s' (i + 1) kc1 ks1 hR1 f2 hA) hM2 hW'
    refine ⟨fun _ => ?_, fun _ => ?_⟩
    · refine xsI_of (7 * i + 1) (by omega) hL31 (nI_addk _ 1 rfl) ?_
      refine xsI_of (7 * i + 2) (by omega) hL31 (nI_addk _ 2 rfl) ?_
      intro y0 e0
      refine xsI_of (7 * i + 3) (by omega) hL31 (nI_addk _ 3 rfl) ?_
      refine xsI_of (7 * i + 4) (by omega) hL31 (nI_addk _ 4 rfl) ?_
      intro y1 e1
      refine ⟨K0.2.1 _ _ _ _ _ _ _ _ hR, ?_⟩
      obtain ⟨r, s', hm, hW', hX⟩ := J_terminal E A h x s i kc ks y0 y1 hR hW hi
      obtain ⟨mc, ms, kc1, ks1, q1, q2, hX⟩ := hX
      refine ⟨mc, ms, kc1, ks1, q1, q2, hX _ (fun h1 hR1 g1 => ?_)⟩
      refine xsI_of (7 * i + 1) (by omega) hL31 (nI_addk _ 1 rfl) ?_
      refine xsI_of (7 * i + 2) (by omega) hL31 (nI_addk _ 2 rfl) ?_
      intro y0b e0b
      refine xsI_of (7 * i + 3) (by omega) hL31 (nI_addk _ 3 rfl) ?_
      refine xsI_of (7 * i + 4) (by omega) hL31 (nI_addk _ 4 rfl) ?_
      intro y1b e1b
      have w0 : y0b = y0 := e0b.trans e0.symm
      subst w0
      have w1 : y1b = y1 := e1b.trans e1.symm
      subst w1
      refine ⟨⟨_, (hM.g g1 hA).1⟩, ?_⟩
      refine z_terminal (hM.g g1 hA) hm (fun h2 hM2 f2 => ?_)
      refine ⟨fun _ => ?_, fun q => absurd rfl q⟩
      exact fin h2 s' kc1 ks1 (K0.1 E A (FM m ad) h1 h2 x s' (i + 1) kc1 ks1 hR1 f2 hA) hM2 hW'
    refine ⟨fun _ => ?_, fun _ => ?_⟩
    · refine xsI_of (7 * i + 1) (by omega) hL31 (nI_addk _ 1 rfl) ?_
      refine xsI_of (7 * i + 2) (by omega) hL31 (nI_addk _ 2 rfl) ?_
      refine xsI_of (7 * i + 3) (by omega) hL31 (nI_addk _ 3 rfl) ?_
      refine xsI_of (7 * i + 4) (by omega) hL31 (nI_addk _ 4 rfl) ?_
      intro y2 e2
      refine xsI_of (7 * i + 5) (by omega) hL31 (nI_addk _ 5 rfl) ?_
      refine ⟨K0.2.1 _ _ _ _ _ _ _ _ hR, ?_⟩
      obtain ⟨r, s', hm, hW', hX⟩ := J_purchase E A h x s i kc ks (xs (7 * i + 1)) (xs (7 * i + 2)) y2 (xs (7 * i + 5)) hR hW hi
      obtain ⟨mc, ms, kc1, ks1, q1, q2, hX⟩ := hX
      refine ⟨mc, ms, kc1, ks1, q1, q2, hX _ (fun h1 hR1 g1 => ?_)⟩
      refine xsI_of (7 * i + 1) (by omega) hL31 (nI_addk _ 1 rfl) ?_
      refine xsI_of (7 * i + 2) (by omega) hL31 (nI_addk _ 2 rfl) ?_
      refine xsI_of (7 * i + 3) (by omega) hL31 (nI_addk _ 3 rfl) ?_
      refine xsI_of (7 * i + 4) (by omega) hL31 (nI_addk _ 4 rfl) ?_
      intro y2b e2b
      refine xsI_of (7 * i + 5) (by omega) hL31 (nI_addk _ 5 rfl) ?_
      have w2 : y2b = y2 := e2b.trans e2.symm
      subst w2
      refine ⟨⟨_, (hM.g g1 hA).1⟩, ?_⟩
      refine z_purchase (hM.g g1 hA) hm (fun h2 hM2 f2 => ?_)
      refine ⟨fun _ => ?_, fun q => absurd rfl q⟩
      exact fin h2 s' kc1 ks1 (K0.1 E A (FM m ad) h1 h2 x s' (i + 1) kc1 ks1 hR1 f2 hA) hM2 hW'
    refine ⟨fun _ => ?_, fun _ => ?_⟩
    · refine xsI_of (7 * i + 1) (by omega) hL31 (nI_addk _ 1 rfl) ?_
      refine ⟨K0.2.1 _ _ _ _ _ _ _ _ hR, ?_⟩
      obtain ⟨r, s', hm, hW', hX⟩ := J_deliver E A h x s i kc ks (xs (7 * i + 1)) hR hW hi
      obtain ⟨mc, ms, kc1, ks1, q1, q2, hX⟩ := hX
      refine ⟨mc, ms, kc1, ks1, q1, q2, hX _ (fun h1 hR1 g1 => ?_)⟩
      refine xsI_of (7 * i + 1) (by omega) hL31 (nI_addk _ 1 rfl) ?_
      refine ⟨⟨_, (hM.g g1 hA).1⟩, ?_⟩
      refine z_deliver (hM.g g1 hA) hm (fun h2 hM2 f2 => ?_)
      refine ⟨fun _ => ?_, fun q => absurd rfl q⟩
      exact fin h2 s' kc1 ks1 (K0.1 E A (FM m ad) h1 h2 x s' (i + 1) kc1 ks1 hR1 f2 hA) hM2 hW'
    refine ⟨fun _ => ?_, fun _ => ?_⟩
    · refine xsI_of (7 * i + 1) (by omega) hL31 (nI_addk _ 1 rfl) ?_
      refine xsI_of (7 * i + 2) (by omega) hL31 (nI_addk _ 2 rfl) ?_
      refine xsI_of (7 * i + 3) (by omega) hL31 (nI_addk _ 3 rfl) ?_
      refine ⟨K0.2.1 _ _ _ _ _ _ _ _ hR, ?_⟩
      obtain ⟨r, s', hm, hW', hX⟩ := J_alter E A h x s i kc ks (xs (7 * i + 1)) (xs (7 * i + 2)) (xs (7 * i + 3)) hR hW hi
      refine hX _ (fun h1 hR1 g1 => ?_)
      refine xsI_of (7 * i + 1) (by omega) hL31 (nI_addk _ 1 rfl) ?_
      refine xsI_of (7 * i + 2) (by omega) hL31 (nI_addk _ 2 rfl) ?_
      refine xsI_of (7 * i + 3) (by omega) hL31 (nI_addk _ 3 rfl) ?_
      refine ⟨⟨_, (hM.g g1 hA).1⟩, ?_⟩
      refine z_alter (hM.g g1 hA) hm (fun h2 hM2 f2 => ?_)
      refine ⟨fun _ => ?_, fun q => absurd rfl q⟩
      exact fin h2 s' kc ks (K0.1 E A (FM m ad) h1 h2 x s' (i + 1) kc ks hR1 f2 hA) hM2 hW'
    refine ⟨fun _ => ?_, fun _ => ?_⟩
    · refine xsI_of (7 * i + 1) (by omega) hL31 (nI_addk _ 1 rfl) ?_
      refine ⟨K0.2.1 _ _ _ _ _ _ _ _ hR, ?_⟩
      obtain ⟨r, s', hm, hW', hX⟩ := J_drop E A h x s i kc ks (xs (7 * i + 1)) hR hW hi
      refine hX _ (fun h1 hR1 g1 => ?_)
      refine xsI_of (7 * i + 1) (by omega) hL31 (nI_addk _ 1 rfl) ?_
      refine ⟨⟨_, (hM.g g1 hA).1⟩, ?_⟩
      refine z_drop (hM.g g1 hA) hm (fun h2 hM2 f2 => ?_)
      refine ⟨fun _ => ?_, fun q => absurd rfl q⟩
      exact fin h2 s' kc ks (K0.1 E A (FM m ad) h1 h2 x s' (i + 1) kc ks hR1 f2 hA) hM2 hW'
    refine ⟨fun _ => ?_, fun _ => ?_⟩
    · refine xsI_of (7 * i + 1) (by omega) hL31 (nI_addk _ 1 rfl) ?_
      refine ⟨K0.2.1 _ _ _ _ _ _ _ _ hR, ?_⟩
      obtain ⟨r, s', hm, hW', hX⟩ := J_again E A h x s i kc ks (xs (7 * i + 1)) hR hW hi
      obtain ⟨mc, ms, kc1, ks1, q1, q2, hX⟩ := hX
      refine ⟨mc, ms, kc1, ks1, q1, q2, hX _ (fun h1 hR1 g1 => ?_)⟩
      refine xsI_of (7 * i + 1) (by omega) hL31 (nI_addk _ 1 rfl) ?_
      refine ⟨⟨_, (hM.g g1 hA).1⟩, ?_⟩
      refine z_again (hM.g g1 hA) hm (fun h2 hM2 f2 => ?_)
      refine ⟨fun _ => ?_, fun q => absurd rfl q⟩
      exact fin h2 s' kc1 ks1 (K0.1 E A (FM m ad) h1 h2 x s' (i + 1) kc1 ks1 hR1 f2 hA) hM2 hW'
    refine ⟨fun _ => ?_, fun _ => ?_⟩
    · refine xsI_of (7 * i + 1) (by omega) hL31 (nI_addk _ 1 rfl) ?_
      refine ⟨K0.2.1 _ _ _ _ _ _ _ _ hR, ?_⟩
      obtain ⟨r, s', hm, hW', hX⟩ := J_put E A h x s i kc ks (xs (7 * i + 1)) hR hW hi
      refine hX _ (fun h1 hR1 g1 => ?_)
      refine xsI_of (7 * i + 1) (by omega) hL31 (nI_addk _ 1 rfl) ?_
      refine ⟨⟨_, (hM.g g1 hA).1⟩, ?_⟩
      refine z_put (hM.g g1 hA) hm (fun h2 hM2 f2 => ?_)
      refine ⟨fun _ => ?_, fun q => absurd rfl q⟩
      exact fin h2 s' kc ks (K0.1 E A (FM m ad) h1 h2 x s' (i + 1) kc ks hR1 f2 hA) hM2 hW'
    refine ⟨fun _ => ?_, fun _ => ?_⟩
    · refine xsI_of (7 * i + 1) (by omega) hL31 (nI_addk _ 1 rfl) ?_
      refine xsI_of (7 * i + 2) (by omega) hL31 (nI_addk _ 2 rfl) ?_
      refine xsI_of (7 * i + 3) (by omega) hL31 (nI_addk _ 3 rfl) ?_
      refine xsI_of (7 * i + 4) (by omega) hL31 (nI_addk _ 4 rfl) ?_
      refine ⟨K0.2.1 _ _ _ _ _ _ _ _ hR, ?_⟩
      obtain ⟨r, s', hm, hW', hX⟩ := J_inject E A h x s i kc ks (xs (7 * i + 1)) (xs (7 * i + 2)) (xs (7 * i + 3)) (xs (7 * i + 4)) hR hW hi
      obtain ⟨mc, ms, kc1, ks1, q1, q2, hX⟩ := hX
      refine ⟨mc, ms, kc1, ks1, q1, q2, hX _ (fun h1 hR1 g1 => ?_)⟩
      refine xsI_of (7 * i + 1) (by omega) hL31 (nI_addk _ 1 rfl) ?_
      refine xsI_of (7 * i + 2) (by omega) hL31 (nI_addk _ 2 rfl) ?_
      refine xsI_of (7 * i + 3) (by omega) hL31 (nI_addk _ 3 rfl) ?_
      refine xsI_of (7 * i + 4) (by omega) hL31 (nI_addk _ 4 rfl) ?_
      refine ⟨⟨_, (hM.g g1 hA).1⟩, ?_⟩
      refine z_inject (hM.g g1 hA) hm (fun h2 hM2 f2 => ?_)
      refine ⟨fun _ => ?_, fun q => absurd rfl q⟩
      exact fin h2 s' kc1 ks1 (K0.1 E A (FM m ad) h1 h2 x s' (i + 1) kc1 ks1 hR1 f2 hA) hM2 hW'
    refine ⟨fun _ => ?_, fun _ => ?_⟩
    · refine xsI_of (7 * i + 1) (by omega) hL31 (nI_addk _ 1 rfl) ?_
      refine xsI_of (7 * i + 2) (by omega) hL31 (nI_addk _ 2 rfl) ?_
      refine ⟨K0.2.1 _ _ _ _ _ _ _ _ hR, ?_⟩
      obtain ⟨r, s', hm, hW', hX⟩ := J_power E A h x s i kc ks (xs (7 * i + 1)) (xs (7 * i + 2)) hR hW hi
      refine hX _ (fun h1 hR1 g1 => ?_)
      refine xsI_of (7 * i + 1) (by omega) hL31 (nI_addk _ 1 rfl) ?_
      refine xsI_of (7 * i + 2) (by omega) hL31 (nI_addk _ 2 rfl) ?_
      refine ⟨⟨_, (hM.g g1 hA).1⟩, ?_⟩
      refine z_power (hM.g g1 hA) hm (fun h2 hM2 f2 => ?_)
      refine ⟨fun _ => ?_, fun q => absurd rfl q⟩
      exact fin h2 s' kc ks (K0.1 E A (FM m ad) h1 h2 x s' (i + 1) kc ks hR1 f2 hA) hM2 hW'
    refine ⟨fun _ => ?_, fun _ => ?_⟩
    · refine xsI_of (7 * i + 1) (by omega) hL31 (nI_addk _ 1 rfl) ?_
      refine ⟨K0.2.1 _ _ _ _ _ _ _ _ hR, ?_⟩
      obtain ⟨r, s', hm, hW', hX⟩ := J_tick E A h x s i kc ks (xs (7 * i + 1)) hR hW hi
      refine hX _ (fun h1 hR1 g1 => ?_)
      refine xsI_of (7 * i + 1) (by omega) hL31 (nI_addk _ 1 rfl) ?_
      refine ⟨⟨_, (hM.g g1 hA).1⟩, ?_⟩
      refine z_tick (hM.g g1 hA) hm (fun h2 hM2 f2 => ?_)
      refine ⟨fun _ => ?_, fun q => absurd rfl q⟩
      exact fin h2 s' kc ks (K0.1 E A (FM m ad) h1 h2 x s' (i + 1) kc ks hR1 f2 hA) hM2 hW'
    refine ⟨fun _ => ?_, fun _ => ?_⟩
    · refine xsI_of (7 * i + 1) (by omega) hL31 (nI_addk _ 1 rfl) ?_
      refine ⟨K0.2.1 _ _ _ _ _ _ _ _ hR, ?_⟩
      obtain ⟨r, s', hm, hW', hX⟩ := J_clear E A h x s i kc ks (xs (7 * i + 1)) hR hW hi
      obtain ⟨mc, ms, kc1, ks1, q1, q2, hX⟩ := hX
      refine ⟨mc, ms, kc1, ks1, q1, q2, hX _ (fun h1 hR1 g1 => ?_)⟩
      refine xsI_of (7 * i + 1) (by omega) hL31 (nI_addk _ 1 rfl) ?_
      refine ⟨⟨_, (hM.g g1 hA).1⟩, ?_⟩
      refine z_clear (hM.g g1 hA) hm (fun h2 hM2 f2 => ?_)
      refine ⟨fun _ => ?_, fun q => absurd rfl q⟩
      exact fin h2 s' kc1 ks1 (K0.1 E A (FM m ad) h1 h2 x s' (i + 1) kc1 ks1 hR1 f2 hA) hM2 hW'
    refine ⟨fun _ => ?_, fun _ => ?_⟩
    · refine xsI_of (7 * i + 1) (by omega) hL31 (nI_addk _ 1 rfl) ?_
      refine ⟨K0.2.1 _ _ _ _ _ _ _ _ hR, ?_⟩
      obtain ⟨r, s', hm, hW', hX⟩ := J_count E A h x s i kc ks (xs (7 * i + 1)) hR hW hi
      refine hX _ (fun h1 hR1 g1 => ?_)
      refine xsI_of (7 * i + 1) (by omega) hL31 (nI_addk _ 1 rfl) ?_
      refine ⟨⟨_, (hM.g g1 hA).1⟩, ?_⟩
      refine z_count (hM.g g1 hA) hm (fun h2 hM2 f2 => ?_)
      refine ⟨fun _ => ?_, fun q => absurd rfl q⟩
      exact fin h2 s' kc ks (K0.1 E A (FM m ad) h1 h2 x s' (i + 1) kc ks hR1 f2 hA) hM2 hW'
    refine ⟨fun _ => ?_, fun _ => ?_⟩
    · refine xsI_of (7 * i + 1) (by omega) hL31 (nI_addk _ 1 rfl) ?_
      refine ⟨K0.2.1 _ _ _ _ _ _ _ _ hR, ?_⟩
      obtain ⟨r, s', hm, hW', hX⟩ := J_outcome E A h x s i kc ks (xs (7 * i + 1)) hR hW hi
      refine hX _ (fun h1 hR1 g1 => ?_)
      refine xsI_of (7 * i + 1) (by omega) hL31 (nI_addk _ 1 rfl) ?_
      refine ⟨⟨_, (hM.g g1 hA).1⟩, ?_⟩
      refine z_outcome (hM.g g1 hA) hm (fun h2 hM2 f2 => ?_)
      refine ⟨fun _ => ?_, fun q => absurd rfl q⟩
      exact fin h2 s' kc ks (K0.1 E A (FM m ad) h1 h2 x s' (i + 1) kc ks hR1 f2 hA) hM2 hW'
    refine ⟨fun _ => ?_, fun _ => ?_⟩
    · refine xsI_of (7 * i + 1) (by omega) hL31 (nI_addk _ 1 rfl) ?_
      refine xsI_of (7 * i + 2) (by omega) hL31 (nI_addk _ 2 rfl) ?_
      refine ⟨K0.2.1 _ _ _ _ _ _ _ _ hR, ?_⟩
      obtain ⟨r, s', hm, hW', hX⟩ := J_told E A h x s i kc ks (xs (7 * i + 1)) (xs (7 * i + 2)) hR hW hi
      refine hX _ (fun h1 hR1 g1 => ?_)
      refine xsI_of (7 * i + 1) (by omega) hL31 (nI_addk _ 1 rfl) ?_
      refine xsI_of (7 * i + 2) (by omega) hL31 (nI_addk _ 2 rfl) ?_
      refine ⟨⟨_, (hM.g g1 hA).1⟩, ?_⟩
      refine z_told (hM.g g1 hA) hm (fun h2 hM2 f2 => ?_)
      refine ⟨fun _ => ?_, fun q => absurd rfl q⟩
      exact fin h2 s' kc ks (K0.1 E A (FM m ad) h1 h2 x s' (i + 1) kc ks hR1 f2 hA) hM2 hW'
    refine ⟨fun _ => ?_, fun _ => ?_⟩
    · refine xsI_of (7 * i + 1) (by omega) hL31 (nI_addk _ 1 rfl) ?_
      refine ⟨K0.2.1 _ _ _ _ _ _ _ _ hR, ?_⟩
      obtain ⟨r, s', hm, hW', hX⟩ := J_account E A h x s i kc ks (xs (7 * i + 1)) hR hW hi
      refine hX _ (fun h1 hR1 g1 => ?_)
      refine xsI_of (7 * i + 1) (by omega) hL31 (nI_addk _ 1 rfl) ?_
      refine ⟨⟨_, (hM.g g1 hA).1⟩, ?_⟩
      refine z_account (hM.g g1 hA) hm (fun h2 hM2 f2 => ?_)
      refine ⟨fun _ => ?_, fun q => absurd (lg_cmp_self _) q⟩
      exact fin h2 s' kc ks (K0.1 E A (FM m ad) h1 h2 x s' (i + 1) kc ks hR1 f2 hA) hM2 hW'
    refine ⟨fun _ => ?_, fun _ => ?_⟩
    · refine xsI_of (7 * i + 1) (by omega) hL31 (nI_addk _ 1 rfl) ?_
      refine xsI_of (7 * i + 2) (by omega) hL31 (nI_addk _ 2 rfl) ?_
      refine ⟨K0.2.1 _ _ _ _ _ _ _ _ hR, ?_⟩
      obtain ⟨r, s', hm, hW', hX⟩ := J_debit E A h x s i kc ks (xs (7 * i + 1)) (xs (7 * i + 2)) hR hW hi
      refine hX _ (fun h1 hR1 g1 => ?_)
      refine xsI_of (7 * i + 1) (by omega) hL31 (nI_addk _ 1 rfl) ?_
      refine xsI_of (7 * i + 2) (by omega) hL31 (nI_addk _ 2 rfl) ?_
      refine ⟨⟨_, (hM.g g1 hA).1⟩, ?_⟩
      refine z_debit_II (hM.g g1 hA) hm (fun h2 hM2 f2 => ?_)
      refine ⟨fun _ => ?_, fun q => absurd (lg_cmp_self _) q⟩
      exact fin h2 s' kc ks (K0.1 E A (FM m ad) h1 h2 x s' (i + 1) kc ks hR1 f2 hA) hM2 hW'
    refine ⟨fun _ => ?_, fun _ => ?_⟩
    · refine xsI_of (7 * i + 1) (by omega) hL31 (nI_addk _ 1 rfl) ?_
      refine xsI_of (7 * i + 2) (by omega) hL31 (nI_addk _ 2 rfl) ?_
      refine ⟨K0.2.1 _ _ _ _ _ _ _ _ hR, ?_⟩
      obtain ⟨r, s', hm, hW', hX⟩ := J_message E A h x s i kc ks (xs (7 * i + 1)) (xs (7 * i + 2)) hR hW hi
      refine hX _ (fun h1 hR1 g1 => ?_)
      refine xsI_of (7 * i + 1) (by omega) hL31 (nI_addk _ 1 rfl) ?_
      refine xsI_of (7 * i + 2) (by omega) hL31 (nI_addk _ 2 rfl) ?_
      refine ⟨⟨_, (hM.g g1 hA).1⟩, ?_⟩
      refine z_message (hM.g g1 hA) hm (fun h2 hM2 f2 => ?_)
      refine ⟨fun _ => ?_, fun q => absurd rfl q⟩
      exact fin h2 s' kc ks (K0.1 E A (FM m ad) h1 h2 x s' (i + 1) kc ks hR1 f2 hA) hM2 hW'
    refine ⟨fun _ => ?_, fun _ => ?_⟩
    · refine xsI_of (7 * i + 1) (by omega) hL31 (nI_addk _ 1 rfl) ?_
      refine xsI_of (7 * i + 2) (by omega) hL31 (nI_addk _ 2 rfl) ?_
      refine ⟨K0.2.1 _ _ _ _ _ _ _ _ hR, ?_⟩
      obtain ⟨r, s', hm, hW', hX⟩ := J_at E A h x s i kc ks (xs (7 * i + 1)) (xs (7 * i + 2)) hR hW hi
      refine hX _ (fun h1 hR1 g1 => ?_)
      refine xsI_of (7 * i + 1) (by omega) hL31 (nI_addk _ 1 rfl) ?_
      refine xsI_of (7 * i + 2) (by omega) hL31 (nI_addk _ 2 rfl) ?_
      refine ⟨⟨_, (hM.g g1 hA).1⟩, ?_⟩
      refine z_at (hM.g g1 hA) hm (fun h2 hM2 f2 => ?_)
      refine ⟨fun _ => ?_, fun q => absurd rfl q⟩
      exact fin h2 s' kc ks (K0.1 E A (FM m ad) h1 h2 x s' (i + 1) kc ks hR1 f2 hA) hM2 hW'
    refine ⟨fun _ => ?_, fun _ => ?_⟩
    · refine ⟨K0.2.1 _ _ _ _ _ _ _ _ hR, ?_⟩
      obtain ⟨r, s', hm, hW', hX⟩ := J_matched E A h x s i kc ks  hR hW hi
      refine hX _ (fun h1 hR1 g1 => ?_)
      refine ⟨⟨_, (hM.g g1 hA).1⟩, ?_⟩
      refine z_matched (hM.g g1 hA) hm (fun h2 hM2 f2 => ?_)
      refine ⟨fun _ => ?_, fun q => absurd rfl q⟩
      exact fin h2 s' kc ks (K0.1 E A (FM m ad) h1 h2 x s' (i + 1) kc ks hR1 f2 hA) hM2 hW'
    exact fin h s kc ks (K0.2.2.1 _ _ _ _ _ _ _ _ hR hi) hM (K0.2.2.2 s i hW hi)
/-- the law's picture, out of the start and one step for each call -/
theorem law_pure_open {RX : TRX} {WF : TWF} (I0 : S_init RX WF) (K0 : S_keep RX WF) (J_card : SJ_card RX WF) (J_terminal : SJ_terminal RX WF) (J_purchase : SJ_purchase RX WF) (J_deliver : SJ_deliver RX WF) (J_alter : SJ_alter RX WF) (J_drop : SJ_drop RX WF) (J_again : SJ_again RX WF) (J_put : SJ_put RX WF) (J_inject : SJ_inject RX WF) (J_power : SJ_power RX WF) (J_tick : SJ_tick RX WF) (J_clear : SJ_clear RX WF) (J_count : SJ_count RX WF) (J_outcome : SJ_outcome RX WF) (J_told : SJ_told RX WF) (J_account : SJ_account RX WF) (J_debit : SJ_debit RX WF) (J_message : SJ_message RX WF) (J_at : SJ_at RX WF) (J_matched : SJ_matched RX WF) (E : Ev) (L : Nat) (xs : Nat → Int32) (hL : L ≤ 3584) : m_L_law E L xs xh_0 600000 7302250 := by
  refine I0 E (fun a3 a17 h28 kc25 ks26 => ∃ n29, m_L_law_L18 n29 E L xs a3 a17 0 h28 kc25 ks26) (fun A h x m ad s kc ks hR hM hA hW => ?_)
  refine ⟨L + 1, ?_⟩
  exact law_loop_open K0 J_card J_terminal J_purchase J_deliver J_alter J_drop J_again J_put J_inject J_power J_tick J_clear J_count J_outcome J_told J_account J_debit J_message J_at J_matched hL hA (L + 1) 0 h s kc ks (by omega) (by omega) hR hM hW
