/-! the law holds, for every script -/
theorem law_pure (E : Ev) (L : Nat) (xs : Nat → Int32) (hL : L ≤ 3584) : m_L_law E L xs xh_0 600000 7302250 :=
  law_pure_open S_init_ok S_keep_ok SJ_card_ok SJ_terminal_ok SJ_purchase_ok SJ_deliver_ok SJ_alter_ok SJ_drop_ok SJ_again_ok SJ_put_ok SJ_inject_ok SJ_power_ok SJ_tick_ok SJ_clear_ok SJ_count_ok SJ_outcome_ok SJ_told_ok SJ_account_ok SJ_debit_ok SJ_message_ok SJ_at_ok SJ_matched_ok E L xs hL
/-- from the entry, for every script of at most 3584 ints, the law comes to its end with true -/
theorem whole_start {p : Program} {e : Env} {s : State} {m : MethodId} {below : List Frame} {meth : Method} {c : Code} (l : Launch) {b L : Nat} {xs : Nat → Int32} (hL : L ≤ 3584) (C0 : lw_At p s m meth c b L xs) : W p l e room_1 s m #[Value.ref b] below meth c s.heap [] 0 0 (lw_Z below #[Value.ref b] s) (entryFrame m ([Value.ref b] : List Value).toArray 4) :=
  whole_start_open law_pure l hL C0
