/-! the two engines side by side -/
def Sim (u e c : Nat) (st sp : Bool) (σ : Mem) : Prop := ∃ (da tp : Nat → Nat) (n : Nat) (D : List DocT) (dl : Nat → Bool) (bs : Nat) (G : List SegT) (V : Nat → VwT) (A : AnT) (nr : Option (List Nat)) (mg : Nat), cH e da σ tp n D dl bs G V A nr mg st sp ∧ rH (vw σ (e + 355)) tp n D dl bs G V A nr mg st sp ∧ RB σ (e + 355) ∧ okS c D dl bs G V A nr mg ∧ gN σ ≤ e + 401 + 27 * c + 10 * mg ∧ gU σ ≤ u + 54087 * c + 48072 * mg
theorem Sim.up {u e c : Nat} {st sp : Bool} {σ : Mem} (h : Sim u e c st sp σ) : Sim u e (c + 1) st sp σ := by
  obtain ⟨da, tp, n, D, dl, bs, G, V, A, nr, mg, H, Rr, hB, ok, b1, b2⟩ := h
  exact ⟨da, tp, n, D, dl, bs, G, V, A, nr, mg, H, Rr, hB, ok.up, by omega, by omega⟩
theorem RB_ke {e : Nat} {σ σ' : Mem} (h : RB σ (e + 355)) (hN : e + 401 ≤ gN σ) (hk : ke e σ σ') : RB σ' (e + 355) := by
  obtain ⟨W, k, w⟩ := hk
  refine ⟨fun c hc => ?_, fun j hj hj0 => ?_⟩
  · have : c < 46 := hc
    rw [k.T (by omega)]
    exact h.1 c hc
  · rw [k.R (by omega) (fun q => by have := w _ _ _ q; omega)]
    exact h.2 j hj hj0
theorem RB_em {B : Nat} {σ : Mem} (h : RB σ B) (R : RS) : RB (emb σ B R) B := ⟨h.1, h.2⟩
theorem rH_ke {e : Nat} {σ σ' : Mem} {tp : Nat → Nat} {n : Nat} {D : List DocT} {dl : Nat → Bool} {bs : Nat} {G : List SegT} {V : Nat → VwT} {A : AnT} {nr : Option (List Nat)} {mg : Nat} {st sp : Bool} (h : rH (vw σ (e + 355)) tp n D dl bs G V A nr mg st sp) (hN : e + 401 ≤ gN σ) (hk : ke e σ σ') : rH (vw σ' (e + 355)) tp n D dl bs G V A nr mg st sp := by
  obtain ⟨W, k, w⟩ := hk
  exact h.rp0 (vw_kp k hN w)
theorem Sim_mk {u e c n mg : Nat} {st sp : Bool} {σ σ1 : Mem} {R1 : RS} {da tp : Nat → Nat} {D : List DocT} {dl : Nat → Bool} {bs : Nat} {G : List SegT} {V : Nat → VwT} {A : AnT} {nr : Option (List Nat)} (hN : e + 401 ≤ gN σ) (hB : RB σ (e + 355)) (hk : ke e σ σ1) (H1 : cH e da σ1 tp n D dl bs G V A nr mg st sp) (H2 : rH R1 tp n D dl bs G V A nr mg st sp) (ok : okS c D dl bs G V A nr mg) (b1 : gN σ1 ≤ e + 401 + 27 * c + 10 * mg) (b2 : gU σ1 ≤ u + 54087 * c + 48072 * mg) : Sim u e c st sp (emb σ1 (e + 355) R1) :=
  ⟨da, tp, n, D, dl, bs, G, V, A, nr, mg, H1.eb R1, H2.rp0 vw_emb, RB_em (RB_ke hB hN hk) R1, ok, b1, b2⟩
/-- a call that may change both; one that changes none; nearByte -/
noncomputable def opM {α : Type} [DecidableEq α] (fE : Mem → Nat → Option (α × Mem)) (fM : RS → Option (α × RS)) (σ : Mem) (x1 x2 : Option Nat) : Option Mem := (chk σ 11 x1).bind fun a => (fE σ a).bind fun v => (chk v.2 12 x2).bind fun b => (ckB v.2 b).bind fun _ => (fM (vw v.2 b)).bind fun w => if v.1 = w.1 then some (emb v.2 b w.2) else none
noncomputable def opR {α : Type} [DecidableEq α] (fE : Mem → Nat → Option α) (fM : RS → Option α) (σ : Mem) (x1 x2 : Option Nat) : Option Mem := (chk σ 11 x1).bind fun a => (fE σ a).bind fun v => (chk σ 12 x2).bind fun b => (ckB σ b).bind fun _ => (fM (vw σ b)).bind fun w => if v = w then some σ else none
noncomputable def opB (fE : Mem → Nat → Option (Int32 × Mem)) (fM : RS → Option Int32) (σ : Mem) (x1 x2 : Option Nat) : Option Mem := (chk σ 11 x1).bind fun a => (fE σ a).bind fun v => (chk v.2 12 x2).bind fun b => (ckB v.2 b).bind fun _ => (fM (vw v.2 b)).bind fun w => if v.1 = w then some v.2 else none
theorem opM_ok {α : Type} [DecidableEq α] {fE : Mem → Nat → Option (α × Mem)} {fM : RS → Option (α × RS)} {σ σ1 : Mem} {e B : Nat} {r : α} {R1 : RS} (ht : (gT σ e).1 = 11) (hE : fE σ e = some (r, σ1)) (hB : RB σ1 B) (hM : fM (vw σ1 B) = some (r, R1)) : opM fE fM σ (some e) (some B) = some (emb σ1 B R1) := by
  have t : (gT σ1 B).1 = 12 := hB.t0 (vw σ1 B)
  unfold opM
  rw [chk_ok ht, Option.bind_some, hE, Option.bind_some, chk_ok t, Option.bind_some, ckB_i hB, Option.bind_some, hM, Option.bind_some, if_pos rfl]
theorem opR_ok {α : Type} [DecidableEq α] {fE : Mem → Nat → Option α} {fM : RS → Option α} {σ : Mem} {e B : Nat} {r : α} (ht : (gT σ e).1 = 11) (hE : fE σ e = some r) (hB : RB σ B) (hM : fM (vw σ B) = some r) : opR fE fM σ (some e) (some B) = some σ := by
  have t : (gT σ B).1 = 12 := hB.t0 (vw σ B)
  unfold opR
  rw [chk_ok ht, Option.bind_some, hE, Option.bind_some, chk_ok t, Option.bind_some, ckB_i hB, Option.bind_some, hM, Option.bind_some, if_pos rfl]
theorem opB_ok {fE : Mem → Nat → Option (Int32 × Mem)} {fM : RS → Option Int32} {σ σ1 : Mem} {e B : Nat} {r : Int32} (ht : (gT σ e).1 = 11) (hE : fE σ e = some (r, σ1)) (hB : RB σ1 B) (hM : fM (vw σ1 B) = some r) : opB fE fM σ (some e) (some B) = some σ1 := by
  have t : (gT σ1 B).1 = 12 := hB.t0 (vw σ1 B)
  unfold opB
  rw [chk_ok ht, Option.bind_some, hE, Option.bind_some, chk_ok t, Option.bind_some, ckB_i hB, Option.bind_some, hM, Option.bind_some, if_pos rfl]
theorem bud_n {g g1 e c mg m2 : Nat} (h : g ≤ e + 401 + 27 * c + 10 * mg) (h1 : g1 ≤ g + 17 + 10 * (1 + (m2 - mg))) (h2 : mg ≤ m2) : g1 ≤ e + 401 + 27 * (c + 1) + 10 * m2 := by omega
theorem bud_g {g g1 u c mg m2 p q r : Nat} (h : g ≤ u + p * c + q * mg) (h1 : g1 ≤ g + r + q * (1 + (m2 - mg))) (h2 : mg ≤ m2) (hp : p = r + q) : g1 ≤ u + p * (c + 1) + q * m2 := by
  obtain ⟨k, rfl⟩ := Nat.le.dest h2
  rw [Nat.add_sub_cancel_left, Nat.mul_add, Nat.mul_one] at h1
  rw [Nat.mul_add, Nat.mul_one, Nat.mul_add]
  generalize q * mg = x at *
  generalize q * k = y at *
  generalize p * c = z at *
  omega
theorem bud_u {g g1 u c mg m2 : Nat} (h : g ≤ u + 54087 * c + 48072 * mg) (h1 : g1 ≤ g + 6015 + 48072 * (1 + (m2 - mg))) (h2 : mg ≤ m2) : g1 ≤ u + 54087 * (c + 1) + 48072 * m2 := bud_g h h1 h2 rfl
theorem cFix.t11 {e : Nat} {σ : Mem} {st sp : Bool} (h : cFix e σ st sp) : (gT σ e).1 = 11 := by rw [h.t0]
section ops
variable {u e c : Nat} {st sp : Bool} {σ : Mem}
/-! the calls that change -/
theorem op_feed (hS : Sim u e c st sp σ) (a b : Int64) (x : Int32) : ∃ σ', opM (fun s k => E_feed s k a b x) (fun R => M_feed R a b x) σ (some e) (some (e + 355)) = some σ' ∧ Sim u e (c + 1) st sp σ' := by
  obtain ⟨da, tp, n, D, dl, bs, G, V, A, nr, mg, H, Rr, hB, ok, b1, b2⟩ := hS
  have hN := H.1.N
  obtain ⟨σ1, e1, k1, n1, u1, H1⟩ := E_feed_all H a b x
  obtain ⟨R1, e2, H2⟩ := M_feed_all (rH_ke Rr hN k1) a b x
  exact ⟨_, opM_ok H.1.t11 e1 (RB_ke hB hN k1) e2, Sim_mk hN hB k1 H1 H2 ok.up (by omega) (by omega)⟩
theorem op_add (hS : Sim u e c st sp σ) (hc : c < 64) (key : Int64) (x y : Int32) : ∃ σ', opM (fun s k => E_add s k key x y) (fun R => M_add R key x y) σ (some e) (some (e + 355)) = some σ' ∧ Sim u e (c + 1) st sp σ' := by
  obtain ⟨da, tp, n, D, dl, bs, G, V, A, nr, mg, H, Rr, hB, ok, b1, b2⟩ := hS
  have hN := H.1.N
  have hD : D.length ≤ c := ok.1.1
  obtain ⟨p1, p2⟩ := E_add_ok H (ok.g hc) (by omega) ok.2.2.2.2.2.1 ok.2.2.2.2.2.2.2.1 ok.2.2.2.1 key x y
  by_cases bad : addBad tp n
  · obtain ⟨σ1, e1, k1, n1, u1, H1⟩ := p1 bad
    obtain ⟨R1, e2, H2⟩ := (M_add_ok (rH_ke Rr hN k1) (ok.g hc) (by omega) ok.2.2.2.2.1 (fun i f hi hf => (ok.2.1 i f hi hf).2) ok.2.2.2.1 ok.2.2.1 key x y).1 bad
    exact ⟨_, opM_ok H.1.t11 e1 (RB_ke hB hN k1) e2, Sim_mk hN hB k1 H1 H2 ok.up (by omega) (by omega)⟩
  · obtain ⟨σ1, da1, e1, k1, n1, u1, H1⟩ := p2 bad
    obtain ⟨R1, e2, H2⟩ := (M_add_ok (rH_ke Rr hN k1) (ok.g hc) (by omega) ok.2.2.2.2.1 (fun i f hi hf => (ok.2.1 i f hi hf).2) ok.2.2.2.1 ok.2.2.1 key x y).2 bad
    obtain ⟨ok2, hm⟩ := ok.add (st := st) (sp := sp) hc (fun i hi => (Rr.1.2.2 i hi).1) Rr.1.1 bad key x y
    exact ⟨_, opM_ok H.1.t11 e1 (RB_ke hB hN k1) e2, Sim_mk hN hB k1 H1 H2 ok2 (bud_n b1 n1 hm) (bud_u b2 u1 hm)⟩
theorem op_delete (hS : Sim u e c st sp σ) (hc : c < 64) (key : Int64) : ∃ σ', opM (fun s k => E_delete s k key) (fun R => M_delete R key) σ (some e) (some (e + 355)) = some σ' ∧ Sim u e (c + 1) st sp σ' := by
  obtain ⟨da, tp, n, D, dl, bs, G, V, A, nr, mg, H, Rr, hB, ok, b1, b2⟩ := hS
  have hN := H.1.N
  have hD : D.length ≤ c := ok.1.1
  obtain ⟨σ1, e1, k1, n1, u1, H1⟩ := E_delete_ok H key
  have k2 : ke e σ σ1 := ke.of k1 (fun t a k _ q => by
    obtain ⟨q1, q2⟩ := q
    have := (H.2.2.1.2.2 _ q1).2.1.1.1
    unfold wDel at q2
    omega)
  obtain ⟨R1, e2, H2⟩ := M_delete_ok (rH_ke Rr hN k2) (by omega) ok.2.2.2.2.1 key
  exact ⟨_, opM_ok H.1.t11 e1 (RB_ke hB hN k2) e2, Sim_mk hN hB k2 H1 H2 (ok.delete key) (by omega) (by omega)⟩
theorem op_refresh (hS : Sim u e c st sp σ) (hc : c < 64) : ∃ σ', opM (fun s k => E_refresh s k) (fun R => M_refresh R) σ (some e) (some (e + 355)) = some σ' ∧ Sim u e (c + 1) st sp σ' := by
  obtain ⟨da, tp, n, D, dl, bs, G, V, A, nr, mg, H, Rr, hB, ok, b1, b2⟩ := hS
  have hN := H.1.N
  obtain ⟨σ1, e1, k1, n1, u1, H1⟩ := E_refresh_ok H (ok.g hc)
  have k2 : ke e σ σ1 := ke.of k1 (fun t a k _ q => by unfold wF at q; omega)
  obtain ⟨R1, e2, H2⟩ := M_refresh_ok (rH_ke Rr hN k2) (ok.g hc)
  obtain ⟨ok2, hm⟩ := ok.refresh hc
  exact ⟨_, opM_ok H.1.t11 e1 (RB_ke hB hN k2) e2, Sim_mk hN hB k2 H1 H2 ok2 (by omega) (by omega)⟩
theorem op_open (hS : Sim u e c st sp σ) (hc : c < 64) : ∃ σ', opM (fun s k => E_open s k) (fun R => M_open R) σ (some e) (some (e + 355)) = some σ' ∧ Sim u e (c + 1) st sp σ' := by
  obtain ⟨da, tp, n, D, dl, bs, G, V, A, nr, mg, H, Rr, hB, ok, b1, b2⟩ := hS
  have hN := H.1.N
  obtain ⟨σ1, e1, k1, n1, u1, H1⟩ := E_open_ok H (ok.g hc)
  have k2 : ke e σ σ1 := ke.of k1 (fun t a k _ q => by
    obtain ⟨q1, q2⟩ := q
    unfold wVw at q2
    omega)
  obtain ⟨R1, e2, H2⟩ := M_open_ok (rH_ke Rr hN k2) (ok.g hc) ok.2.2.2.2.2.2.1
  exact ⟨_, opM_ok H.1.t11 e1 (RB_ke hB hN k2) e2, Sim_mk hN hB k2 H1 H2 (ok.opened hc) (by omega) (by omega)⟩
theorem op_close (hS : Sim u e c st sp σ) (x : Int32) : ∃ σ', opM (fun s k => E_close s k x) (fun R => M_close R x) σ (some e) (some (e + 355)) = some σ' ∧ Sim u e (c + 1) st sp σ' := by
  obtain ⟨da, tp, n, D, dl, bs, G, V, A, nr, mg, H, Rr, hB, ok, b1, b2⟩ := hS
  have hN := H.1.N
  obtain ⟨σ1, e1, k1, n1, u1, H1⟩ := E_close_ok H x
  have k2 : ke e σ σ1 := ke.of k1 (fun t a k _ q => by omega)
  obtain ⟨R1, e2, H2⟩ := M_close_ok (rH_ke Rr hN k2) x
  exact ⟨_, opM_ok H.1.t11 e1 (RB_ke hB hN k2) e2, Sim_mk hN hB k2 H1 H2 (ok.close x) (by omega) (by omega)⟩
theorem op_search (hS : Sim u e c st sp σ) (hc : c < 64) (x : Int32) : ∃ σ', opM (fun s k => E_search s k x) (fun R => M_search R x) σ (some e) (some (e + 355)) = some σ' ∧ Sim u e (c + 1) st sp σ' := by
  obtain ⟨da, tp, n, D, dl, bs, G, V, A, nr, mg, H, Rr, hB, ok, b1, b2⟩ := hS
  have hN := H.1.N
  have hD : D.length ≤ c := ok.1.1
  obtain ⟨σ1, r1, A1, e1, k1, n1, u1, H1, s1⟩ := E_search_ok H ok.2.1 ok.2.2.2.2.2.1 x (parse_p Rr)
  obtain ⟨R1, r2, A2, e2, H2, s2⟩ := M_search_ok (rH_ke Rr hN k1) (by omega) ok.2.1 ok.2.2.2.2.2.1 ok.2.2.2.2.2.2.1 x
  obtain ⟨rfl, rfl⟩ := srchR_1 s1 s2
  exact ⟨_, opM_ok H.1.t11 e1 (RB_ke hB hN k1) e2, Sim_mk hN hB k1 H1 H2 (ok.search (fun i hi => (Rr.1.2.2 i hi).1) Rr.1.1 s1) (by omega) (by omega)⟩
theorem op_near (hS : Sim u e c st sp σ) (hc : c < 64) (x : Int32) : ∃ σ', opM (fun s k => E_near s k x) (fun R => M_near R x) σ (some e) (some (e + 355)) = some σ' ∧ Sim u e (c + 1) st sp σ' := by
  obtain ⟨da, tp, n, D, dl, bs, G, V, A, nr, mg, H, Rr, hB, ok, b1, b2⟩ := hS
  have hN := H.1.N
  have hD : D.length ≤ c := ok.1.1
  obtain ⟨σ1, r1, nr1, e1, k1, n1, u1, H1, s1⟩ := E_near_ok H ok.2.1 ok.2.2.2.2.2.1 x
  obtain ⟨R1, r2, nr2, e2, H2, s2⟩ := M_near_ok (rH_ke Rr hN k1) (by omega) ok.2.1 ok.2.2.2.2.2.1 ok.2.2.2.2.2.2.1 x
  obtain ⟨rfl, rfl⟩ := nearR_1 s1 s2
  exact ⟨_, opM_ok H.1.t11 e1 (RB_ke hB hN k1) e2, Sim_mk hN hB k1 H1 H2 (ok.near s1) (by omega) (by omega)⟩
theorem op_frequency (hS : Sim u e c st sp σ) (hc : c < 64) (x w : Int32) : ∃ σ', opM (fun s k => E_frequency s k x w) (fun R => M_frequency R x w) σ (some e) (some (e + 355)) = some σ' ∧ Sim u e (c + 1) st sp σ' := by
  obtain ⟨da, tp, n, D, dl, bs, G, V, A, nr, mg, H, Rr, hB, ok, b1, b2⟩ := hS
  have hN := H.1.N
  have hD : D.length ≤ c := ok.1.1
  obtain ⟨σ1, e1, k1, n1, u1, H1⟩ := E_frequency_ok H x w
  obtain ⟨R1, e2, H2⟩ := M_frequency_ok (rH_ke Rr hN k1) (by omega) ok.2.1 ok.2.2.2.2.2.1 ok.2.2.2.2.2.2.1 x w
  exact ⟨_, opM_ok H.1.t11 e1 (RB_ke hB hN k1) e2, Sim_mk hN hB k1 H1 H2 ok.up (by omega) (by omega)⟩
theorem op_nearByte (hS : Sim u e c st sp σ) (x : Int32) : ∃ σ', opB (fun s k => E_nearByte s k x) (fun R => M_nearByte R x) σ (some e) (some (e + 355)) = some σ' ∧ Sim u e (c + 1) st sp σ' := by
  obtain ⟨da, tp, n, D, dl, bs, G, V, A, nr, mg, H, Rr, hB, ok, b1, b2⟩ := hS
  have hN := H.1.N
  obtain ⟨σ1, e1, k1, n1, u1, H1⟩ := E_nearByte_ok H ok.2.2.2.2.2.2.2.2.2 x
  have H2 := rH_ke Rr hN k1
  exact ⟨_, opB_ok H.1.t11 e1 (RB_ke hB hN k1) (M_nearByte_ok H2 ok.2.2.2.2.2.2.2.2.2 x), da, tp, n, D, dl, bs, G, V, A, nr, mg, H1, H2, RB_ke hB hN k1, ok.up, by omega, by omega⟩
/-! the calls that only read -/
theorem op_key (hS : Sim u e c st sp σ) (hc : c < 64) (x : Int32) : opR (fun s k => E_key s k x) (fun R => M_key R x) σ (some e) (some (e + 355)) = some σ := by
  obtain ⟨da, tp, n, D, dl, bs, G, V, A, nr, mg, H, Rr, hB, ok, b1, b2⟩ := hS
  have hD : D.length ≤ c := ok.1.1
  exact opR_ok H.1.t11 (E_key_ok H.1 H.2.2.2.2.2.2.1 H.2.2.1 ok.2.2.2.2.2.2.2.1 x) hB (M_key_ok Rr.2.2.2.2.2.1 Rr.2.1 H.2.2.2.2.2.2.1.2.2.1 (by omega) ok.2.2.2.2.2.2.2.1 x)
theorem op_hit (hS : Sim u e c st sp σ) (hc : c < 64) (x w : Int32) : opR (fun s k => E_hit s k x w) (fun R => M_hit R x w) σ (some e) (some (e + 355)) = some σ := by
  obtain ⟨da, tp, n, D, dl, bs, G, V, A, nr, mg, H, Rr, hB, ok, b1, b2⟩ := hS
  have hD : D.length ≤ c := ok.1.1
  exact opR_ok H.1.t11 (E_hit_ok H.1 H.2.2.2.2.2.2.1 H.2.2.1 ok.2.2.2.2.2.2.2.1 x w) hB (M_hit_ok Rr.2.2.2.2.2.1 Rr.2.1 H.2.2.2.2.2.2.1.2.2.1 (by omega) ok.2.2.2.2.2.2.2.1 x w)
theorem op_bucket (hS : Sim u e c st sp σ) (hc : c < 64) (x w f : Int32) : opR (fun s k => E_bucket s k x w f) (fun R => M_bucket R x w f) σ (some e) (some (e + 355)) = some σ := by
  obtain ⟨da, tp, n, D, dl, bs, G, V, A, nr, mg, H, Rr, hB, ok, b1, b2⟩ := hS
  have hD : D.length ≤ c := ok.1.1
  exact opR_ok H.1.t11 (E_bucket_ok H.1 H.2.2.2.2.2.2.1 H.2.2.1 ok.2.2.2.2.2.2.2.1 x w f) hB (M_bucket_ok Rr.2.2.2.2.2.1 Rr.2.1 H.2.2.2.2.2.2.1.2.2.1 (by omega) ok.2.2.2.2.2.2.2.1 x w f)
theorem op_over (hS : Sim u e c st sp σ) (hc : c < 64) (x w : Int32) : opR (fun s k => E_over s k x w) (fun R => M_over R x w) σ (some e) (some (e + 355)) = some σ := by
  obtain ⟨da, tp, n, D, dl, bs, G, V, A, nr, mg, H, Rr, hB, ok, b1, b2⟩ := hS
  have hD : D.length ≤ c := ok.1.1
  exact opR_ok H.1.t11 (E_over_ok H.1 H.2.2.2.2.2.2.1 H.2.2.1 ok.2.2.2.2.2.2.2.1 x w) hB (M_over_ok Rr.2.2.2.2.2.1 Rr.2.1 H.2.2.2.2.2.2.1.2.2.1 (by omega) ok.2.2.2.2.2.2.2.1 x w)
theorem op_mark (hS : Sim u e c st sp σ) (hc : c < 64) (x w : Int32) (ln : Bool) : opR (fun s k => E_mark s k x w ln) (fun R => M_mark_ R x w ln) σ (some e) (some (e + 355)) = some σ := by
  obtain ⟨da, tp, n, D, dl, bs, G, V, A, nr, mg, H, Rr, hB, ok, b1, b2⟩ := hS
  have hD : D.length ≤ c := ok.1.1
  exact opR_ok H.1.t11 (E_mark_ok H ok.2.1 ok.2.2.2.2.2.2.2.1 ok.2.2.2.2.2.2.2.2.1 x w ln) hB (M_mark__ok Rr (by omega) ok.2.1 ok.2.2.2.2.2.2.2.1 H.2.2.2.2.2.2.1.2.2.1 x w ln)
theorem op_segment (hS : Sim u e c st sp σ) (hc : c < 64) (x w : Int32) : opR (fun s k => E_segment s k x w) (fun R => M_segment R x w) σ (some e) (some (e + 355)) = some σ := by
  obtain ⟨da, tp, n, D, dl, bs, G, V, A, nr, mg, H, Rr, hB, ok, b1, b2⟩ := hS
  obtain ⟨hD, hbs, hG, -, -, hds, htt⟩ := ok.1
  exact opR_ok H.1.t11 (E_segment_ok H ok.2.1 hds (by omega) x w) hB (M_segment_ok Rr (by omega) ok.2.1 hds (by omega) (by omega) x w)
theorem op_view (hS : Sim u e c st sp σ) (x w : Int32) : opR (fun s k => E_view s k x w) (fun R => M_view R x w) σ (some e) (some (e + 355)) = some σ := by
  obtain ⟨da, tp, n, D, dl, bs, G, V, A, nr, mg, H, Rr, hB, ok, b1, b2⟩ := hS
  exact opR_ok H.1.t11 (E_view_ok H.1 H.2.2.2.2.2.1 x w) hB (M_view_ok Rr.2.2.2.2.1 ok.2.2.2.2.2.2.1 x w)
theorem op_told (hS : Sim u e c st sp σ) (hc : c < 64) (x : Int32) : opR (fun s k => E_told s k x) (fun R => M_told R x) σ (some e) (some (e + 355)) = some σ := by
  obtain ⟨da, tp, n, D, dl, bs, G, V, A, nr, mg, H, Rr, hB, ok, b1, b2⟩ := hS
  have hD : D.length ≤ c := ok.1.1
  exact opR_ok H.1.t11 (E_told_ok H ok.1.2.1 x) hB (M_told_ok Rr ok.1.2.1 (by omega) x)
end ops
