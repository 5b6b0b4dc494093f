def ST_level (Inv : Nat → Mem → Mem → Prop) : Prop := ∀ (k : Nat) (σ μ : Mem) (x1 x2 : Int32) , k < 512 → Inv k σ μ → ∃ (q1 : Int32 × Mem) (q2 : Int32 × Mem), f_X5_level x1 x2 σ = some q1 ∧ f_X6_level x1 x2 μ = some q2 ∧ q1.1 = q2.1 ∧ Inv (k + 1) q1.2 q2.2
def ST_stands (Inv : Nat → Mem → Mem → Prop) : Prop := ∀ (k : Nat) (σ μ : Mem) (x1 : Int32) , k < 512 → Inv k σ μ → ∃ (q1 : Int32 × Mem) (q2 : Int32 × Mem), f_X5_stands x1 σ = some q1 ∧ f_X6_stands x1 μ = some q2 ∧ q1.1 = q2.1 ∧ Inv (k + 1) q1.2 q2.2
def ST_plan (Inv : Nat → Mem → Mem → Prop) : Prop := ∀ (k : Nat) (σ μ : Mem) (x1 x2 : Int32) , k < 512 → Inv k σ μ → ∃ (q1 : Int32 × Mem) (q2 : Int32 × Mem), f_X5_plan x1 x2 σ = some q1 ∧ f_X6_plan x1 x2 μ = some q2 ∧ q1.1 = q2.1 ∧ Inv (k + 1) q1.2 q2.2
def ST_opening (Inv : Nat → Mem → Mem → Prop) : Prop := ∀ (k : Nat) (σ μ : Mem) (x1 : Int32) , k < 512 → Inv k σ μ → ∃ (q1 : Int32 × Mem) (q2 : Int32 × Mem), f_X5_opening x1 σ = some q1 ∧ f_X6_opening x1 μ = some q2 ∧ q1.1 = q2.1 ∧ Inv (k + 1) q1.2 q2.2
def ST_steady (Inv : Nat → Mem → Mem → Prop) : Prop := ∀ (k : Nat) (σ μ : Mem) (x1 : Int32) , k < 512 → Inv k σ μ → ∃ (q1 : Int32 × Mem) (q2 : Int32 × Mem), f_X5_steady x1 σ = some q1 ∧ f_X6_steady x1 μ = some q2 ∧ q1.1 = q2.1 ∧ Inv (k + 1) q1.2 q2.2
def ST_watcher (Inv : Nat → Mem → Mem → Prop) : Prop := ∀ (k : Nat) (σ μ : Mem) (x1 x2 : Int32) , k < 512 → Inv k σ μ → ∃ (q1 : Int32 × Mem) (q2 : Int32 × Mem), f_X5_watcher x1 x2 σ = some q1 ∧ f_X6_watcher x1 x2 μ = some q2 ∧ q1.1 = q2.1 ∧ Inv (k + 1) q1.2 q2.2
def ST_of (Inv : Nat → Mem → Mem → Prop) : Prop := ∀ (k : Nat) (σ μ : Mem) (x1 x2 : Int32) , k < 512 → Inv k σ μ → ∃ (q1 : Int32 × Mem) (q2 : Int32 × Mem), f_X5_of x1 x2 σ = some q1 ∧ f_X6_of x1 x2 μ = some q2 ∧ q1.1 = q2.1 ∧ Inv (k + 1) q1.2 q2.2
def ST_change (Inv : Nat → Mem → Mem → Prop) : Prop := ∀ (k : Nat) (σ μ : Mem) (x1 x2 x3 : Int32) , k < 512 → Inv k σ μ → ∃ (q1 : Int32 × Mem) (q2 : Int32 × Mem), f_X5_change x1 x2 x3 σ = some q1 ∧ f_X6_change x1 x2 x3 μ = some q2 ∧ q1.1 = q2.1 ∧ Inv (k + 1) q1.2 q2.2
def ST_go (Inv : Nat → Mem → Mem → Prop) : Prop := ∀ (k : Nat) (σ μ : Mem) (x1 : Int32) , k < 512 → Inv k σ μ → ∃ (q1 : Int32 × Mem) (q2 : Int32 × Mem), f_X5_go x1 σ = some q1 ∧ f_X6_go x1 μ = some q2 ∧ q1.1 = q2.1 ∧ Inv (k + 1) q1.2 q2.2
def ST_now (Inv : Nat → Mem → Mem → Prop) : Prop := ∀ (k : Nat) (σ μ : Mem) (x1 : Int32) , k < 512 → Inv k σ μ → ∃ (q1 : Int32 × Mem) (q2 : Int32 × Mem), f_X5_now x1 σ = some q1 ∧ f_X6_now x1 μ = some q2 ∧ q1.1 = q2.1 ∧ Inv (k + 1) q1.2 q2.2
def ST_ahead (Inv : Nat → Mem → Mem → Prop) : Prop := ∀ (k : Nat) (σ μ : Mem) (x1 x2 : Int32) , k < 512 → Inv k σ μ → ∃ (q1 : Int32 × Mem) (q2 : Int32 × Mem), f_X5_ahead x1 x2 σ = some q1 ∧ f_X6_ahead x1 x2 μ = some q2 ∧ q1.1 = q2.1 ∧ Inv (k + 1) q1.2 q2.2
def ST_belief (Inv : Nat → Mem → Mem → Prop) : Prop := ∀ (k : Nat) (σ μ : Mem) (x1 x2 x3 : Int32) , k < 512 → Inv k σ μ → ∃ (q1 : Int32 × Mem) (q2 : Int32 × Mem), f_X5_belief x1 x2 x3 σ = some q1 ∧ f_X6_belief x1 x2 x3 μ = some q2 ∧ q1.1 = q2.1 ∧ Inv (k + 1) q1.2 q2.2
def ST_when (Inv : Nat → Mem → Mem → Prop) : Prop := ∀ (k : Nat) (σ μ : Mem) (x1 : Int32) , k < 512 → Inv k σ μ → ∃ (q1 : Int32 × Mem) (q2 : Int32 × Mem), f_X5_when x1 σ = some q1 ∧ f_X6_when x1 μ = some q2 ∧ q1.1 = q2.1 ∧ Inv (k + 1) q1.2 q2.2
def ST_first (Inv : Nat → Mem → Mem → Prop) : Prop := ∀ (k : Nat) (σ μ : Mem) , k < 512 → Inv k σ μ → ∃ (q1 : Int32 × Mem) (q2 : Int32 × Mem), f_X5_first σ = some q1 ∧ f_X6_first μ = some q2 ∧ q1.1 = q2.1 ∧ Inv (k + 1) q1.2 q2.2
def ST_reaches (Inv : Nat → Mem → Mem → Prop) : Prop := ∀ (k : Nat) (σ μ : Mem) (x1 x2 : Int32) , k < 512 → Inv k σ μ → ∃ (q1 : Int32 × Mem) (q2 : Int32 × Mem), f_X5_reaches x1 x2 σ = some q1 ∧ f_X6_reaches x1 x2 μ = some q2 ∧ q1.1 = q2.1 ∧ Inv (k + 1) q1.2 q2.2
def ST_range (Inv : Nat → Mem → Mem → Prop) : Prop := ∀ (k : Nat) (σ μ : Mem) (x1 x2 x3 : Int32) , k < 512 → Inv k σ μ → ∃ (q1 : Int32 × Mem) (q2 : Int32 × Mem), f_X5_range x1 x2 x3 σ = some q1 ∧ f_X6_range x1 x2 x3 μ = some q2 ∧ q1.1 = q2.1 ∧ Inv (k + 1) q1.2 q2.2
def ST_enough (Inv : Nat → Mem → Mem → Prop) : Prop := ∀ (k : Nat) (σ μ : Mem) (x1 : Int32) , k < 512 → Inv k σ μ → ∃ (q1 : Int32 × Mem) (q2 : Int32 × Mem), f_X5_enough x1 σ = some q1 ∧ f_X6_enough x1 μ = some q2 ∧ q1.1 = q2.1 ∧ Inv (k + 1) q1.2 q2.2
def ST_hide (Inv : Nat → Mem → Mem → Prop) : Prop := ∀ (k : Nat) (σ μ : Mem) (x1 x2 : Int32) , k < 512 → Inv k σ μ → ∃ (q1 : Int32 × Mem) (q2 : Int32 × Mem), f_X5_hide x1 x2 σ = some q1 ∧ f_X6_hide x1 x2 μ = some q2 ∧ q1.1 = q2.1 ∧ Inv (k + 1) q1.2 q2.2
def ST_safe (Inv : Nat → Mem → Mem → Prop) : Prop := ∀ (k : Nat) (σ μ : Mem) (x1 x2 : Int32) , k < 512 → Inv k σ μ → ∃ (q1 : Int32 × Mem) (q2 : Int32 × Mem), f_X5_safe x1 x2 σ = some q1 ∧ f_X6_safe x1 x2 μ = some q2 ∧ q1.1 = q2.1 ∧ Inv (k + 1) q1.2 q2.2
def ST_sleep (Inv : Nat → Mem → Mem → Prop) : Prop := ∀ (k : Nat) (σ μ : Mem) (x1 : Int32) , k < 512 → Inv k σ μ → ∃ (q1 : Int32 × Mem) (q2 : Int32 × Mem), f_X5_sleep x1 σ = some q1 ∧ f_X6_sleep x1 μ = some q2 ∧ q1.1 = q2.1 ∧ Inv (k + 1) q1.2 q2.2
def ST_turns (Inv : Nat → Mem → Mem → Prop) : Prop := ∀ (k : Nat) (σ μ : Mem) , k < 512 → Inv k σ μ → ∃ (q1 : Int32) (q2 : Int32), f_X5_turns σ = some q1 ∧ f_X6_turns μ = some q2 ∧ q1 = q2 ∧ Inv (k + 1) σ μ
def ST_seat (Inv : Nat → Mem → Mem → Prop) : Prop := ∀ (k : Nat) (σ μ : Mem) (x1 x2 : Int32) , k < 512 → Inv k σ μ → ∃ (q1 : Int32 × Mem) (q2 : Int32 × Mem), f_X5_seat x1 x2 σ = some q1 ∧ f_X6_seat x1 x2 μ = some q2 ∧ q1.1 = q2.1 ∧ Inv (k + 1) q1.2 q2.2
def ST_kindFor (Inv : Nat → Mem → Mem → Prop) : Prop := ∀ (k : Nat) (σ μ : Mem) (x1 x2 : Int32) , k < 512 → Inv k σ μ → ∃ (q1 : Int32 × Mem) (q2 : Int32 × Mem), f_X5_kindFor x1 x2 σ = some q1 ∧ f_X6_kindFor x1 x2 μ = some q2 ∧ q1.1 = q2.1 ∧ Inv (k + 1) q1.2 q2.2
def ST_wantFor (Inv : Nat → Mem → Mem → Prop) : Prop := ∀ (k : Nat) (σ μ : Mem) (x1 x2 : Int32) , k < 512 → Inv k σ μ → ∃ (q1 : Int32 × Mem) (q2 : Int32 × Mem), f_X5_wantFor x1 x2 σ = some q1 ∧ f_X6_wantFor x1 x2 μ = some q2 ∧ q1.1 = q2.1 ∧ Inv (k + 1) q1.2 q2.2
def ST_watch (Inv : Nat → Mem → Mem → Prop) : Prop := ∀ (k : Nat) (σ μ : Mem) (x1 : Int32) , k < 512 → Inv k σ μ → ∃ (q1 : Int32 × Mem) (q2 : Int32 × Mem), f_X5_watch x1 σ = some q1 ∧ f_X6_watch x1 μ = some q2 ∧ q1.1 = q2.1 ∧ Inv (k + 1) q1.2 q2.2
def ST_fits (Inv : Nat → Mem → Mem → Prop) : Prop := ∀ (k : Nat) (σ μ : Mem) (x1 x2 x3 : Int32) , k < 512 → Inv k σ μ → ∃ (q1 : Int32 × Mem) (q2 : Int32 × Mem), f_X5_fits x1 x2 x3 σ = some q1 ∧ f_X6_fits x1 x2 x3 μ = some q2 ∧ q1.1 = q2.1 ∧ Inv (k + 1) q1.2 q2.2
def ST_opened (Inv : Nat → Mem → Mem → Prop) : Prop := ∀ (k : Nat) (σ μ : Mem) (x1 x2 x3 : Int32) , k < 512 → Inv k σ μ → ∃ (q1 : Int32 × Mem) (q2 : Int32 × Mem), f_X5_opened x1 x2 x3 σ = some q1 ∧ f_X6_opened x1 x2 x3 μ = some q2 ∧ q1.1 = q2.1 ∧ Inv (k + 1) q1.2 q2.2
def ST_kinds (Inv : Nat → Mem → Mem → Prop) : Prop := ∀ (k : Nat) (σ μ : Mem) (x1 x2 : Int32) , k < 512 → Inv k σ μ → ∃ (q1 : Int32 × Mem) (q2 : Int32 × Mem), f_X5_kinds x1 x2 σ = some q1 ∧ f_X6_kinds x1 x2 μ = some q2 ∧ q1.1 = q2.1 ∧ Inv (k + 1) q1.2 q2.2
def ST_nights (Inv : Nat → Mem → Mem → Prop) : Prop := ∀ (k : Nat) (σ μ : Mem) (x1 : Int32) , k < 512 → Inv k σ μ → ∃ (q1 : Int32 × Mem) (q2 : Int32 × Mem), f_X5_nights x1 σ = some q1 ∧ f_X6_nights x1 μ = some q2 ∧ q1.1 = q2.1 ∧ Inv (k + 1) q1.2 q2.2
def ST_odds (Inv : Nat → Mem → Mem → Prop) : Prop := ∀ (k : Nat) (σ μ : Mem) (x1 x2 : Int32) , k < 512 → Inv k σ μ → ∃ (q1 : Int64 × Mem) (q2 : Int64 × Mem), f_X5_odds x1 x2 σ = some q1 ∧ f_X6_odds x1 x2 μ = some q2 ∧ q1.1 = q2.1 ∧ Inv (k + 1) q1.2 q2.2
def ST_seed (Inv : Nat → Mem → Mem → Prop) : Prop := ∀ (k : Nat) (σ μ : Mem) (x1 : Int32) , k < 512 → Inv k σ μ → ∃ (q2 : Int32 × Mem), f_X6_seed x1 μ = some q2 ∧ (f_X5_seed x1 σ).1 = q2.1 ∧ Inv (k + 1) (f_X5_seed x1 σ).2 q2.2
def ST_feed (Inv : Nat → Mem → Mem → Prop) : Prop := ∀ (k : Nat) (σ μ : Mem) (x1 x2 : Int32) , k < 512 → Inv k σ μ → ∃ (q1 : Int32 × Mem) (q2 : Int32 × Mem), f_X5_feed x1 x2 σ = some q1 ∧ f_X6_feed x1 x2 μ = some q2 ∧ q1.1 = q2.1 ∧ Inv (k + 1) q1.2 q2.2
def ST_wipe (Inv : Nat → Mem → Mem → Prop) : Prop := ∀ (k : Nat) (σ μ : Mem) , k < 512 → Inv k σ μ → (f_X5_wipe σ).1 = (f_X6_wipe μ).1 ∧ Inv (k + 1) (f_X5_wipe σ).2 (f_X6_wipe μ).2
def ST_text (Inv : Nat → Mem → Mem → Prop) : Prop := ∀ (k : Nat) (σ μ : Mem) , k < 512 → Inv k σ μ → ∃ (q1 : Int32 × Mem) (q2 : Int32 × Mem), f_X5_text σ = some q1 ∧ f_X6_text μ = some q2 ∧ q1.1 = q2.1 ∧ Inv (k + 1) q1.2 q2.2
def ST_hold (Inv : Nat → Mem → Mem → Prop) : Prop := ∀ (k : Nat) (σ μ : Mem) (x1 x2 : Int32) , k < 512 → Inv k σ μ → ∃ (q1 : Int32 × Mem) (q2 : Int32 × Mem), f_X5_hold x1 x2 σ = some q1 ∧ f_X6_hold x1 x2 μ = some q2 ∧ q1.1 = q2.1 ∧ Inv (k + 1) q1.2 q2.2
def ST_as (Inv : Nat → Mem → Mem → Prop) : Prop := ∀ (k : Nat) (σ μ : Mem) (x1 x2 : Int32) , k < 512 → Inv k σ μ → ∃ (q1 : Int32 × Mem) (q2 : Int32 × Mem), f_X5_as x1 x2 σ = some q1 ∧ f_X6_as x1 x2 μ = some q2 ∧ q1.1 = q2.1 ∧ Inv (k + 1) q1.2 q2.2
def ST_sheet (Inv : Nat → Mem → Mem → Prop) : Prop := ∀ (k : Nat) (σ μ : Mem) (x1 x2 x3 : Int32) , k < 512 → Inv k σ μ → ∃ (q1 : Int32 × Mem) (q2 : Int32 × Mem), f_X5_sheet x1 x2 x3 σ = some q1 ∧ f_X6_sheet x1 x2 x3 μ = some q2 ∧ q1.1 = q2.1 ∧ Inv (k + 1) q1.2 q2.2
def ST_write (Inv : Nat → Mem → Mem → Prop) : Prop := ∀ (k : Nat) (σ μ : Mem) (x1 x2 x3 : Int32) , k < 512 → Inv k σ μ → ∃ (q1 : Int32 × Mem) (q2 : Int32 × Mem), f_X5_write x1 x2 x3 σ = some q1 ∧ f_X6_write x1 x2 x3 μ = some q2 ∧ q1.1 = q2.1 ∧ Inv (k + 1) q1.2 q2.2
def ST_copy (Inv : Nat → Mem → Mem → Prop) : Prop := ∀ (k : Nat) (σ μ : Mem) (x1 x2 x3 x4 x5 : Int32) , k < 512 → Inv k σ μ → ∃ (q1 : Int32 × Mem) (q2 : Int32 × Mem), f_X5_copy x1 x2 x3 x4 x5 σ = some q1 ∧ f_X6_copy x1 x2 x3 x4 x5 μ = some q2 ∧ q1.1 = q2.1 ∧ Inv (k + 1) q1.2 q2.2
def ST_load (Inv : Nat → Mem → Mem → Prop) : Prop := ∀ (k : Nat) (σ μ : Mem) (x1 : Int32) , k < 512 → Inv k σ μ → ∃ (q1 : Int32 × Mem) (q2 : Int32 × Mem), f_X5_load x1 σ = some q1 ∧ f_X6_load x1 μ = some q2 ∧ q1.1 = q2.1 ∧ Inv (k + 1) q1.2 q2.2
def ST_judge (Inv : Nat → Mem → Mem → Prop) : Prop := ∀ (k : Nat) (σ μ : Mem) (x1 : Int32) , k < 512 → Inv k σ μ → ∃ (q1 : Int32 × Mem) (q2 : Int32 × Mem), f_X5_judge x1 σ = some q1 ∧ f_X6_judge x1 μ = some q2 ∧ q1.1 = q2.1 ∧ Inv (k + 1) q1.2 q2.2
def ST_image (Inv : Nat → Mem → Mem → Prop) : Prop := ∀ (k : Nat) (σ μ : Mem) , k < 512 → Inv k σ μ → ∃ (q1 : Int32 × Mem) (q2 : Int32 × Mem), f_X5_image σ = some q1 ∧ f_X6_image μ = some q2 ∧ q1.1 = q2.1 ∧ Inv (k + 1) q1.2 q2.2
def ST_undo (Inv : Nat → Mem → Mem → Prop) : Prop := ∀ (k : Nat) (σ μ : Mem) , k < 512 → Inv k σ μ → ∃ (q1 : Int32 × Mem) (q2 : Int32 × Mem), f_X5_undo σ = some q1 ∧ f_X6_undo μ = some q2 ∧ q1.1 = q2.1 ∧ Inv (k + 1) q1.2 q2.2
def ST_tear (Inv : Nat → Mem → Mem → Prop) : Prop := ∀ (k : Nat) (σ μ : Mem) , k < 512 → Inv k σ μ → (f_X5_tear σ).1 = (f_X6_tear μ).1 ∧ Inv (k + 1) (f_X5_tear σ).2 (f_X6_tear μ).2
def ST_count (Inv : Nat → Mem → Mem → Prop) : Prop := ∀ (k : Nat) (σ μ : Mem) (x1 : Int32) , k < 512 → Inv k σ μ → ∃ (q1 : Int32 × Mem) (q2 : Int32 × Mem), f_X5_count x1 σ = some q1 ∧ f_X6_count x1 μ = some q2 ∧ q1.1 = q2.1 ∧ Inv (k + 1) q1.2 q2.2
def ST_status (Inv : Nat → Mem → Mem → Prop) : Prop := ∀ (k : Nat) (σ μ : Mem) (x1 : Int32) , k < 512 → Inv k σ μ → ∃ (q1 : Int32 × Mem) (q2 : Int32 × Mem), f_X5_status x1 σ = some q1 ∧ f_X6_status x1 μ = some q2 ∧ q1.1 = q2.1 ∧ Inv (k + 1) q1.2 q2.2
theorem ix_in {x3 : Int32} {k L : Nat} (hL : L ≤ 3072) (h : 6 * k + 6 ≤ L) (e : x3 = nI (6 * k)) (j : Nat) (hj : j < 6) : vp_in (x3 + nI j) L := by
  rw [e, nI_add]
  exact vp_in_nI (by omega) (by omega)
set_option maxHeartbeats 16000000 in
set_option maxRecDepth 100000 in
/-- THE LAW'S LOOP: at its head, behind k calls, the class and the reference are as Inv says -/
theorem law_loop (Inv : Nat → Mem → Mem → Prop) (s0 : ST_level Inv) (s1 : ST_stands Inv) (s2 : ST_plan Inv) (s3 : ST_opening Inv) (s4 : ST_steady Inv) (s5 : ST_watcher Inv) (s6 : ST_of Inv) (s7 : ST_change Inv) (s8 : ST_go Inv) (s9 : ST_now Inv) (s10 : ST_ahead Inv) (s11 : ST_belief Inv) (s12 : ST_when Inv) (s13 : ST_first Inv) (s14 : ST_reaches Inv) (s15 : ST_range Inv) (s16 : ST_enough Inv) (s17 : ST_hide Inv) (s18 : ST_safe Inv) (s19 : ST_sleep Inv) (s20 : ST_turns Inv) (s21 : ST_seat Inv) (s22 : ST_kindFor Inv) (s23 : ST_wantFor Inv) (s24 : ST_watch Inv) (s25 : ST_fits Inv) (s26 : ST_opened Inv) (s27 : ST_kinds Inv) (s28 : ST_nights Inv) (s29 : ST_odds Inv) (s30 : ST_seed Inv) (s31 : ST_feed Inv) (s32 : ST_wipe Inv) (s33 : ST_text Inv) (s34 : ST_hold Inv) (s35 : ST_as Inv) (s36 : ST_sheet Inv) (s37 : ST_write Inv) (s38 : ST_copy Inv) (s39 : ST_load Inv) (s40 : ST_judge Inv) (s41 : ST_image Inv) (s42 : ST_undo Inv) (s43 : ST_tear Inv) (s44 : ST_count Inv) (s45 : ST_status Inv) (sk : ∀ (k : Nat) (σ μ : Mem), k < 512 → Inv k σ μ → Inv (k + 1) σ μ) {p : Program} {l : Launch} {e : Env} {s : State} {m : MethodId} {below : List Frame} {meth : Method} {c : Code} {b L : Nat} {xs : Nat → Int32} {G : GG} {a a2 : Nat → Nat} {cells slots : Nat} (hL : L ≤ 3072) (C : LC p s m c b L xs G a a2) (hr : meth.sig.returnType = ret) (hlocks : meth.locks = false) (hfc : cells ≤ 600000 ∧ slots ≤ 7302250) :
    ∀ (n k : Nat) (x3 : Int32) (σ μ : Mem) (H : Heap) (locs : List Loc) (ls : Array Slot), 6 * k ≤ L + 6 → L + 7 ≤ 6 * k + n → x3 = nI (6 * k) → Inv k σ μ → LWS s G a a2 σ μ H locs → lv_has ls 4 [(3, .int x3), (2, .ref (a2 0)), (1, .ref (a 0)), (0, .ref b)] → W p l e room_1 s m #[Value.ref b] below meth c H locs cells slots (lw_Z below #[Value.ref b] s) (F0 m 18 ls []) := by
  obtain ⟨C0, hb, hml, hXS, hX, hbl, hj1, hj2, hdis, hA1, hA2⟩ := id C
  have hx := C0.1
  have hbA : ¬ A0 s b := Nat.not_le.mpr hbl
  have hf : cells ≤ room_1.cells ∧ slots ≤ room_1.slots := hfc
  intro n
  induction n with
  | zero =>
    intro k x3 σ μ H locs ls h1 h2
    exact absurd h2 (by omega)
  | succ n ih =>
    intro k x3 σ μ H locs ls hk hkn ex3 hI hLS hl
    obtain ⟨hP, hP2, hS⟩ := hLS
    refine lv_iload_n hx hb dL_law_18 rfl (lv_at hl 0 rfl) ?_
    refine lv_aload_n hx hb dL_law_19 rfl (lv_at hl 3 rfl) ?_
    refine va_slen hx hb hX hbl hbA hS dL_law_20 ?_
    refine lv_bipush (v := 6) hx hb dL_law_21 (by decide) ?_
    refine lv_isub hx hb dL_law_23 ?_
    refine lv_icmp_gt (tgt := 1567) hx hb dL_law_24 (by decide) (fun _ => ?_) (fun cg => ?_)
    · refine lv_iconst (v := 1) hx hb dL_law_1567 (by decide) ?_
      refine va_forget (fun q hq => hS.2.2 q hq) ?_
      refine W.widen (k := 600000) (n := 7302250) hfc.1 hfc.2 ?_
      exact lw_ret hx hb hr hlocks dL_law_1568
    · have h6 : 6 * k + 6 ≤ L := by
        rcases Nat.lt_or_ge L (6 * k + 6) with q | q
        · refine absurd ?_ cg
          rw [ex3, Int32.lt_iff_toInt_lt, show (Int32.ofNat L - 6).toInt = (L : Int) - 6 from pk_sub_toInt (a := L) (b := 6) (by omega) (by omega), nI_toInt (by omega)]
          omega
        · exact q
      have h0 : vp_in x3 L := by have := ix_in hL h6 ex3 0 (by omega); rwa [nI_0, Int32.add_zero] at this
      have h1 : vp_in (x3 + 1) L := ix_in hL h6 ex3 1 (by omega)
      have h2 : vp_in (x3 + 2) L := ix_in hL h6 ex3 2 (by omega)
      have h3 : vp_in (x3 + 3) L := ix_in hL h6 ex3 3 (by omega)
      have h4 : vp_in (x3 + 4) L := ix_in hL h6 ex3 4 (by omega)
      have h5 : vp_in (x3 + 5) L := ix_in hL h6 ex3 5 (by omega)
      have back : ∀ (σ μ : Mem) (H : Heap) (locs : List Loc), Inv (k + 1) σ μ → LWS s G a a2 σ μ H locs → W p l e room_1 s m #[Value.ref b] below meth c H locs cells slots (lw_Z below #[Value.ref b] s) (F0 m 1561 ls []) := by
        intro σ μ H locs hI hLS
        refine lv_iinc (v := x3 + 6) (lv' := [(3, .int (x3 + 6)), (2, .ref (a2 0)), (1, .ref (a 0)), (0, .ref b)]) hx hb dL_law_1561 hl (k := 0) rfl rfl (by decide) rfl (fun ls hl => ?_)
        refine lv_goto (tgt := 18) hx hb dL_law_1564 (by decide) ?_
        exact ih (k + 1) (x3 + 6) σ μ H locs ls (by omega) (by omega) (by rw [ex3]; exact (nI_add (6 * k) 6).trans (by rw [show 6 * k + 6 = 6 * (k + 1) by omega])) hI hLS hl
      refine lv_aload_n hx hb dL_law_27 rfl (lv_at hl 3 rfl) ?_
      refine lv_iload_n hx hb dL_law_28 rfl (lv_at hl 0 rfl) ?_
      refine va_sld hx hb hX hbl hbA hS h0 dL_law_29 ?_
      refine lv_bipush (v := 63) hx hb dL_law_30 (by decide) ?_
      refine lv_iand hx hb dL_law_32 ?_
      refine lv_topi (fun v ev => ?_)
      clear ev
      by_cases c0 : v = 0
      · refine lv_tableIn (off := 199) (tgt := 232) hx hb dL_law_33 (by rw [c0]; decide) (by rw [c0]; decide) (by rw [c0]; rfl) (by decide) ?_
        obtain ⟨q1, q2, e1, e2, he, hI⟩ := s0 k σ μ (xs (x3 + 1).toNatClampNeg) (xs (x3 + 2).toNatClampNeg) (by omega) hI
        exact lc_0 C ⟨hP, hP2, hS⟩ hf hl h1 h2 h3 h4 h5 q1 e1 q2 e2 he (fun H locs hLS => back _ _ H locs hI hLS)
      by_cases c1 : v = 1
      · refine lv_tableIn (off := 232) (tgt := 265) hx hb dL_law_33 (by rw [c1]; decide) (by rw [c1]; decide) (by rw [c1]; rfl) (by decide) ?_
        obtain ⟨q1, q2, e1, e2, he, hI⟩ := s1 k σ μ (xs (x3 + 1).toNatClampNeg) (by omega) hI
        exact lc_1 C ⟨hP, hP2, hS⟩ hf hl h1 h2 h3 h4 h5 q1 e1 q2 e2 he (fun H locs hLS => back _ _ H locs hI hLS)
      by_cases c2 : v = 2
      · refine lv_tableIn (off := 255) (tgt := 288) hx hb dL_law_33 (by rw [c2]; decide) (by rw [c2]; decide) (by rw [c2]; rfl) (by decide) ?_
        obtain ⟨q1, q2, e1, e2, he, hI⟩ := s2 k σ μ (xs (x3 + 1).toNatClampNeg) (xs (x3 + 2).toNatClampNeg) (by omega) hI
        exact lc_2 C ⟨hP, hP2, hS⟩ hf hl h1 h2 h3 h4 h5 q1 e1 q2 e2 he (fun H locs hLS => back _ _ H locs hI hLS)
      by_cases c3 : v = 3
      · refine lv_tableIn (off := 288) (tgt := 321) hx hb dL_law_33 (by rw [c3]; decide) (by rw [c3]; decide) (by rw [c3]; rfl) (by decide) ?_
        obtain ⟨q1, q2, e1, e2, he, hI⟩ := s3 k σ μ (xs (x3 + 1).toNatClampNeg) (by omega) hI
        exact lc_3 C ⟨hP, hP2, hS⟩ hf hl h1 h2 h3 h4 h5 q1 e1 q2 e2 he (fun H locs hLS => back _ _ H locs hI hLS)
      by_cases c4 : v = 4
      · refine lv_tableIn (off := 311) (tgt := 344) hx hb dL_law_33 (by rw [c4]; decide) (by rw [c4]; decide) (by rw [c4]; rfl) (by decide) ?_
        obtain ⟨q1, q2, e1, e2, he, hI⟩ := s4 k σ μ (xs (x3 + 1).toNatClampNeg) (by omega) hI
        exact lc_4 C ⟨hP, hP2, hS⟩ hf hl h1 h2 h3 h4 h5 q1 e1 q2 e2 he (fun H locs hLS => back _ _ H locs hI hLS)
      by_cases c5 : v = 5
      · refine lv_tableIn (off := 334) (tgt := 367) hx hb dL_law_33 (by rw [c5]; decide) (by rw [c5]; decide) (by rw [c5]; rfl) (by decide) ?_
        obtain ⟨q1, q2, e1, e2, he, hI⟩ := s5 k σ μ (xs (x3 + 1).toNatClampNeg) (xs (x3 + 2).toNatClampNeg) (by omega) hI
        exact lc_5 C ⟨hP, hP2, hS⟩ hf hl h1 h2 h3 h4 h5 q1 e1 q2 e2 he (fun H locs hLS => back _ _ H locs hI hLS)
      by_cases c6 : v = 6
      · refine lv_tableIn (off := 367) (tgt := 400) hx hb dL_law_33 (by rw [c6]; decide) (by rw [c6]; decide) (by rw [c6]; rfl) (by decide) ?_
        obtain ⟨q1, q2, e1, e2, he, hI⟩ := s6 k σ μ (xs (x3 + 1).toNatClampNeg) (xs (x3 + 2).toNatClampNeg) (by omega) hI
        exact lc_6 C ⟨hP, hP2, hS⟩ hf hl h1 h2 h3 h4 h5 q1 e1 q2 e2 he (fun H locs hLS => back _ _ H locs hI hLS)
      by_cases c7 : v = 7
      · refine lv_tableIn (off := 400) (tgt := 433) hx hb dL_law_33 (by rw [c7]; decide) (by rw [c7]; decide) (by rw [c7]; rfl) (by decide) ?_
        obtain ⟨q1, q2, e1, e2, he, hI⟩ := s7 k σ μ (xs (x3 + 1).toNatClampNeg) (xs (x3 + 2).toNatClampNeg) (xs (x3 + 3).toNatClampNeg) (by omega) hI
        exact lc_7 C ⟨hP, hP2, hS⟩ hf hl h1 h2 h3 h4 h5 q1 e1 q2 e2 he (fun H locs hLS => back _ _ H locs hI hLS)
      by_cases c8 : v = 8
      · refine lv_tableIn (off := 443) (tgt := 476) hx hb dL_law_33 (by rw [c8]; decide) (by rw [c8]; decide) (by rw [c8]; rfl) (by decide) ?_
        obtain ⟨q1, q2, e1, e2, he, hI⟩ := s8 k σ μ (xs (x3 + 1).toNatClampNeg) (by omega) hI
        exact lc_8 C ⟨hP, hP2, hS⟩ hf hl h1 h2 h3 h4 h5 q1 e1 q2 e2 he (fun H locs hLS => back _ _ H locs hI hLS)
      by_cases c9 : v = 9
      · refine lv_tableIn (off := 466) (tgt := 499) hx hb dL_law_33 (by rw [c9]; decide) (by rw [c9]; decide) (by rw [c9]; rfl) (by decide) ?_
        obtain ⟨q1, q2, e1, e2, he, hI⟩ := s9 k σ μ (xs (x3 + 1).toNatClampNeg) (by omega) hI
        exact lc_9 C ⟨hP, hP2, hS⟩ hf hl h1 h2 h3 h4 h5 q1 e1 q2 e2 he (fun H locs hLS => back _ _ H locs hI hLS)
      by_cases c10 : v = 10
      · refine lv_tableIn (off := 489) (tgt := 522) hx hb dL_law_33 (by rw [c10]; decide) (by rw [c10]; decide) (by rw [c10]; rfl) (by decide) ?_
        obtain ⟨q1, q2, e1, e2, he, hI⟩ := s10 k σ μ (xs (x3 + 1).toNatClampNeg) (xs (x3 + 2).toNatClampNeg) (by omega) hI
        exact lc_10 C ⟨hP, hP2, hS⟩ hf hl h1 h2 h3 h4 h5 q1 e1 q2 e2 he (fun H locs hLS => back _ _ H locs hI hLS)
      by_cases c11 : v = 11
      · refine lv_tableIn (off := 522) (tgt := 555) hx hb dL_law_33 (by rw [c11]; decide) (by rw [c11]; decide) (by rw [c11]; rfl) (by decide) ?_
        obtain ⟨q1, q2, e1, e2, he, hI⟩ := s11 k σ μ (xs (x3 + 1).toNatClampNeg) (xs (x3 + 2).toNatClampNeg) (xs (x3 + 3).toNatClampNeg) (by omega) hI
        exact lc_11 C ⟨hP, hP2, hS⟩ hf hl h1 h2 h3 h4 h5 q1 e1 q2 e2 he (fun H locs hLS => back _ _ H locs hI hLS)
      by_cases c12 : v = 12
      · refine lv_tableIn (off := 565) (tgt := 598) hx hb dL_law_33 (by rw [c12]; decide) (by rw [c12]; decide) (by rw [c12]; rfl) (by decide) ?_
        obtain ⟨q1, q2, e1, e2, he, hI⟩ := s12 k σ μ (xs (x3 + 1).toNatClampNeg) (by omega) hI
        exact lc_12 C ⟨hP, hP2, hS⟩ hf hl h1 h2 h3 h4 h5 q1 e1 q2 e2 he (fun H locs hLS => back _ _ H locs hI hLS)
      by_cases c13 : v = 13
      · refine lv_tableIn (off := 588) (tgt := 621) hx hb dL_law_33 (by rw [c13]; decide) (by rw [c13]; decide) (by rw [c13]; rfl) (by decide) ?_
        obtain ⟨q1, q2, e1, e2, he, hI⟩ := s13 k σ μ  (by omega) hI
        exact lc_13 C ⟨hP, hP2, hS⟩ hf hl h1 h2 h3 h4 h5 q1 e1 q2 e2 he (fun H locs hLS => back _ _ H locs hI hLS)
      by_cases c14 : v = 14
      · refine lv_tableIn (off := 601) (tgt := 634) hx hb dL_law_33 (by rw [c14]; decide) (by rw [c14]; decide) (by rw [c14]; rfl) (by decide) ?_
        obtain ⟨q1, q2, e1, e2, he, hI⟩ := s14 k σ μ (xs (x3 + 1).toNatClampNeg) (xs (x3 + 2).toNatClampNeg) (by omega) hI
        exact lc_14 C ⟨hP, hP2, hS⟩ hf hl h1 h2 h3 h4 h5 q1 e1 q2 e2 he (fun H locs hLS => back _ _ H locs hI hLS)
      by_cases c15 : v = 15
      · refine lv_tableIn (off := 634) (tgt := 667) hx hb dL_law_33 (by rw [c15]; decide) (by rw [c15]; decide) (by rw [c15]; rfl) (by decide) ?_
        obtain ⟨q1, q2, e1, e2, he, hI⟩ := s15 k σ μ (xs (x3 + 1).toNatClampNeg) (xs (x3 + 2).toNatClampNeg) (xs (x3 + 3).toNatClampNeg) (by omega) hI
        exact lc_15 C ⟨hP, hP2, hS⟩ hf hl h1 h2 h3 h4 h5 q1 e1 q2 e2 he (fun H locs hLS => back _ _ H locs hI hLS)
      by_cases c16 : v = 16
      · refine lv_tableIn (off := 677) (tgt := 710) hx hb dL_law_33 (by rw [c16]; decide) (by rw [c16]; decide) (by rw [c16]; rfl) (by decide) ?_
        obtain ⟨q1, q2, e1, e2, he, hI⟩ := s16 k σ μ (xs (x3 + 1).toNatClampNeg) (by omega) hI
        exact lc_16 C ⟨hP, hP2, hS⟩ hf hl h1 h2 h3 h4 h5 q1 e1 q2 e2 he (fun H locs hLS => back _ _ H locs hI hLS)
      by_cases c17 : v = 17
      · refine lv_tableIn (off := 700) (tgt := 733) hx hb dL_law_33 (by rw [c17]; decide) (by rw [c17]; decide) (by rw [c17]; rfl) (by decide) ?_
        obtain ⟨q1, q2, e1, e2, he, hI⟩ := s17 k σ μ (xs (x3 + 1).toNatClampNeg) (xs (x3 + 2).toNatClampNeg) (by omega) hI
        exact lc_17 C ⟨hP, hP2, hS⟩ hf hl h1 h2 h3 h4 h5 q1 e1 q2 e2 he (fun H locs hLS => back _ _ H locs hI hLS)
      by_cases c18 : v = 18
      · refine lv_tableIn (off := 733) (tgt := 766) hx hb dL_law_33 (by rw [c18]; decide) (by rw [c18]; decide) (by rw [c18]; rfl) (by decide) ?_
        obtain ⟨q1, q2, e1, e2, he, hI⟩ := s18 k σ μ (xs (x3 + 1).toNatClampNeg) (xs (x3 + 2).toNatClampNeg) (by omega) hI
        exact lc_18 C ⟨hP, hP2, hS⟩ hf hl h1 h2 h3 h4 h5 q1 e1 q2 e2 he (fun H locs hLS => back _ _ H locs hI hLS)
      by_cases c19 : v = 19
      · refine lv_tableIn (off := 766) (tgt := 799) hx hb dL_law_33 (by rw [c19]; decide) (by rw [c19]; decide) (by rw [c19]; rfl) (by decide) ?_
        obtain ⟨q1, q2, e1, e2, he, hI⟩ := s19 k σ μ (xs (x3 + 1).toNatClampNeg) (by omega) hI
        exact lc_19 C ⟨hP, hP2, hS⟩ hf hl h1 h2 h3 h4 h5 q1 e1 q2 e2 he (fun H locs hLS => back _ _ H locs hI hLS)
      by_cases c20 : v = 20
      · refine lv_tableIn (off := 789) (tgt := 822) hx hb dL_law_33 (by rw [c20]; decide) (by rw [c20]; decide) (by rw [c20]; rfl) (by decide) ?_
        obtain ⟨q1, q2, e1, e2, he, hI⟩ := s20 k σ μ  (by omega) hI
        exact lc_20 C ⟨hP, hP2, hS⟩ hf hl h1 h2 h3 h4 h5 q1 e1 q2 e2 he (fun H locs hLS => back _ _ H locs hI hLS)
      by_cases c21 : v = 21
      · refine lv_tableIn (off := 802) (tgt := 835) hx hb dL_law_33 (by rw [c21]; decide) (by rw [c21]; decide) (by rw [c21]; rfl) (by decide) ?_
        obtain ⟨q1, q2, e1, e2, he, hI⟩ := s21 k σ μ (xs (x3 + 1).toNatClampNeg) (xs (x3 + 2).toNatClampNeg) (by omega) hI
        exact lc_21 C ⟨hP, hP2, hS⟩ hf hl h1 h2 h3 h4 h5 q1 e1 q2 e2 he (fun H locs hLS => back _ _ H locs hI hLS)
      by_cases c22 : v = 22
      · refine lv_tableIn (off := 835) (tgt := 868) hx hb dL_law_33 (by rw [c22]; decide) (by rw [c22]; decide) (by rw [c22]; rfl) (by decide) ?_
        obtain ⟨q1, q2, e1, e2, he, hI⟩ := s22 k σ μ (xs (x3 + 1).toNatClampNeg) (xs (x3 + 2).toNatClampNeg) (by omega) hI
        exact lc_22 C ⟨hP, hP2, hS⟩ hf hl h1 h2 h3 h4 h5 q1 e1 q2 e2 he (fun H locs hLS => back _ _ H locs hI hLS)
      by_cases c23 : v = 23
      · refine lv_tableIn (off := 868) (tgt := 901) hx hb dL_law_33 (by rw [c23]; decide) (by rw [c23]; decide) (by rw [c23]; rfl) (by decide) ?_
        obtain ⟨q1, q2, e1, e2, he, hI⟩ := s23 k σ μ (xs (x3 + 1).toNatClampNeg) (xs (x3 + 2).toNatClampNeg) (by omega) hI
        exact lc_23 C ⟨hP, hP2, hS⟩ hf hl h1 h2 h3 h4 h5 q1 e1 q2 e2 he (fun H locs hLS => back _ _ H locs hI hLS)
      by_cases c24 : v = 24
      · refine lv_tableIn (off := 901) (tgt := 934) hx hb dL_law_33 (by rw [c24]; decide) (by rw [c24]; decide) (by rw [c24]; rfl) (by decide) ?_
        obtain ⟨q1, q2, e1, e2, he, hI⟩ := s24 k σ μ (xs (x3 + 1).toNatClampNeg) (by omega) hI
        exact lc_24 C ⟨hP, hP2, hS⟩ hf hl h1 h2 h3 h4 h5 q1 e1 q2 e2 he (fun H locs hLS => back _ _ H locs hI hLS)
      by_cases c25 : v = 25
      · refine lv_tableIn (off := 924) (tgt := 957) hx hb dL_law_33 (by rw [c25]; decide) (by rw [c25]; decide) (by rw [c25]; rfl) (by decide) ?_
        obtain ⟨q1, q2, e1, e2, he, hI⟩ := s25 k σ μ (xs (x3 + 1).toNatClampNeg) (xs (x3 + 2).toNatClampNeg) (xs (x3 + 3).toNatClampNeg) (by omega) hI
        exact lc_25 C ⟨hP, hP2, hS⟩ hf hl h1 h2 h3 h4 h5 q1 e1 q2 e2 he (fun H locs hLS => back _ _ H locs hI hLS)
      by_cases c26 : v = 26
      · refine lv_tableIn (off := 967) (tgt := 1000) hx hb dL_law_33 (by rw [c26]; decide) (by rw [c26]; decide) (by rw [c26]; rfl) (by decide) ?_
        obtain ⟨q1, q2, e1, e2, he, hI⟩ := s26 k σ μ (xs (x3 + 1).toNatClampNeg) (xs (x3 + 2).toNatClampNeg) (xs (x3 + 3).toNatClampNeg) (by omega) hI
        exact lc_26 C ⟨hP, hP2, hS⟩ hf hl h1 h2 h3 h4 h5 q1 e1 q2 e2 he (fun H locs hLS => back _ _ H locs hI hLS)
      by_cases c27 : v = 27
      · refine lv_tableIn (off := 1010) (tgt := 1043) hx hb dL_law_33 (by rw [c27]; decide) (by rw [c27]; decide) (by rw [c27]; rfl) (by decide) ?_
        obtain ⟨q1, q2, e1, e2, he, hI⟩ := s27 k σ μ (xs (x3 + 1).toNatClampNeg) (xs (x3 + 2).toNatClampNeg) (by omega) hI
        exact lc_27 C ⟨hP, hP2, hS⟩ hf hl h1 h2 h3 h4 h5 q1 e1 q2 e2 he (fun H locs hLS => back _ _ H locs hI hLS)
      by_cases c28 : v = 28
      · refine lv_tableIn (off := 1043) (tgt := 1076) hx hb dL_law_33 (by rw [c28]; decide) (by rw [c28]; decide) (by rw [c28]; rfl) (by decide) ?_
        obtain ⟨q1, q2, e1, e2, he, hI⟩ := s28 k σ μ (xs (x3 + 1).toNatClampNeg) (by omega) hI
        exact lc_28 C ⟨hP, hP2, hS⟩ hf hl h1 h2 h3 h4 h5 q1 e1 q2 e2 he (fun H locs hLS => back _ _ H locs hI hLS)
      by_cases c29 : v = 29
      · refine lv_tableIn (off := 1066) (tgt := 1099) hx hb dL_law_33 (by rw [c29]; decide) (by rw [c29]; decide) (by rw [c29]; rfl) (by decide) ?_
        obtain ⟨q1, q2, e1, e2, he, hI⟩ := s29 k σ μ (xs (x3 + 1).toNatClampNeg) (xs (x3 + 2).toNatClampNeg) (by omega) hI
        exact lc_29 C ⟨hP, hP2, hS⟩ hf hl h1 h2 h3 h4 h5 q1 e1 q2 e2 he (fun H locs hLS => back _ _ H locs hI hLS)
      by_cases c30 : v = 30
      · refine lv_tableIn (off := 1100) (tgt := 1133) hx hb dL_law_33 (by rw [c30]; decide) (by rw [c30]; decide) (by rw [c30]; rfl) (by decide) ?_
        obtain ⟨q2, e2, he, hI⟩ := s30 k σ μ (xs (x3 + 1).toNatClampNeg) (by omega) hI
        exact lc_30 C ⟨hP, hP2, hS⟩ hf hl h1 h2 h3 h4 h5 q2 e2 he (fun H locs hLS => back _ _ H locs hI hLS)
      by_cases c31 : v = 31
      · refine lv_tableIn (off := 1123) (tgt := 1156) hx hb dL_law_33 (by rw [c31]; decide) (by rw [c31]; decide) (by rw [c31]; rfl) (by decide) ?_
        obtain ⟨q1, q2, e1, e2, he, hI⟩ := s31 k σ μ (xs (x3 + 1).toNatClampNeg) (xs (x3 + 2).toNatClampNeg) (by omega) hI
        exact lc_31 C ⟨hP, hP2, hS⟩ hf hl h1 h2 h3 h4 h5 q1 e1 q2 e2 he (fun H locs hLS => back _ _ H locs hI hLS)
      by_cases c32 : v = 32
      · refine lv_tableIn (off := 1156) (tgt := 1189) hx hb dL_law_33 (by rw [c32]; decide) (by rw [c32]; decide) (by rw [c32]; rfl) (by decide) ?_
        obtain ⟨he, hI⟩ := s32 k σ μ  (by omega) hI
        exact lc_32 C ⟨hP, hP2, hS⟩ hf hl h1 h2 h3 h4 h5  he (fun H locs hLS => back _ _ H locs hI hLS)
      by_cases c33 : v = 33
      · refine lv_tableIn (off := 1169) (tgt := 1202) hx hb dL_law_33 (by rw [c33]; decide) (by rw [c33]; decide) (by rw [c33]; rfl) (by decide) ?_
        obtain ⟨q1, q2, e1, e2, he, hI⟩ := s33 k σ μ  (by omega) hI
        exact lc_33 C ⟨hP, hP2, hS⟩ hf hl h1 h2 h3 h4 h5 q1 e1 q2 e2 he (fun H locs hLS => back _ _ H locs hI hLS)
      by_cases c34 : v = 34
      · refine lv_tableIn (off := 1182) (tgt := 1215) hx hb dL_law_33 (by rw [c34]; decide) (by rw [c34]; decide) (by rw [c34]; rfl) (by decide) ?_
        obtain ⟨q1, q2, e1, e2, he, hI⟩ := s34 k σ μ (xs (x3 + 1).toNatClampNeg) (xs (x3 + 2).toNatClampNeg) (by omega) hI
        exact lc_34 C ⟨hP, hP2, hS⟩ hf hl h1 h2 h3 h4 h5 q1 e1 q2 e2 he (fun H locs hLS => back _ _ H locs hI hLS)
      by_cases c35 : v = 35
      · refine lv_tableIn (off := 1215) (tgt := 1248) hx hb dL_law_33 (by rw [c35]; decide) (by rw [c35]; decide) (by rw [c35]; rfl) (by decide) ?_
        obtain ⟨q1, q2, e1, e2, he, hI⟩ := s35 k σ μ (xs (x3 + 1).toNatClampNeg) (xs (x3 + 2).toNatClampNeg) (by omega) hI
        exact lc_35 C ⟨hP, hP2, hS⟩ hf hl h1 h2 h3 h4 h5 q1 e1 q2 e2 he (fun H locs hLS => back _ _ H locs hI hLS)
      by_cases c36 : v = 36
      · refine lv_tableIn (off := 1248) (tgt := 1281) hx hb dL_law_33 (by rw [c36]; decide) (by rw [c36]; decide) (by rw [c36]; rfl) (by decide) ?_
        obtain ⟨q1, q2, e1, e2, he, hI⟩ := s36 k σ μ (xs (x3 + 1).toNatClampNeg) (xs (x3 + 2).toNatClampNeg) (xs (x3 + 3).toNatClampNeg) (by omega) hI
        exact lc_36 C ⟨hP, hP2, hS⟩ hf hl h1 h2 h3 h4 h5 q1 e1 q2 e2 he (fun H locs hLS => back _ _ H locs hI hLS)
      by_cases c37 : v = 37
      · refine lv_tableIn (off := 1291) (tgt := 1324) hx hb dL_law_33 (by rw [c37]; decide) (by rw [c37]; decide) (by rw [c37]; rfl) (by decide) ?_
        obtain ⟨q1, q2, e1, e2, he, hI⟩ := s37 k σ μ (xs (x3 + 1).toNatClampNeg) (xs (x3 + 2).toNatClampNeg) (xs (x3 + 3).toNatClampNeg) (by omega) hI
        exact lc_37 C ⟨hP, hP2, hS⟩ hf hl h1 h2 h3 h4 h5 q1 e1 q2 e2 he (fun H locs hLS => back _ _ H locs hI hLS)
      by_cases c38 : v = 38
      · refine lv_tableIn (off := 1334) (tgt := 1367) hx hb dL_law_33 (by rw [c38]; decide) (by rw [c38]; decide) (by rw [c38]; rfl) (by decide) ?_
        obtain ⟨q1, q2, e1, e2, he, hI⟩ := s38 k σ μ (xs (x3 + 1).toNatClampNeg) (xs (x3 + 2).toNatClampNeg) (xs (x3 + 3).toNatClampNeg) (xs (x3 + 4).toNatClampNeg) (xs (x3 + 5).toNatClampNeg) (by omega) hI
        exact lc_38 C ⟨hP, hP2, hS⟩ hf hl h1 h2 h3 h4 h5 q1 e1 q2 e2 he (fun H locs hLS => back _ _ H locs hI hLS)
      by_cases c39 : v = 39
      · refine lv_tableIn (off := 1397) (tgt := 1430) hx hb dL_law_33 (by rw [c39]; decide) (by rw [c39]; decide) (by rw [c39]; rfl) (by decide) ?_
        obtain ⟨q1, q2, e1, e2, he, hI⟩ := s39 k σ μ (xs (x3 + 1).toNatClampNeg) (by omega) hI
        exact lc_39 C ⟨hP, hP2, hS⟩ hf hl h1 h2 h3 h4 h5 q1 e1 q2 e2 he (fun H locs hLS => back _ _ H locs hI hLS)
      by_cases c40 : v = 40
      · refine lv_tableIn (off := 1420) (tgt := 1453) hx hb dL_law_33 (by rw [c40]; decide) (by rw [c40]; decide) (by rw [c40]; rfl) (by decide) ?_
        obtain ⟨q1, q2, e1, e2, he, hI⟩ := s40 k σ μ (xs (x3 + 1).toNatClampNeg) (by omega) hI
        exact lc_40 C ⟨hP, hP2, hS⟩ hf hl h1 h2 h3 h4 h5 q1 e1 q2 e2 he (fun H locs hLS => back _ _ H locs hI hLS)
      by_cases c41 : v = 41
      · refine lv_tableIn (off := 1443) (tgt := 1476) hx hb dL_law_33 (by rw [c41]; decide) (by rw [c41]; decide) (by rw [c41]; rfl) (by decide) ?_
        obtain ⟨q1, q2, e1, e2, he, hI⟩ := s41 k σ μ  (by omega) hI
        exact lc_41 C ⟨hP, hP2, hS⟩ hf hl h1 h2 h3 h4 h5 q1 e1 q2 e2 he (fun H locs hLS => back _ _ H locs hI hLS)
      by_cases c42 : v = 42
      · refine lv_tableIn (off := 1456) (tgt := 1489) hx hb dL_law_33 (by rw [c42]; decide) (by rw [c42]; decide) (by rw [c42]; rfl) (by decide) ?_
        obtain ⟨q1, q2, e1, e2, he, hI⟩ := s42 k σ μ  (by omega) hI
        exact lc_42 C ⟨hP, hP2, hS⟩ hf hl h1 h2 h3 h4 h5 q1 e1 q2 e2 he (fun H locs hLS => back _ _ H locs hI hLS)
      by_cases c43 : v = 43
      · refine lv_tableIn (off := 1469) (tgt := 1502) hx hb dL_law_33 (by rw [c43]; decide) (by rw [c43]; decide) (by rw [c43]; rfl) (by decide) ?_
        obtain ⟨he, hI⟩ := s43 k σ μ  (by omega) hI
        exact lc_43 C ⟨hP, hP2, hS⟩ hf hl h1 h2 h3 h4 h5  he (fun H locs hLS => back _ _ H locs hI hLS)
      by_cases c44 : v = 44
      · refine lv_tableIn (off := 1482) (tgt := 1515) hx hb dL_law_33 (by rw [c44]; decide) (by rw [c44]; decide) (by rw [c44]; rfl) (by decide) ?_
        obtain ⟨q1, q2, e1, e2, he, hI⟩ := s44 k σ μ (xs (x3 + 1).toNatClampNeg) (by omega) hI
        exact lc_44 C ⟨hP, hP2, hS⟩ hf hl h1 h2 h3 h4 h5 q1 e1 q2 e2 he (fun H locs hLS => back _ _ H locs hI hLS)
      by_cases c45 : v = 45
      · refine lv_tableIn (off := 1505) (tgt := 1538) hx hb dL_law_33 (by rw [c45]; decide) (by rw [c45]; decide) (by rw [c45]; rfl) (by decide) ?_
        obtain ⟨q1, q2, e1, e2, he, hI⟩ := s45 k σ μ (xs (x3 + 1).toNatClampNeg) (by omega) hI
        exact lc_45 C ⟨hP, hP2, hS⟩ hf hl h1 h2 h3 h4 h5 q1 e1 q2 e2 he (fun H locs hLS => back _ _ H locs hI hLS)
      refine lv_tableOut (tgt := 1561) hx hb dL_law_33 (by have t0 := lv_neT c0 (a := 0) rfl; have t1 := lv_neT c1 (a := 1) rfl; have t2 := lv_neT c2 (a := 2) rfl; have t3 := lv_neT c3 (a := 3) rfl; have t4 := lv_neT c4 (a := 4) rfl; have t5 := lv_neT c5 (a := 5) rfl; have t6 := lv_neT c6 (a := 6) rfl; have t7 := lv_neT c7 (a := 7) rfl; have t8 := lv_neT c8 (a := 8) rfl; have t9 := lv_neT c9 (a := 9) rfl; have t10 := lv_neT c10 (a := 10) rfl; have t11 := lv_neT c11 (a := 11) rfl; have t12 := lv_neT c12 (a := 12) rfl; have t13 := lv_neT c13 (a := 13) rfl; have t14 := lv_neT c14 (a := 14) rfl; have t15 := lv_neT c15 (a := 15) rfl; have t16 := lv_neT c16 (a := 16) rfl; have t17 := lv_neT c17 (a := 17) rfl; have t18 := lv_neT c18 (a := 18) rfl; have t19 := lv_neT c19 (a := 19) rfl; have t20 := lv_neT c20 (a := 20) rfl; have t21 := lv_neT c21 (a := 21) rfl; have t22 := lv_neT c22 (a := 22) rfl; have t23 := lv_neT c23 (a := 23) rfl; have t24 := lv_neT c24 (a := 24) rfl; have t25 := lv_neT c25 (a := 25) rfl; have t26 := lv_neT c26 (a := 26) rfl; have t27 := lv_neT c27 (a := 27) rfl; have t28 := lv_neT c28 (a := 28) rfl; have t29 := lv_neT c29 (a := 29) rfl; have t30 := lv_neT c30 (a := 30) rfl; have t31 := lv_neT c31 (a := 31) rfl; have t32 := lv_neT c32 (a := 32) rfl; have t33 := lv_neT c33 (a := 33) rfl; have t34 := lv_neT c34 (a := 34) rfl; have t35 := lv_neT c35 (a := 35) rfl; have t36 := lv_neT c36 (a := 36) rfl; have t37 := lv_neT c37 (a := 37) rfl; have t38 := lv_neT c38 (a := 38) rfl; have t39 := lv_neT c39 (a := 39) rfl; have t40 := lv_neT c40 (a := 40) rfl; have t41 := lv_neT c41 (a := 41) rfl; have t42 := lv_neT c42 (a := 42) rfl; have t43 := lv_neT c43 (a := 43) rfl; have t44 := lv_neT c44 (a := 44) rfl; have t45 := lv_neT c45 (a := 45) rfl; omega) (by decide) ?_
      exact back σ μ H locs (sk k σ μ (by omega) hI) ⟨hP, hP2, hS⟩
