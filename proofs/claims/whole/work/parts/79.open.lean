/-! pairs that are still open -/
theorem pr_sea (σ : PS) (h : Rel σ) (p0 p1 p2 p3 : Int32) : Pair (F_X4_sea p0 p1 p2 p3) (F_X5_sea p0 p1 p2 p3) σ := sorry
theorem pr_grow (σ : PS) (h : Rel σ) (p0 : Int32) : Pair (F_X4_grow p0) (F_X5_grow p0) σ := sorry
theorem pr_step (σ : PS) (h : Rel σ) (p0 : Int32) : Pair (F_X4_step p0) (F_X5_step p0) σ := sorry
theorem pr_voyage (σ : PS) (h : Rel σ) (p0 p1 p2 p3 p4 : Int32) : Pair (F_X4_voyage p0 p1 p2 p3 p4) (F_X5_voyage p0 p1 p2 p3 p4) σ := sorry
theorem pr_way (σ : PS) (h : Rel σ) (p0 p1 : Int32) : Pair (F_X4_way p0 p1) (F_X5_way p0 p1) σ := sorry
theorem pr_most (σ : PS) (h : Rel σ) (p0 p1 : Int32) : Pair (F_X4_most p0 p1) (F_X5_most p0 p1) σ := sorry
theorem pr_flat (σ : PS) (h : Rel σ) (p0 : Int32) : Pair (F_X4_flat p0) (F_X5_flat p0) σ := sorry
theorem pr_begun (σ : PS) (h : Rel σ) (p0 p1 p2 p3 p4 p5 : Int32) : Pair (F_X4_begun p0 p1 p2 p3 p4 p5) (F_X5_begun p0 p1 p2 p3 p4 p5) σ := sorry
theorem pr_run (σ : PS) (h : Rel σ) (p0 p1 p2 p3 p4 : Int32) : Pair (F_X4_run p0 p1 p2 p3 p4) (F_X5_run p0 p1 p2 p3 p4) σ := sorry
theorem pr_shorts (σ : PS) (h : Rel σ) (p0 : Int32) : Pair (F_X4_shorts p0) (F_X5_shorts p0) σ := sorry
theorem pr_kinds (σ : PS) (h : Rel σ) (p0 : Int32) : Pair (F_X4_kinds p0) (F_X5_kinds p0) σ := sorry
theorem pr_odds (σ : PS) (h : Rel σ) (p0 p1 p2 : Int32) : Pair (F_X4_odds p0 p1 p2) (F_X5_odds p0 p1 p2) σ := sorry
theorem pr_copy (σ : PS) (h : Rel σ) (p0 p1 p2 p3 p4 : Int32) : Pair (F_X4_copy p0 p1 p2 p3 p4) (F_X5_copy p0 p1 p2 p3 p4) σ := sorry
theorem pr_many (σ : PS) (h : Rel σ) (p0 : Int32) : Pair (F_X4_many p0) (F_X5_many p0) σ := sorry
