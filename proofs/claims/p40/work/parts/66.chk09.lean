theorem yc_271 : y_ckE yP0 yTY zTF yRC yGR yCTab yk_271 yh_271 16470 = true := by decide +kernel
theorem yd_271 : ∀ h ∈ yh_271, y_ckH yP0 yTY zTF yRC yGR yCTab yk_271 yh_271 16470 h = true := fun _ h => absurd h List.not_mem_nil
