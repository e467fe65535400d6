/-! ===== the methods' tables against their bytes (printed by wip/gen/methods.py) ===== -/

